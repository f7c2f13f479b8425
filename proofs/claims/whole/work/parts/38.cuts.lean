/-! ===== PURE: intervals ===== -/
def cnt (l : List Int) (v : Int) : Nat := l.countP (fun x => decide (x < v))
def insF (l : List Int) (v : Int) : List Int := if v ∈ l then l else l.take (cnt l v) ++ v :: l.drop (cnt l v)
def srt (l : List Int) : Prop := l.Pairwise (fun a b => a < b)
theorem cnt_le (l : List Int) (v : Int) : cnt l v ≤ l.length := List.countP_le_length
theorem srt_cnt : ∀ {l : List Int} {v : Int}, srt l → ∀ (i : Nat) (h : i < l.length), (l[i] < v ↔ i < cnt l v)
  | [], v, _, i, h => by simp at h
  | a :: l, v, hs, i, h => by
    unfold srt at hs
    rw [List.pairwise_cons] at hs
    by_cases ha : a < v
    · have e : cnt (a :: l) v = cnt l v + 1 := by unfold cnt; rw [List.countP_cons_of_pos (by simpa using ha)]
      rw [e]
      cases i with
      | zero => exact ⟨fun _ => by omega, fun _ => ha⟩
      | succ i =>
        have := srt_cnt (l := l) (v := v) hs.2 i (by simp at h; omega)
        rw [show (a :: l)[i + 1] = l[i]'(by simp at h; omega) from rfl, this]; omega
    · have e0 : cnt l v = 0 := by
        unfold cnt; rw [List.countP_eq_zero]
        intro x hx; have := hs.1 x hx; simp; omega
      have e : cnt (a :: l) v = 0 := by unfold cnt at e0 ⊢; rw [List.countP_cons_of_neg (by simpa using ha)]; exact e0
      rw [e]
      cases i with
      | zero => exact ⟨fun hh => absurd hh ha, fun hh => by omega⟩
      | succ i =>
        have := srt_cnt (l := l) (v := v) hs.2 i (by simp at h; omega)
        rw [show (a :: l)[i + 1] = l[i]'(by simp at h; omega) from rfl, this, e0]; omega
theorem insF_len {l : List Int} {v : Int} : (insF l v).length = if v ∈ l then l.length else l.length + 1 := by
  unfold insF; split
  · rfl
  · have := cnt_le l v
    rw [List.length_append, List.length_cons, List.length_take, List.length_drop]; omega
theorem insF_get {l : List Int} {v : Int} (hv : ¬ v ∈ l) (i : Nat) : (insF l v)[i]? = if i < cnt l v then l[i]? else if i = cnt l v then some v else l[i - 1]? := by
  have hk := cnt_le l v
  unfold insF
  rw [if_neg hv]
  by_cases c1 : i < cnt l v
  · rw [if_pos c1, List.getElem?_append_left (by rw [List.length_take]; omega), List.getElem?_take, if_pos c1]
  · rw [if_neg c1, List.getElem?_append_right (by rw [List.length_take]; omega), List.length_take]
    by_cases c2 : i = cnt l v
    · rw [if_pos c2, show i - min (cnt l v) l.length = 0 by omega]; rfl
    · rw [if_neg c2, show i - min (cnt l v) l.length = (i - 1 - cnt l v) + 1 by omega, List.getElem?_cons_succ, List.getElem?_drop, show cnt l v + (i - 1 - cnt l v) = i - 1 by omega]
theorem insF_srt {l : List Int} {v : Int} (h : srt l) : srt (insF l v) := by
  unfold insF
  split
  · exact h
  · rename_i hv
    have h' : (l.take (cnt l v) ++ l.drop (cnt l v)).Pairwise (fun a b => a < b) := by rw [List.take_append_drop]; exact h
    rw [List.pairwise_append] at h'
    have h1 : ∀ a ∈ l.take (cnt l v), a < v := by
      intro a ha
      obtain ⟨i, hi, e⟩ := List.getElem_of_mem ha
      rw [List.length_take] at hi
      rw [List.getElem_take] at e
      rw [← e]; exact (srt_cnt h i (by omega)).mpr (by omega)
    have h2 : ∀ b ∈ l.drop (cnt l v), v < b := by
      intro b hb
      obtain ⟨i, hi, e⟩ := List.getElem_of_mem hb
      rw [List.length_drop] at hi
      rw [List.getElem_drop] at e
      have hn : ¬ l[cnt l v + i]'(by omega) < v := fun hh => by have := (srt_cnt h _ _).mp hh; omega
      rw [e] at hn
      have hne : b ≠ v := fun hh => hv (hh ▸ List.mem_of_mem_drop hb)
      omega
    unfold srt
    rw [List.pairwise_append, List.pairwise_cons]
    refine ⟨h'.1, ⟨h2, h'.2.1⟩, fun a ha b hb => ?_⟩
    rw [List.mem_cons] at hb
    rcases hb with hb | hb
    · rw [hb]; exact h1 a ha
    · exact h'.2.2 a ha b hb
theorem insF_mem {l : List Int} {v x : Int} : x ∈ insF l v ↔ x = v ∨ x ∈ l := by
  unfold insF; split
  · rename_i h
    exact ⟨fun hh => Or.inr hh, fun hh => hh.elim (fun e => e ▸ h) id⟩
  · rw [List.mem_append, List.mem_cons]
    have : x ∈ l ↔ x ∈ l.take (cnt l v) ∨ x ∈ l.drop (cnt l v) := by rw [← List.mem_append, List.take_append_drop]
    rw [this]
    constructor
    · rintro (h | h | h)
      · exact Or.inr (Or.inl h)
      · exact Or.inl h
      · exact Or.inr (Or.inr h)
    · rintro (h | h | h)
      · exact Or.inr (Or.inl h)
      · exact Or.inl h
      · exact Or.inr (Or.inr h)
/-- one division -/
def stp (lo hi : Int) (l : List Int) (v : Int) : List Int := if v ≤ lo ∨ hi < v then l else insF l v
/-- a row of intervals: rising, from lo on, up to hi at most -/
def okR (lo hi : Int) (l : List Int) : Prop := srt l ∧ (∃ r, l = lo :: r) ∧ ∀ x ∈ l, lo ≤ x ∧ x ≤ hi
theorem insF_head {lo v : Int} {l : List Int} (h : ∃ r, l = lo :: r) (hv : lo < v) : ∃ r, insF l v = lo :: r := by
  obtain ⟨r, rfl⟩ := h
  unfold insF; split
  · exact ⟨r, rfl⟩
  · have e : cnt (lo :: r) v = cnt r v + 1 := by unfold cnt; rw [List.countP_cons_of_pos (by simpa using hv)]
    rw [e]; exact ⟨_, rfl⟩
theorem stp_ok {lo hi v : Int} {l : List Int} (h : okR lo hi l) : okR lo hi (stp lo hi l v) := by
  unfold stp; split
  · exact h
  · refine ⟨insF_srt h.1, insF_head h.2.1 (by omega), fun x hx => ?_⟩
    rcases insF_mem.mp hx with hx | hx
    · omega
    · exact h.2.2 x hx
/-- least and greatest of a dimension -/
def dLo (k : Nat) : Int := if k < 3 then -2147483648 else 0
def dHi (ps : PS) (k : Nat) : Int := if k < 3 then 2147483647 else (((pC ps).map Prod.snd).getD (k - 3) 0 : Nat)
/-- what a guard divides, of call c -/
def cutG (ps : PS) (c : Nat) (d : Gd) : List (Nat × Int) := if sbj ps d < 3 ∧ c % 4 ≤ sbj ps d then [] else (if gH d = 2 then [] else [(sbj ps d, gV d)]) ++ (if gH d = 0 then [] else [(sbj ps d, gV d + 1)])
def cutW (ps : PS) (c : Nat) (w : Wy) : List (Nat × Int) := if wCl w = -1 ∨ wCl w = (c : Int) then (List.range' (wF w) (wM w)).flatMap (fun g => cutG ps c ((pG ps).getD g gdD)) else []
def cutA (ps : PS) (c : Nat) : List (Nat × Int) := (pW ps).flatMap (cutW ps c)
def stK (ps : PS) (k : Nat) (l : List Int) (x : Nat × Int) : List Int := if x.1 = k then stp (dLo k) (dHi ps k) l x.2 else l
def dimF (ps : PS) (k : Nat) (L : List (Nat × Int)) : List Int := L.foldl (stK ps k) [dLo k]
/-- the intervals of call c in dimension k -/
def dimL (ps : PS) (c k : Nat) : List Int := dimF ps k (cutA ps c)
theorem dimF_app {ps : PS} {k : Nat} {L M : List (Nat × Int)} : dimF ps k (L ++ M) = M.foldl (stK ps k) (dimF ps k L) := by unfold dimF; rw [List.foldl_append]
theorem stK_ok {ps : PS} {k : Nat} {l : List Int} {x : Nat × Int} (h : okR (dLo k) (dHi ps k) l) : okR (dLo k) (dHi ps k) (stK ps k l x) := by
  unfold stK; split
  · exact stp_ok h
  · exact h
theorem fold_ok {ps : PS} {k : Nat} : ∀ (L : List (Nat × Int)) (l : List Int), okR (dLo k) (dHi ps k) l → okR (dLo k) (dHi ps k) (L.foldl (stK ps k) l)
  | [], l, h => h
  | x :: L, l, h => fold_ok L _ (stK_ok h)
theorem stp_len {lo hi v : Int} {l : List Int} : l.length ≤ (stp lo hi l v).length ∧ (stp lo hi l v).length ≤ l.length + 1 := by
  unfold stp; split
  · omega
  · rw [insF_len]; split <;> omega
theorem fold_len {ps : PS} {k : Nat} : ∀ (L : List (Nat × Int)) (l : List Int), l.length ≤ (L.foldl (stK ps k) l).length ∧ (L.foldl (stK ps k) l).length ≤ l.length + L.length
  | [], l => by simp
  | x :: L, l => by
    have := fold_len (ps := ps) (k := k) L (stK ps k l x)
    have h2 : l.length ≤ (stK ps k l x).length ∧ (stK ps k l x).length ≤ l.length + 1 := by
      unfold stK; split
      · exact stp_len
      · omega
    rw [List.foldl_cons, List.length_cons]; omega
theorem dLo_hi {ps : PS} (k : Nat) : dLo k ≤ dHi ps k := by unfold dLo dHi; split <;> omega
theorem dimF_ok (ps : PS) (k : Nat) (L : List (Nat × Int)) : okR (dLo k) (dHi ps k) (dimF ps k L) := by
  refine fold_ok L _ ⟨by unfold srt; simp, ⟨[], rfl⟩, fun x hx => ?_⟩
  rw [List.mem_singleton] at hx
  have := dLo_hi (ps := ps) k
  omega
theorem cutG_len (ps : PS) (c : Nat) (d : Gd) : (cutG ps c d).length ≤ 2 := by unfold cutG; split <;> (try split) <;> (try split) <;> simp
theorem flat_len2 {α β : Type} {f : α → List β} {m : Nat} (l : List α) (h : ∀ x, (f x).length ≤ m) : (l.flatMap f).length ≤ m * l.length := flat_len l (fun x _ => h x)
theorem cutW_len {ps : PS} {c : Nat} {w : Wy} (h : wM w ≤ 4) : (cutW ps c w).length ≤ 8 := by
  unfold cutW; split
  · have := flat_len2 (List.range' (wF w) (wM w)) (fun g => cutG_len ps c ((pG ps).getD g gdD))
    rw [List.length_range'] at this; omega
  · simp
/-- a row in an array -/
def arow (f : Nat → Int32) (b : Nat) (l : List Int) : Prop := ∀ (i : Nat) (h : i < l.length), f (b + i) = Int32.ofInt l[i]
