/-! ===== PURE: the watch ===== -/
noncomputable def stQ (ps : PS) (S : List Int32) (x : Int32) : Nat := (LL2 ps S).idxOf (rep (Dof ps S) S.length (offs ps 16) (S.idxOf x))
/-- a set that can be come to -/
def inQ (ps : PS) (S : List Int32) (x : Int32) : Prop := x ∈ S ∧ rep (Dof ps S) S.length (offs ps 16) (S.idxOf x) ∈ LL2 ps S
theorem idx_get {α : Type} [BEq α] [LawfulBEq α] {l : List α} {x : α} (h : x ∈ l) : l[l.idxOf x]'(List.idxOf_lt_length_of_mem h) = x := List.getElem_idxOf _
section
variable {ps : PS} {S : List Int32}
theorem mkd.cl (h : mkd ps S) : ∀ k b, k < S.length → b < offs ps 16 → ∀ t, Dof ps S k b = some t → t < S.length := fun k b hk hb t ht => Dof_lt hk (h.2.2.2.2.2.2.2.1 k hk b hb) ht
theorem inQ.lt {x : Int32} (h : inQ ps S x) : stQ ps S x < nn ps S := List.idxOf_lt_length_of_mem h.2
theorem TT_step {x : Int32} {a : Nat} (hm : mkd ps S) (hx : inQ ps S x) (ha : a < offs ps 16) : (trA ps a x = 0 → TT ps S (stQ ps S x) a = none) ∧ (trA ps a x ≠ 0 → TT ps S (stQ ps S x) a = some (stQ ps S (trA ps a x)) ∧ inQ ps S (trA ps a x)) := by
  have hk := List.idxOf_lt_length_of_mem hx.1
  have hcl := hm.cl
  have hnu := hm.2.2.2.2.2.2.2.2
  have hmem := hm.2.2.2.2.2.2.2.1 _ hk a ha
  have hsx : S[S.idxOf x] = x := idx_get hx.1
  have hD : Dof ps S (S.idxOf x) a = if trA ps a x = 0 then none else some (S.idxOf (trA ps a x)) := by
    unfold Dof; rw [getD_at hk, hsx]
  rw [hsx] at hmem
  have hq := List.idxOf_lt_length_of_mem hx.2
  have hLq : (LL2 ps S).getD (stQ ps S x) 0 = rep (Dof ps S) S.length (offs ps 16) (S.idxOf x) := by
    unfold stQ; rw [getD_at hq]; exact idx_get hx.2
  have hT : TT ps S (stQ ps S x) a = (Dof ps S (rep (Dof ps S) S.length (offs ps 16) (S.idxOf x)) a).map (fun t => (LL2 ps S).idxOf (rep (Dof ps S) S.length (offs ps 16) t)) := by
    show stT (Dof ps S) S.length (offs ps 16) (stQ ps S x) a = _
    unfold stT
    show (Dof ps S ((LL2 ps S).getD (stQ ps S x) 0) a).map _ = _
    rw [hLq]; rfl
  have hmap := rep_D hcl hk ha
  refine ⟨fun h0 => ?_, fun h0 => ?_⟩
  · rw [hD, if_pos h0] at hmap
    rw [hT]
    cases hd : Dof ps S (rep (Dof ps S) S.length (offs ps 16) (S.idxOf x)) a with
    | none => rfl
    | some u => rw [hd] at hmap; exact absurd hmap (by simp)
  · rw [hD, if_neg h0] at hmap
    rw [hT]
    cases hd : Dof ps S (rep (Dof ps S) S.length (offs ps 16) (S.idxOf x)) a with
    | none => rw [hd] at hmap; exact absurd hmap (by simp)
    | some u =>
      rw [hd] at hmap
      have hru : rep (Dof ps S) S.length (offs ps 16) u = rep (Dof ps S) S.length (offs ps 16) (S.idxOf (trA ps a x)) := by simpa using hmap.symm
      refine ⟨?_, hmem.resolve_left h0, ?_⟩
      · show some ((LL2 ps S).idxOf (rep (Dof ps S) S.length (offs ps 16) u)) = some _
        rw [hru]; rfl
      · rw [← hru]
        have := hnu.2 (stQ ps S x) hq a ha (Or.inl hq) u (by
          have : (LL2 ps S).getD (stQ ps S x) 0 = (stL (Dof ps S) S.length (offs ps 16))[stQ ps S x] := getD_at hq
          rw [← this, hLq]; exact hd)
        exact this
theorem stQ_one (hm : mkd ps S) (h1 : S.head? = some 1) : inQ ps S 1 ∧ stQ ps S 1 = 0 := by
  have hnu := hm.2.2.2.2.2.2.2.2
  have hidx : S.idxOf (1 : Int32) = 0 := by
    cases hS : S with
    | nil => rw [hS] at h1; exact absurd h1 (by simp)
    | cons a l => rw [hS] at h1; simp at h1; subst h1; simp
  have hr : rep (Dof ps S) S.length (offs ps 16) 0 = 0 := rep_zero hm.2.2.2.2.2.1
  have hh : (LL2 ps S).head? = some 0 := hnu.1.2.2
  refine ⟨⟨?_, ?_⟩, ?_⟩
  · exact List.mem_of_mem_head? (by rw [h1]; rfl)
  · rw [hidx, hr]; exact List.mem_of_mem_head? (by rw [hh]; rfl)
  · unfold stQ; rw [hidx, hr]
    cases hL : LL2 ps S with
    | nil => rw [hL] at hh; exact absurd hh (by simp)
    | cons a l => rw [hL] at hh; simp at hh; subst hh; simp
end
theorem addS_head {S S' : List Int32} {y : Int32} (h : addS S y = some S') (h1 : S.head? = some 1) : S'.head? = some 1 := by
  unfold addS at h
  split at h
  · cases h; exact h1
  · split at h
    · exact absurd h (by simp)
    · cases h; rw [List.head?_append, h1]; rfl
theorem rowR_head {tr : Nat → Int32 → Int32} {x : Int32} : ∀ (r a : Nat) (S S' : List Int32), rowR tr x r a S = some S' → S.head? = some 1 → S'.head? = some 1
  | 0, a, S, S', h, h1 => by rw [rowR] at h; cases h; exact h1
  | r + 1, a, S, S', h, h1 => by
    rw [rowR] at h
    split at h
    · exact absurd h (by simp)
    · rename_i S2 h2; exact rowR_head r (a + 1) S2 S' h (addS_head h2 h1)
theorem bfs_head {tr : Nat → Int32 → Int32} {N : Nat} : ∀ (f k : Nat) (S S' : List Int32), bfs tr N f k S = some S' → S.head? = some 1 → S'.head? = some 1
  | 0, k, S, S', h, h1 => by rw [bfs] at h; cases h; exact h1
  | f + 1, k, S, S', h, h1 => by
    rw [bfs] at h
    split at h
    · split at h
      · exact absurd h (by simp)
      · rename_i S2 h2; exact bfs_head f (k + 1) S2 S' h (rowR_head _ _ _ _ h2 h1)
    · cases h; exact h1
theorem mkd.head {ps : PS} {S : List Int32} (h : mkd ps S) : S.head? = some 1 := bfs_head 64 0 [1] S h.2.2.2.2.1 rfl
/-- a call's values -/
def vOf (a b c : Int32) (f : Nat → Int32) (i : Nat) : Int32 := if i = 0 then a else if i = 1 then b else if i = 2 then c else f (i - 3)
theorem inD_v {ps : PS} {a b c : Int32} {f : Nat → Int32} (hwf : wfI ps) (h : okR6 ps f) : inD ps (vOf a b c f) := by
  intro d h3 hd
  obtain ⟨n, hn, e⟩ := h (d - 3) hd
  have := mst_le hwf (d - 3)
  unfold vOf dHi
  rw [if_neg (by omega), if_neg (by omega), if_neg (by omega), if_neg (by omega), e, nI_toIntU (by omega)]
  omega
section
variable {s : yS} {p : Nat}
/-- the policy in use -/
def puC (s : yS) (p : Nat) (ps : PS) : Prop := poC s p ps ∨ (sI s p 0) = 0 ∧ pC ps = []
def dPa (g a i : Nat) : Prop := (a = g ∧ i = 0) ∨ a = g + 1 ∨ a = g + 2
theorem c_pass {ps : PS} {S : List Int32} {g c : Nat} {x v3 v4 v5 : Int32} {Q : Int32 → yS → Prop} (hpp : p = 3 ∨ p = 20) (hg : g = 125 ∨ g = 136) (hm : mkd ps S) (hp : puC s p ps) (hl : plC s p ps S) (hc : c < 16) (hx : inQ ps S x) (hq : sI s g 0 = nI (stQ ps S x)) (hok : okR6 ps (sI s (g + 1)))
    (H1 : stepP ps c (vOf v3 v4 v5 (sI s (g + 1))) x ≠ 0 → inQ ps S (stepP ps c (vOf v3 v4 v5 (sI s (g + 1))) x) → ∀ s', frM (dPa g) s s' → sI s' g 0 = nI (stQ ps S (stepP ps c (vOf v3 v4 v5 (sI s (g + 1))) x)) → (∀ k, sI s' (g + 1) k = if k < (pC ps).length then nxt ps c (vOf v3 v4 v5 (sI s (g + 1))) k (sI s (g + 1) k) else sI s (g + 1) k) → Q 1 s')
    (H0 : stepP ps c (vOf v3 v4 v5 (sI s (g + 1))) x = 0 → ∀ s', frM (fun a _ => a = g + 2) s s' → Q 0 s') : W_X10_pass s g p (nI c) v3 v4 v5 Q := by
  obtain ⟨hwf, hln, hres, ho, _⟩ := id hm
  have l1 := hln.1
  generalize hf : sI s (g + 1) = f at *
  unfold W_X10_pass
  refine ⟨nI_inU (a := 0) (by omega) (by omega), ?_⟩
  intro s2 e2
  refine ⟨nI_inU (a := 1) (by omega) (by omega), ?_⟩
  intro s4 e4
  refine ⟨nI_inU (by omega) (by omega), ?_⟩
  intro s6 e6
  refine ⟨⟨by decide, by decide, by decide, by decide, by decide⟩, ?_⟩
  intro s7 e7
  have hf6 : sI s6 (g + 1) = f := by
    funext i
    subst e6; rw [sI_w, if_neg (by omega)]; subst e4; rw [sI_w, if_neg (by omega)]; subst e2; rw [sI_w, if_neg (by omega), hf]
  have F7 : frM (fun a _ => a = g + 2) s s7 := by
    have F6 : frM (fun a _ => a = g + 2) s s6 := by subst e6; subst e4; subst e2; exact ((frM.rfl'.wI (by rfl)).wI (by rfl)).wI (by rfl)
    subst e7
    exact F6.trans ⟨fun a i h => by rw [sI_wC_eq, if_neg h], fun a i _ => rfl, fun a i => rfl⟩
  have v7 : vCl s7 (g + 2) (vOf v3 v4 v5 f) := by
    intro i hi
    subst e7
    rw [sI_wC_eq, if_pos rfl]
    unfold va_cpy
    rw [show ix (nI 3) = 3 from rfl, show ix 0 = 0 from rfl, show ix (nI 6) = 6 from rfl, hf6]
    unfold vOf
    by_cases h3 : 3 ≤ i
    · rw [if_pos (by omega), if_neg (by omega), if_neg (by omega), if_neg (by omega), Nat.zero_add]
    · rw [if_neg (by omega)]
      subst e6; rw [sI_w, show ix (nI 2) = 2 from rfl]
      by_cases h2 : i = 2
      · subst h2; rw [if_pos ⟨rfl, rfl⟩, if_neg (by omega), if_neg (by omega), if_pos rfl]
      · rw [if_neg (by omega)]
        subst e4; rw [sI_w, show ix 1 = 1 from rfl]
        by_cases h1 : i = 1
        · subst h1; rw [if_pos ⟨rfl, rfl⟩, if_neg (by omega), if_pos rfl]
        · rw [if_neg (by omega)]
          subst e2; rw [sI_w, show ix 0 = 0 from rfl]
          have h0 : i = 0 := by omega
          subst h0; rw [if_pos ⟨rfl, rfl⟩, if_pos rfl]
  have hvD := inD_v (a := v3) (b := v4) (c := v5) hwf hok
  generalize vOf v3 v4 v5 f = v at *
  have lt7 : ltF s7 p ps := hl.1.fr (fun a i ha => F7.1 _ _ (by omega))
  refine c_find hwf hres lt7 v7 hc ?_
  have hlo := lix_offs (ps := ps) (v := v) hc
  have htr := stepP_tr hwf hln hres hvD hc x
  rw [htr] at H1 H0
  generalize offs ps c + lix ps c v 9 = a at *
  have hTT := TT_step hm hx hlo
  have hty := hl.2.2.1.2.2.2.2 (stQ ps S x) a hx.lt hlo
  have hnn := hl.2.2.1.2.1
  have hqn := hx.lt
  have q7 : sI s7 g 0 = nI (stQ ps S x) := (F7.1 _ _ (by omega)).trans hq
  rw [q7, nI_mul, nI_addU, nI_ix (n := stQ ps S x * 512 + a) (by omega), F7.1 (p + 14) _ (by omega), hty.1]
  refine ⟨nI_inU (by omega) (by omega), ?_⟩
  intro x11 e11
  subst e11
  by_cases h0 : trA ps a x = 0
  · rw [hTT.1 h0]
    exact ⟨fun hh => absurd rfl hh, fun _ => H0 h0 s7 F7⟩
  · have h2 := hTT.2 h0
    have hlt2 := hty.2 _ h2.1
    rw [h2.1]
    refine ⟨fun _ => ?_, fun hh => absurd hh (nI_ne1 (n := stQ ps S (trA ps a x)) (by omega))⟩
    intro s12 e12
    have F12 : frM (dPa g) s s12 := by subst e12; exact (F7.mono (fun a i h => Or.inr (Or.inr h))).wI (Or.inl ⟨rfl, rfl⟩)
    have p12 : puC s12 p ps := hp.elim (fun h => Or.inl (h.fr (fun a i ha => F12.1 _ _ (by unfold dPa; omega)))) (fun h => Or.inr ⟨(F12.1 _ _ (by unfold dPa; omega)).trans h.1, h.2⟩)
    have v12 : vCl s12 (g + 2) v := fun i hi => by subst e12; rw [sI_w, if_neg (by omega)]; exact v7 i hi
    have f12 : ∀ i, sI s12 (g + 1) i = f i := fun i => by subst e12; rw [sI_w, if_neg (by omega), F7.1 _ _ (by omega), hf]
    refine c_stepCounters hpp (by omega) p12 hwf hln hres hc v12 (fun k hk => by rw [f12]; exact hok k hk) (fun s' F' n' => ?_)
    refine H1 h0 h2.2 s' (F12.trans (F'.mono (fun a i h => Or.inr (Or.inl h.1)))) ?_ (fun k => ?_)
    · rw [F'.1 _ _ (by omega)]; subst e12; rw [sI_w, if_pos ⟨rfl, rfl⟩]; rfl
    · by_cases hk : k < (pC ps).length
      · rw [if_pos hk, n' k hk, f12]
      · rw [if_neg hk, F'.1 _ _ (by omega), f12]
theorem k_setCall {a4 : Nat} {v1 v2 v3 : Int32} {Q : yS → Prop} (ha : a4 = 205 ∨ a4 = 206) (H : ∀ s', frM (fun a _ => a = 175 ∨ a = 176) s s' → vM s' (vOf v1 v2 v3 (sI s a4)) → Q s') : W_X12_setCall s v1 v2 v3 a4 6 Q := by
  unfold W_X12_setCall
  refine ⟨nI_inU (a := 0) (by omega) (by omega), ?_⟩
  intro s2 e2
  refine ⟨nI_inU (a := 1) (by omega) (by omega), ?_⟩
  intro s4 e4
  refine ⟨nI_inU (by omega) (by omega), ?_⟩
  intro s6 e6 P24 hP24
  have F6 : frM (fun a _ => a = 175 ∨ a = 176) s s6 := by subst e6; subst e4; subst e2; exact ((frM.rfl'.wI (Or.inl rfl)).wI (Or.inl rfl)).wI (Or.inl rfl)
  have a6 : ∀ i, i < 3 → sI s6 175 i = vOf v1 v2 v3 (sI s a4) i := by
    intro i hi
    unfold vOf
    subst e6; rw [sI_w, show ix (nI 2) = 2 from rfl]
    by_cases h2 : i = 2
    · subst h2; rw [if_pos ⟨rfl, rfl⟩, if_neg (by omega), if_neg (by omega), if_pos rfl]
    · rw [if_neg (by omega)]
      subst e4; rw [sI_w, show ix 1 = 1 from rfl]
      by_cases h1 : i = 1
      · subst h1; rw [if_pos ⟨rfl, rfl⟩, if_neg (by omega), if_pos rfl]
      · rw [if_neg (by omega)]
        subst e2; rw [sI_w, show ix 0 = 0 from rfl]
        have h0 : i = 0 := by omega
        subst h0; rw [if_pos ⟨rfl, rfl⟩, if_pos rfl]
  clear e6 e4 e2
  suffices hL : ∀ (r k : Nat) (s8 : yS), k + r = 6 → frM (fun a _ => a = 175 ∨ a = 176) s s8 → (∀ i, i < 3 → sI s8 175 i = vOf v1 v2 v3 (sI s a4) i) → (∀ i, i < k → sI s8 176 i = sI s a4 i) → P24 (nI k) s8 from hL 6 0 s6 (by omega) F6 a6 (fun j hj => by omega)
  intro r
  induction r with
  | zero =>
    intro k s8 hk F8 a8 c8
    apply hP24
    rw [nI_leU (by omega) (by omega)]
    refine ⟨fun _ => H s8 F8 ⟨a8, fun i hi => ?_⟩, fun hh => absurd (by omega) hh⟩
    rw [c8 i (by omega)]; unfold vOf
    rw [if_neg (by omega), if_neg (by omega), if_neg (by omega), Nat.add_sub_cancel_left]
  | succ r ih =>
    intro k s8 hk F8 a8 c8
    apply hP24
    rw [nI_leU (by omega) (by omega), nI_ix (n := k) (by omega), F8.1 a4 _ (by omega)]
    refine ⟨fun hh => absurd hh (by omega), fun _ => ⟨nI_inU (by omega) (by omega), nI_inU (by omega) (by omega), ?_⟩⟩
    intro s11 e11 x12 e12
    subst e12; rw [nI_s]
    refine ih (k + 1) s11 (by omega) (by subst e11; exact F8.wI (Or.inr rfl)) (fun i hi => by subst e11; rw [sI_w, if_neg (by omega)]; exact a8 i hi) (fun i hi => ?_)
    subst e11
    by_cases ci : i = k
    · subst ci; rw [sI_w, if_pos ⟨rfl, rfl⟩]
    · rw [sI_w, if_neg (by omega)]; exact c8 i (by omega)
def dWk (a i : Nat) : Prop := (a = 139 ∧ (i = 0 ∨ i = 99)) ∨ a = 175 ∨ a = 176 ∨ a = 206
theorem k_watchCall {ps : PS} {S : List Int32} {v1 v2 v3 v4 : Int32} {x : Int32} {Q : Int32 → yS → Prop} (hm : mkd ps S) (hp : plM s ps S) (hx : inQ ps S x) (hxs : (sI s 139 99) = x)
    (Hno : (v1 < 0 ∨ nI 16 ≤ v1) → ∀ s', frM (fun a i => a = 139 ∧ i = 0) s s' → Q (-1) s')
    (H0 : ∀ c, c < 16 → v1 = nI c → stepP ps c (vOf v2 v3 v4 (sI s 206)) x = 0 → ∀ s', frM (fun a i => (a = 139 ∧ i = 0) ∨ a = 175 ∨ a = 176) s s' → Q (-1) s')
    (H1 : ∀ c, c < 16 → v1 = nI c → stepP ps c (vOf v2 v3 v4 (sI s 206)) x ≠ 0 → inQ ps S (stepP ps c (vOf v2 v3 v4 (sI s 206)) x) → ∀ s', frM dWk s s' → (sI s' 139 99) = stepP ps c (vOf v2 v3 v4 (sI s 206)) x → (∀ k, (sI s' 206) k = if k < (pC ps).length then nxt ps c (vOf v2 v3 v4 (sI s 206)) k (sI s 206 k) else sI s 206 k) → Q (nI (stQ ps S (stepP ps c (vOf v2 v3 v4 (sI s 206)) x))) s')
    (hin : ∀ c, c < 16 → stepP ps c (vOf v2 v3 v4 (sI s 206)) x ≠ 0 → inQ ps S (stepP ps c (vOf v2 v3 v4 (sI s 206)) x)) : W_X12_watchCall s v1 v2 v3 v4 Q := by
  obtain ⟨hwf, hln, hres, ho, hS, h1S, h63, _⟩ := id hm
  have l1 := hln.1
  unfold W_X12_watchCall
  intro s1 e1
  have F1 : frM (fun a i => a = 139 ∧ i = 0) s s1 := by subst e1; exact frM.rfl'.wI ⟨rfl, rfl⟩
  clear e1
  refine ⟨fun hneg => Hno (Or.inl hneg) s1 F1, fun hnn => ⟨fun hle => ?_, fun hgt => Hno (Or.inr ?_) s1 F1⟩⟩
  · obtain ⟨c, e, hc⟩ : ∃ c, v1 = nI c ∧ c < 16 := by
      have h0 : 0 ≤ v1.toInt := by rw [i_ltI] at hnn; exact Int.not_lt.mp hnn
      obtain ⟨c, e, _⟩ := nI_ofU h0
      refine ⟨c, e, ?_⟩
      rw [e, nI_leU (by omega) (by omega)] at hle; omega
    subst e
    have e206 : sI s1 206 = sI s 206 := by funext i; exact F1.1 _ _ (by omega)
    refine k_setCall (Or.inr rfl) (fun s2 F2 v2' => ?_)
    rw [e206] at v2'
    have F2' : frM (fun a i => (a = 139 ∧ i = 0) ∨ a = 175 ∨ a = 176) s s2 := (F1.mono (fun a i h => Or.inl h)).trans (F2.mono (fun a i h => Or.inr h))
    have x2 : sI s2 139 99 = x := (F2'.1 _ _ (by omega)).trans hxs
    have p2 : poM s2 ps := hp.1.fr (fun a i ha => F2'.1 _ _ (by omega)) (fun a i ha hb => F2'.2.1 _ _ (by omega))
    rw [x2]
    refine k_step p2 hwf hln hres hc v2' ?_
    have h0' := H0 c hc rfl
    have h1' := H1 c hc rfl
    have hin' := hin c hc
    have e206b : ∀ k, sI s2 206 k = sI s 206 k := fun k => F2'.1 _ _ (by omega)
    generalize vOf v2 v3 v4 (sI s 206) = v at *
    refine ⟨fun hne => ?_, fun he => h0' he s2 F2'⟩
    intro s4 e4
    have F4 : frM dWk s s4 := by subst e4; exact (F2'.mono (fun a i h => by unfold dWk; omega)).wI (Or.inl ⟨rfl, Or.inr rfl⟩)
    have x4 : sI s4 139 99 = stepP ps c v x := by subst e4; rw [sI_w, if_pos ⟨rfl, rfl⟩]
    have p4 : poM s4 ps := hp.1.fr (fun a i ha => F4.1 _ _ (by unfold dWk; omega)) (fun a i ha hb => F4.2.1 _ _ (by unfold dWk; omega))
    have v4' : vM s4 v := ⟨fun i hi => by subst e4; rw [sI_w, if_neg (by omega)]; exact v2'.1 i hi, fun i hi => by subst e4; rw [sI_w, if_neg (by omega)]; exact v2'.2 i hi⟩
    have c4 : ∀ k, sI s4 206 k = sI s 206 k := fun k => by subst e4; rw [sI_w, if_neg (by omega)]; exact e206b k
    refine k_count (Or.inr rfl) p4 hwf hln hres hc v4' (fun s5 F5 n5 => ?_)
    have F5' : frM dWk s s5 := F4.trans (F5.mono (fun a i h => by unfold dWk; omega))
    have hq := hin' hne
    have S5 : ssM s5 S := ⟨(F5'.1 _ _ (by unfold dWk; omega)).trans hp.2.2.1.1, fun k hk => (F5'.1 _ _ (by unfold dWk; omega)).trans (hp.2.2.1.2 k hk)⟩
    refine k_indexOf S5 (by omega) ?_
    rw [if_pos hq.1]
    have hik := List.idxOf_lt_length_of_mem hq.1
    have so5 : sI s5 173 (S.idxOf (stepP ps c v x)) = nI (stQ ps S (stepP ps c v x)) := by
      rw [F5'.1 _ _ (by unfold dWk; omega)]; exact hp.2.2.2.2.1 _ hik hq.2
    rw [nI_ix (n := S.idxOf (stepP ps c v x)) (by omega), so5]
    refine ⟨nI_inU (by omega) (by omega), h1' hne hq s5 F5' ?_ (fun k => ?_)⟩
    · rw [F5.1 _ _ (by omega)]; exact x4
    · by_cases hk : k < (pC ps).length
      · rw [if_pos hk, n5 k hk, c4]
      · rw [if_neg hk, F5.1 _ _ (by omega), c4]
  · have h0 : 0 ≤ v1.toInt := by rw [i_ltI] at hnn; exact Int.not_lt.mp hnn
    obtain ⟨c, e, hcb⟩ := nI_ofU h0
    rw [e, nI_leU (by omega) (by omega)] at hgt
    rw [e, nI_leU (by omega) (by omega)]; omega
end
