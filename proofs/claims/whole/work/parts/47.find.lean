/-! ===== PURE: the letter of a call ===== -/
def pos (l : List Int) (x : Int) : Nat := cnt l (x + 1) - 1
theorem pos_lt {l : List Int} {x : Int} (h : 1 ≤ l.length) : pos l x < l.length := by
  have := cnt_le l (x + 1); unfold pos; omega
/-- numbers that are cuts, or out of range, do not tell a value from its interval's least int -/
theorem pos_cut {l : List Int} {lo hi x v : Int} (h : okR lo hi l) (hx : lo ≤ x) (hx2 : x ≤ hi) (hv : v ≤ lo ∨ hi < v ∨ v ∈ l) (hp : pos l x < l.length) : v ≤ x ↔ v ≤ l[pos l x] := by
  obtain ⟨hs, ⟨r, hr⟩, hb⟩ := h
  have hc : 1 ≤ cnt l (x + 1) := by
    have := (srt_cnt hs (v := x + 1) 0 (by omega)).mp (by subst hr; show lo < x + 1; omega)
    omega
  have hin := hb _ (List.getElem_mem hp)
  have hle : l[pos l x] ≤ x := by
    have := (srt_cnt hs (v := x + 1) (pos l x) hp).mpr (by unfold pos; omega)
    omega
  rcases hv with hv | hv | hv
  · exact ⟨fun _ => by omega, fun _ => by omega⟩
  · exact ⟨fun _ => by omega, fun _ => by omega⟩
  · refine ⟨fun hvx => ?_, fun h => by omega⟩
    obtain ⟨j, hj, e⟩ := List.getElem_of_mem hv
    have h1 : j < cnt l (x + 1) := (srt_cnt hs (v := x + 1) j hj).mp (by omega)
    have hjp : j ≤ pos l x := by unfold pos; omega
    by_cases c : j = pos l x
    · subst c; omega
    · have := List.pairwise_iff_getElem.mp hs j (pos l x) hj hp (by omega)
      omega
theorem stp_mem {lo hi v x : Int} {l : List Int} (h : x ∈ l) : x ∈ stp lo hi l v := by
  unfold stp; split
  · exact h
  · exact insF_mem.mpr (Or.inr h)
theorem fold_mem {ps : PS} {k : Nat} {x : Int} : ∀ (L : List (Nat × Int)) (l : List Int), x ∈ l → x ∈ L.foldl (stK ps k) l
  | [], _, h => h
  | a :: L, l, h => by
    rw [List.foldl_cons]
    apply fold_mem L
    unfold stK; split
    · exact stp_mem h
    · exact h
theorem fold_cut {ps : PS} {k : Nat} {v : Int} : ∀ (L : List (Nat × Int)) (l : List Int), (k, v) ∈ L → v ≤ dLo k ∨ dHi ps k < v ∨ v ∈ L.foldl (stK ps k) l
  | [], _, h => by simp at h
  | a :: L, l, h => by
    rw [List.mem_cons] at h
    rw [List.foldl_cons]
    rcases h with h | h
    · subst h
      by_cases c : v ≤ dLo k ∨ dHi ps k < v
      · exact c.elim Or.inl (fun h => Or.inr (Or.inl h))
      · right; right
        apply fold_mem L
        unfold stK stp
        rw [if_pos rfl, if_neg c]
        exact insF_mem.mpr (Or.inl rfl)
    · exact fold_cut L _ h
/-- the place of a call with values v among its letters -/
def lix (ps : PS) (c : Nat) (v : Nat → Int32) : Nat → Nat
  | 0 => 0
  | k + 1 => lix ps c v k * ln ps c k + (if real ps c k then pos (dimL ps c k) (v k).toInt else 0)
def dig (ps : PS) (c : Nat) (v : Nat → Int32) (k : Nat) : Nat := if real ps c k then pos (dimL ps c k) (v k).toInt else 0
theorem dig_lt (ps : PS) (c : Nat) (v : Nat → Int32) (k : Nat) : dig ps c v k < ln ps c k := by
  have := ln_pos ps c k
  unfold dig; split
  · exact pos_lt this
  · omega
theorem lix_lt (ps : PS) (c : Nat) (v : Nat → Int32) : ∀ k, lix ps c v k < prD ps c k
  | 0 => Nat.zero_lt_one
  | k + 1 => by
    have h1 := lix_lt ps c v k
    have h2 := dig_lt ps c v k
    show lix ps c v k * ln ps c k + dig ps c v k < prD ps c k * ln ps c k
    have h3 : (lix ps c v k + 1) * ln ps c k ≤ prD ps c k * ln ps c k := Nat.mul_le_mul_right _ h1
    rw [Nat.add_mul, Nat.one_mul] at h3; omega
theorem rst_lix (ps : PS) (c : Nat) (v : Nat → Int32) : ∀ t, t ≤ 9 → rst ps c (lix ps c v 9) t = lix ps c v (9 - t)
  | 0, _ => rfl
  | t + 1, h => by
    show rst ps c (lix ps c v 9) t / ln ps c (8 - t) = _
    rw [rst_lix ps c v t (by omega), show 9 - t = (8 - t) + 1 by omega, show 9 - (t + 1) = 8 - t by omega]
    show (lix ps c v (8 - t) * ln ps c (8 - t) + dig ps c v (8 - t)) / ln ps c (8 - t) = _
    have h1 := dig_lt ps c v (8 - t)
    rw [Nat.mul_comm, Nat.mul_add_div (by omega), Nat.div_eq_of_lt h1, Nat.add_zero]
theorem low_lix (ps : PS) (c : Nat) (v : Nat → Int32) {d : Nat} (hd : d < 9) : low ps c (lix ps c v 9) d = if real ps c d then (dimL ps c d).getD (pos (dimL ps c d) (v d).toInt) 0 else 0 := by
  unfold low
  by_cases hr : real ps c d = true
  · rw [if_pos hr, if_pos hr, rst_lix ps c v _ (by omega), show 9 - (8 - d) = d + 1 by omega]
    have h1 := dig_lt ps c v d
    have e : lix ps c v (d + 1) % ln ps c d = dig ps c v d := by
      show (lix ps c v d * ln ps c d + dig ps c v d) % ln ps c d = _
      rw [Nat.mul_comm, Nat.mul_add_mod, Nat.mod_eq_of_lt h1]
    rw [e]; unfold dig; rw [if_pos hr]
  · rw [if_neg hr, if_neg hr]
/-- values as they can be -/
def inD (ps : PS) (v : Nat → Int32) : Prop := ∀ d, 3 ≤ d → d - 3 < (pC ps).length → 0 ≤ (v d).toInt ∧ (v d).toInt ≤ dHi ps d
theorem inD_b {ps : PS} {v : Nat → Int32} {c d : Nat} (h : inD ps v) (hr : real ps c d = true) : dLo d ≤ (v d).toInt ∧ (v d).toInt ≤ dHi ps d := by
  have := i_rng (v d)
  by_cases c3 : d < 3
  · unfold dLo dHi; rw [if_pos c3, if_pos c3]; omega
  · unfold real at hr; rw [if_neg c3] at hr
    have hr : d - 3 < (pC ps).length := of_decide_eq_true hr
    have := h d (by omega) hr
    unfold dLo; rw [if_neg c3]; exact this
theorem dim_rng (ps : PS) (hwf : wfI ps) (c d : Nat) : ∀ x ∈ dimL ps c d, -2147483648 ≤ x ∧ x ≤ 2147483647 := by
  intro x hx
  have hb := (dimF_ok ps d (cutA ps c)).2.2 x hx
  unfold dLo dHi at hb
  by_cases c3 : d < 3
  · rw [if_pos c3, if_pos c3] at hb; omega
  · rw [if_neg c3, if_neg c3] at hb
    have : ((pC ps).map Prod.snd).getD (d - 3) 0 ≤ 15 := by
      rw [List.getD_eq_getElem?_getD, List.getElem?_map]
      cases hg : (pC ps)[d - 3]? with
      | none => simp
      | some y => have := (hwf.2.2.1 y (List.mem_of_getElem? hg)).2.2; simpa using this
    omega
theorem i_ltI {x y : Int32} : x < y ↔ x.toInt < y.toInt := Int32.lt_iff_toInt_lt
theorem i_leI {x y : Int32} : x ≤ y ↔ x.toInt ≤ y.toInt := Int32.le_iff_toInt_le
theorem i_eqI {x y : Int32} : x = y ↔ x.toInt = y.toInt := ⟨fun h => by rw [h], fun h => Int32.toInt_inj.mp h⟩
/-- a guard of a way sees no difference -/
theorem gHold_eq {ps : PS} {c : Nat} {v : Nat → Int32} {d : Gd} (hwf : wfI ps) (hv : inD ps v) (hgv : -2147483648 ≤ gV d ∧ gV d ≤ 2147483647) (hgh : gH d ≤ 2) (hsb : sbj ps d < 9) (hreal : (3 ≤ sbj ps d ∨ sbj ps d < c % 4) → real ps c (sbj ps d) = true) (hcut : ∀ x ∈ cutG ps c d, x ∈ cutA ps c) : gHold ps c v d = gHold ps c (lowV ps c (lix ps c v 9)) d := by
  unfold gHold
  by_cases ht : 3 ≤ sbj ps d ∨ sbj ps d < c % 4
  · have hr := hreal ht
    obtain ⟨k, hk⟩ : ∃ k, sbj ps d = k := ⟨_, rfl⟩
    rw [hk] at ht hr hsb ⊢
    have hb := inD_b hv hr
    have hok : okR (dLo k) (dHi ps k) (dimL ps c k) := dimF_ok ps k (cutA ps c)
    have hpl : pos (dimL ps c k) (v k).toInt < (dimL ps c k).length := pos_lt (ln_pos ps c k)
    have hlow : (lowV ps c (lix ps c v 9) k).toInt = (dimL ps c k)[pos (dimL ps c k) (v k).toInt] := by
      unfold lowV
      rw [low_lix ps c v hsb, if_pos hr, getD_at hpl]
      have := dim_rng ps hwf c k _ (List.getElem_mem hpl)
      exact oI_toInt this.1 this.2
    have hC : ∀ u, (k, u) ∈ cutG ps c d → (u ≤ (v k).toInt ↔ u ≤ (lowV ps c (lix ps c v 9) k).toInt) := by
      intro u hu
      rw [hlow]
      have hfc : u ≤ dLo k ∨ dHi ps k < u ∨ u ∈ dimL ps c k := fold_cut (cutA ps c) [dLo k] (hcut _ hu)
      exact pos_cut hok hb.1 hb.2 hfc hpl
    have hcg : cutG ps c d = (if gH d = 2 then [] else [(k, gV d)]) ++ (if gH d = 0 then [] else [(k, gV d + 1)]) := by
      unfold cutG; rw [hk, if_neg (by omega)]
    have e : gCmp d (v k) = gCmp d (lowV ps c (lix ps c v 9) k) := by
      unfold gCmp
      have h3 := oI_toInt hgv.1 hgv.2
      by_cases g0 : gH d = 0
      · rw [if_pos g0, if_pos g0]
        have := hC (gV d) (by rw [hcg, if_neg (by omega)]; simp)
        rw [decide_eq_decide, i_ltI, i_ltI, h3]; omega
      · rw [if_neg g0, if_neg g0]
        have c2 := hC (gV d + 1) (by rw [hcg, if_neg g0]; simp)
        by_cases g1 : gH d = 1
        · rw [if_pos g1, if_pos g1]
          have c1 := hC (gV d) (by rw [hcg, if_neg (by omega)]; simp)
          rw [decide_eq_decide, i_eqI, i_eqI, h3]; omega
        · rw [if_neg g1, if_neg g1]
          rw [decide_eq_decide, i_ltI, i_ltI, h3]; omega
    rw [e]
  · rw [show decide (3 ≤ sbj ps d ∨ sbj ps d < c % 4) = false from decide_eq_false ht, Bool.false_and, Bool.false_and]
