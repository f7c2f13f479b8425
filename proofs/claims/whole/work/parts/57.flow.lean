/-! ===== PURE: where a policy's states come ===== -/
def opA (x : Fn) (i : Nat) : Nat := ((fC x).getD i (0, 0)).1
def orA (x : Fn) (i : Nat) : Int32 := ((fC x).getD i (0, 0)).2
theorem opA_at {x : Fn} {i : Nat} (h : i < (fC x).length) : opA x i = (fC x)[i].1 := by unfold opA; rw [getD_at h]
theorem orA_at {x : Fn} {i : Nat} (h : i < (fC x).length) : orA x i = (fC x)[i].2 := by unfold orA; rw [getD_at h]
/-- a call outside that a guard stands before -/
def gdd (x : Fn) (i : Nat) : Bool := decide (0 < i ∧ opA x i = 26 ∧ opA x (i - 1) = 29 ∧ orA x (i - 1) = orA x i) && !aimL (fC x) (fH x) i
def thr (o : Nat) : Bool := decide (o = 9 ∨ o = 10 ∨ o = 21 ∨ o = 22 ∨ o = 23 ∨ o = 25 ∨ o = 28)
abbrev R3 : Type := Nat → Nat → Nat → Prop
abbrev R2 : Type := Nat → Nat → Prop
section
variable (RC : R3) (n : Nat) (x : Fn) (f i : Nat)
def led (m : Nat → Prop) (c b : Nat) : Prop := ∃ q, m q ∧ q < n ∧ RC c q b
def aft (M : R3) (X : R2) (b : Nat) : Prop := if opA x i = 25 then X (ix (orA x i)) b else if opA x i = 29 ∨ (opA x i = 26 ∧ gdd x i = false) then led RC n (M f i) (ix (orA x i)) b else M f i b
def thn (M : R3) (A : R2) (b : Nat) : Prop := M f i b ∨ (opA x i = 25 ∧ A (ix (orA x i)) b)
/-- what an instruction asks -/
def clAt (M : R3) (X A : R2) : Prop := (∃ b, M f i b) →
  (∀ b, M f i b → A f b)
  ∧ (opA x i = 25 → (∀ b, M f i b → M (ix (orA x i)) 0 b) ∧ (∀ b, A (ix (orA x i)) b → A f b))
  ∧ (opA x i = 27 → ∀ b, M f i b → X f b)
  ∧ (thr (opA x i) = true → ∀ h ∈ fH x, hF h ≤ i → i < hT h → ∀ b, thn x f i M A b → M f (hG h) b)
  ∧ (17 < opA x i ∧ opA x i < 21 → ∀ b, aft RC n x f i M X b → M f (ix (orA x i)) b)
  ∧ (¬ (opA x i = 18 ∨ opA x i = 27 ∨ opA x i = 28) → ∀ b, aft RC n x f i M X b → M f (i + 1) b)
end
def clo (l : List Fn) (RC : R3) (n : Nat) (M : R3) (X A : R2) : Prop := M 0 0 0 ∧ ∀ (f : Nat) (hf : f < l.length) (i : Nat), i < (fC l[f]).length → clAt RC n l[f] f i M X A
def lM (l : List Fn) (RC : R3) (n : Nat) : R3 := fun f i b => ∀ M X A, clo l RC n M X A → M f i b
def lX (l : List Fn) (RC : R3) (n : Nat) : R2 := fun f b => ∀ M X A, clo l RC n M X A → X f b
def lA (l : List Fn) (RC : R3) (n : Nat) : R2 := fun f b => ∀ M X A, clo l RC n M X A → A f b
section
variable {l : List Fn} {RC : R3} {n f i : Nat} {x : Fn}
theorem led.mono {m m' : Nat → Prop} {c b : Nat} (h : led RC n m c b) (hm : ∀ q, m q → m' q) : led RC n m' c b := by
  obtain ⟨q, h1, h2, h3⟩ := h
  exact ⟨q, hm q h1, h2, h3⟩
theorem aft.mono {M M' : R3} {X X' : R2} {b : Nat} (h : aft RC n x f i M X b) (hM : ∀ b, M f i b → M' f i b) (hX : ∀ t b, X t b → X' t b) : aft RC n x f i M' X' b := by
  unfold aft at h ⊢
  by_cases c1 : opA x i = 25
  · rw [if_pos c1] at h ⊢; exact hX _ _ h
  · rw [if_neg c1] at h ⊢
    by_cases c2 : opA x i = 29 ∨ (opA x i = 26 ∧ gdd x i = false)
    · rw [if_pos c2] at h ⊢; exact h.mono hM
    · rw [if_neg c2] at h ⊢; exact hM _ h
theorem thn.mono {M M' : R3} {A A' : R2} {b : Nat} (h : thn x f i M A b) (hM : ∀ b, M f i b → M' f i b) (hA : ∀ t b, A t b → A' t b) : thn x f i M' A' b := by
  rcases h with h | ⟨h1, h2⟩
  · exact Or.inl (hM _ h)
  · exact Or.inr ⟨h1, hA _ _ h2⟩
theorem lM_clo : clo l RC n (lM l RC n) (lX l RC n) (lA l RC n) := by
  refine ⟨fun M X A h => h.1, fun f hf i hi => ?_⟩
  rintro ⟨b0, hb0⟩
  have up : ∀ {M X A}, clo l RC n M X A → (∀ f i b, lM l RC n f i b → M f i b) ∧ (∀ t b, lX l RC n t b → X t b) ∧ (∀ t b, lA l RC n t b → A t b) := fun h => ⟨fun f i b k => k _ _ _ h, fun t b k => k _ _ _ h, fun t b k => k _ _ _ h⟩
  refine ⟨fun b hb M X A h => ?_, fun ho => ⟨fun b hb M X A h => ?_, fun b hb M X A h => ?_⟩, fun ho b hb M X A h => ?_, fun ho k hk h1 h2 b hb M X A h => ?_, fun ho b hb M X A h => ?_, fun ho b hb M X A h => ?_⟩
  · exact (h.2 f hf i hi ⟨b0, (up h).1 _ _ _ hb0⟩).1 b ((up h).1 _ _ _ hb)
  · exact ((h.2 f hf i hi ⟨b0, (up h).1 _ _ _ hb0⟩).2.1 ho).1 b ((up h).1 _ _ _ hb)
  · exact ((h.2 f hf i hi ⟨b0, (up h).1 _ _ _ hb0⟩).2.1 ho).2 b ((up h).2.2 _ _ hb)
  · exact (h.2 f hf i hi ⟨b0, (up h).1 _ _ _ hb0⟩).2.2.1 ho b ((up h).1 _ _ _ hb)
  · exact (h.2 f hf i hi ⟨b0, (up h).1 _ _ _ hb0⟩).2.2.2.1 ho k hk h1 h2 b (hb.mono (fun b => (up h).1 _ _ b) (up h).2.2)
  · exact (h.2 f hf i hi ⟨b0, (up h).1 _ _ _ hb0⟩).2.2.2.2.1 ho b (hb.mono (fun b => (up h).1 _ _ b) (up h).2.1)
  · exact (h.2 f hf i hi ⟨b0, (up h).1 _ _ _ hb0⟩).2.2.2.2.2 ho b (hb.mono (fun b => (up h).1 _ _ b) (up h).2.1)
/-- only where the stacks are known -/
theorem lM_ty (hok : pgOK l) (hv : vAll l = none) {b : Nat} (h : lM l RC n f i b) : ∃ hf : f < l.length, vTy l f i ≠ none ∧ i < (fC l[f]).length := by
  have key : clo l RC n (fun f i _ => ∃ hf : f < l.length, vTy l f i ≠ none ∧ i < (fC l[f]).length) (fun _ _ => True) (fun _ _ => True) := by
    refine ⟨⟨hok.1, ?_⟩, fun f hf i hi => ?_⟩
    · have ht := vTy_ty hok hv (f := 0) hok.1
      rw [ht.1]
      exact ⟨fun hh => so_no hh, (ht.2.1 0 [] ht.1).2⟩
    · rintro ⟨_, _, hb1, _⟩
      have ht := vTy_ty hok hv hf
      cases hst : vTy l f i with
      | none => exact absurd hst hb1
      | some st =>
        obtain ⟨_, r, _, _, h3, h4, h5⟩ := ht.2.2 i st hst
        rw [← opA_at hi] at h4 h5
        rw [← orA_at hi] at h4
        have gt : ∀ {j : Nat} {u : List Bool}, vTy l f j = some u → ∃ hf : f < l.length, vTy l f j ≠ none ∧ j < (fC l[f]).length := fun {j u} hj => ⟨hf, by rw [hj]; exact fun hh => so_no hh, (ht.2.1 j u hj).2⟩
        refine ⟨fun _ _ => trivial, fun ho => ⟨fun _ _ => ?_, fun _ _ => trivial⟩, fun _ _ _ => trivial, fun _ k hk h1 h2 _ _ => gt (h3 k hk h1 h2), fun ho _ _ => gt (h4 ho), fun ho _ _ => gt (h5 ho).2⟩
        have hio := (hok.2.2.1 f hf).2.2.2.2.2.2.2.2.2.2.1 _ (List.getElem_mem hi)
        rw [opA_at hi] at ho
        obtain ⟨k, hk, ek⟩ := hio.2.2.2.1 ho
        have h12 := hok.2.1
        rw [orA_at hi, ek, nI_ix (by omega)]
        have htk := vTy_ty hok hv hk
        refine ⟨hk, ?_, (htk.2.1 0 [] htk.1).2⟩
        rw [htk.1]; exact fun hh => so_no hh
  exact h _ _ _ key
/-! what a growing state keeps -/
theorem clAt.keep {M M' : R3} {X X' A A' : R2} (h : clAt RC n x f i M X A) (hM : ∀ f i b, M f i b → M' f i b) (hX : ∀ t b, X t b → X' t b) (hA : ∀ t b, A t b → A' t b) (h1 : ∀ b, M' f i b → M f i b) (h2 : opA x i = 25 → (∃ b, M f i b) → (∀ b, X' (ix (orA x i)) b → X (ix (orA x i)) b) ∧ (∀ b, A' (ix (orA x i)) b → A (ix (orA x i)) b)) : clAt RC n x f i M' X' A' := by
  rintro ⟨b0, hb0⟩
  have he : ∃ b, M f i b := ⟨b0, h1 _ hb0⟩
  obtain ⟨g1, g2, g3, g4, g5, g6⟩ := h he
  have aff : ∀ b, aft RC n x f i M' X' b → aft RC n x f i M X b := by
    intro b hb
    unfold aft at hb ⊢
    by_cases c1 : opA x i = 25
    · rw [if_pos c1] at hb ⊢; exact (h2 c1 he).1 _ hb
    · rw [if_neg c1] at hb ⊢
      by_cases c2 : opA x i = 29 ∨ (opA x i = 26 ∧ gdd x i = false)
      · rw [if_pos c2] at hb ⊢; exact hb.mono h1
      · rw [if_neg c2] at hb ⊢; exact h1 _ hb
  refine ⟨fun b hb => hA _ _ (g1 b (h1 b hb)), fun ho => ⟨fun b hb => hM _ _ _ ((g2 ho).1 b (h1 b hb)), fun b hb => hA _ _ ((g2 ho).2 b ((h2 ho he).2 b hb))⟩, fun ho b hb => hX _ _ (g3 ho b (h1 b hb)), fun ho k hk a1 a2 b hb => hM _ _ _ (g4 ho k hk a1 a2 b ?_), fun ho b hb => hM _ _ _ (g5 ho b (aff b hb)), fun ho b hb => hM _ _ _ (g6 ho b (aff b hb))⟩
  rcases hb with hb | ⟨ho2, hb⟩
  · exact Or.inl (h1 b hb)
  · exact Or.inr ⟨ho2, (h2 ho2 he).2 b hb⟩
theorem clAt.no {M : R3} {X A : R2} (h : ∀ b, ¬ M f i b) : clAt RC n x f i M X A := fun ⟨b, hb⟩ => absurd hb (h b)
end
/-! bits -/
def subJ (x y : Int64) : Prop := ∀ b, bJ x b = true → bJ y b = true
theorem subJ.rfl' {x : Int64} : subJ x x := fun _ h => h
theorem subJ.trans {x y z : Int64} (h : subJ x y) (k : subJ y z) : subJ x z := fun b hb => k b (h b hb)
theorem sub_or {x y : Int64} : subJ x (x ||| y) := fun b h => by rw [bJ_or, h, Bool.true_or]
theorem sub_or2 {x y : Int64} : subJ y (x ||| y) := fun b h => by rw [bJ_or, h, Bool.or_true]
theorem bJ_not {x : Int64} {b : Nat} (hb : b < 64) : bJ (x ^^^ (-1)) b = !bJ x b := by
  unfold bJ
  rw [Int64.toBitVec_xor, BitVec.getLsbD_xor, show (-1 : Int64).toBitVec = BitVec.allOnes 64 from by decide, BitVec.getLsbD_allOnes, decide_eq_true hb, Bool.xor_true]
theorem J0 {x : Int64} : x = 0 ↔ ∀ b, bJ x b = false := by
  constructor
  · intro h b; rw [h, bJ_0]
  · intro h; apply bJ_ext; intro c _; rw [h c, bJ_0]
theorem cmp0 {x y : Int64} : lg_cmp x y = 0 ↔ x = y := by rw [lgc_eq0, Int64.toInt_inj]
/-- nothing new -/
theorem newJ {x y : Int64} : lg_cmp (x &&& (y ^^^ (-1))) 0 = 0 ↔ subJ x y := by
  rw [cmp0, J0]
  constructor
  · intro h b hb
    have hlt : b < 64 := by
      apply Decidable.byContradiction
      intro hh; rw [bJ_ge (by omega)] at hb; exact absurd hb (by decide)
    have := h b
    rw [bJ_and, bJ_not hlt, hb, Bool.true_and] at this
    cases hy : bJ y b with
    | true => rfl
    | false => rw [hy] at this; exact absurd this (by decide)
  · intro h b
    by_cases hlt : b < 64
    · rw [bJ_and, bJ_not hlt]
      cases hx : bJ x b with
      | false => rfl
      | true => rw [h b hx]; rfl
    · exact bJ_ge (by omega)
theorem newO {x y : Int64} : lg_cmp (y ||| x) y = 0 ↔ subJ x y := by
  rw [cmp0]
  constructor
  · intro h b hb; rw [← h, bJ_or, hb, Bool.or_true]
  · intro h; apply bJ_ext; intro c _; rw [bJ_or]
    cases hx : bJ x c with
    | false => rw [Bool.or_false]
    | true => rw [h c hx]; rfl
/-- how many bits are wanting -/
def zc (x : Int64) : Nat := (List.range 64).countP (fun b => !bJ x b)
theorem zc_le {x : Int64} : zc x ≤ 64 := by
  have := List.countP_le_length (l := List.range 64) (p := fun b => !bJ x b)
  rw [List.length_range] at this; exact this
theorem zc_mono {x y : Int64} (h : subJ x y) : zc y ≤ zc x := by
  unfold zc
  apply List.countP_mono_left
  intro b _ hb
  cases hx : bJ x b with
  | false => rfl
  | true => rw [h b hx] at hb; exact absurd hb (by decide)
theorem zc_lt {x y : Int64} (h : ¬ subJ x y) : zc (y ||| x) < zc y := by
  have : ∃ b, bJ x b = true ∧ bJ y b = false := by
    apply Classical.byContradiction
    intro hn
    apply h
    intro b hb
    cases hy : bJ y b with
    | true => rfl
    | false => exact absurd ⟨b, hb, hy⟩ hn
  obtain ⟨b, hx, hy⟩ := this
  have hlt : b < 64 := by
    apply Decidable.byContradiction
    intro hh; rw [bJ_ge (by omega)] at hx; exact absurd hx (by decide)
  unfold zc
  apply countP_lt
  · intro c _ hc
    rw [bJ_or] at hc
    cases hyc : bJ y c with
    | false => rfl
    | true => rw [hyc, Bool.true_or] at hc; exact absurd hc (by decide)
  · refine ⟨b, List.mem_range.mpr hlt, by rw [hy]; rfl, by rw [bJ_or, hx, Bool.or_true]; rfl⟩
/-! sums -/
def sumR (n : Nat) (F : Nat → Nat) : Nat := ((List.range n).map F).sum
theorem sumR_0 {F : Nat → Nat} : sumR 0 F = 0 := rfl
theorem sumR_s {n : Nat} {F : Nat → Nat} : sumR (n + 1) F = sumR n F + F n := by
  unfold sumR
  rw [List.range_succ, List.map_append, List.sum_append, List.map_cons, List.map_nil, List.sum_cons, List.sum_nil, Nat.add_zero]
theorem sumR_le {F F' : Nat → Nat} : ∀ (n : Nat), (∀ k, k < n → F k ≤ F' k) → sumR n F ≤ sumR n F'
  | 0, _ => Nat.le_refl _
  | n + 1, h => by
    rw [sumR_s, sumR_s]
    exact Nat.add_le_add (sumR_le n (fun k hk => h k (by omega))) (h n (by omega))
theorem sumR_eq {F F' : Nat → Nat} {n : Nat} (h : ∀ k, k < n → F k = F' k) : sumR n F = sumR n F' :=
  Nat.le_antisymm (sumR_le n (fun k hk => Nat.le_of_eq (h k hk))) (sumR_le n (fun k hk => Nat.le_of_eq (h k hk).symm))
theorem sumR_lt {F F' : Nat → Nat} {j : Nat} : ∀ (n : Nat), j < n → (∀ k, k < n → F k ≤ F' k) → F j < F' j → sumR n F < sumR n F'
  | 0, hj, _, _ => by omega
  | n + 1, hj, h, hl => by
    rw [sumR_s, sumR_s]
    by_cases c : j = n
    · subst c
      exact Nat.add_lt_add_of_le_of_lt (sumR_le j (fun k hk => h k (by omega))) hl
    · exact Nat.add_lt_add_of_lt_of_le (sumR_lt n (by omega) (fun k hk => h k (by omega)) hl) (h n (by omega))
theorem sumR_bd {F : Nat → Nat} {c : Nat} : ∀ (n : Nat), (∀ k, k < n → F k ≤ c) → sumR n F ≤ n * c
  | 0, _ => by rw [sumR_0]; omega
  | n + 1, h => by
    rw [sumR_s, Nat.succ_mul]
    exact Nat.add_le_add (sumR_bd n (fun k hk => h k (by omega))) (h n (by omega))
theorem sumR_cnt {p : Nat → Bool} : ∀ (n : Nat), sumR n (fun k => if p k then 1 else 0) = (List.range n).countP p
  | 0 => rfl
  | n + 1 => by
    rw [sumR_s, sumR_cnt n, List.range_succ, List.countP_append, List.countP_cons, List.countP_nil]
    omega
theorem sumR_add {F F' : Nat → Nat} : ∀ (n : Nat), sumR n (fun k => F k + F' k) = sumR n F + sumR n F'
  | 0 => rfl
  | n + 1 => by rw [sumR_s, sumR_s, sumR_s, sumR_add n]; omega
