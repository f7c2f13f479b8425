def sumL (ps : PS) (c : Nat) : Nat → Nat
  | 0 => 0
  | k + 1 => sumL ps c k + ln ps c k
def rbC (ps : PS) : Nat → Nat
  | 0 => 0
  | c + 1 => rbC ps c + sumL ps c 9
theorem sumL_mono (ps : PS) (c : Nat) {j : Nat} : ∀ {k : Nat}, j ≤ k → sumL ps c j ≤ sumL ps c k
  | 0, h => by have : j = 0 := by omega
               subst this; exact Nat.le_refl _
  | k + 1, h => by
    by_cases e : j = k + 1
    · subst e; exact Nat.le_refl _
    · have := sumL_mono ps c (j := j) (k := k) (by omega)
      show _ ≤ sumL ps c k + ln ps c k; omega
theorem rbC_mono (ps : PS) {j : Nat} : ∀ {k : Nat}, j ≤ k → rbC ps j ≤ rbC ps k
  | 0, h => by have : j = 0 := by omega
               subst this; exact Nat.le_refl _
  | k + 1, h => by
    by_cases e : j = k + 1
    · subst e; exact Nat.le_refl _
    · have := rbC_mono ps (j := j) (k := k) (by omega)
      show _ ≤ rbC ps k + sumL ps k 9; omega
theorem sumL_le (ps : PS) (c : Nat) : ∀ k, sumL ps c k + 1 ≤ prD ps c k + k
  | 0 => by show 0 + 1 ≤ 1 + 0; omega
  | k + 1 => by
    have ih := sumL_le ps c k
    have h1 := prD_pos ps c k
    have h2 := ln_pos ps c k
    show sumL ps c k + ln ps c k + 1 ≤ prD ps c k * ln ps c k + (k + 1)
    have h3 : prD ps c k + ln ps c k ≤ prD ps c k * ln ps c k + 1 := by
      obtain ⟨a, ha⟩ : ∃ a, prD ps c k = a + 1 := ⟨prD ps c k - 1, by omega⟩
      obtain ⟨b, hb⟩ : ∃ b, ln ps c k = b + 1 := ⟨ln ps c k - 1, by omega⟩
      rw [ha, hb]
      have : (a + 1) * (b + 1) = a * b + a + b + 1 := by rw [Nat.add_mul, Nat.mul_add]; omega
      rw [this]; omega
    omega
theorem rbC_le (ps : PS) : ∀ c, rbC ps c ≤ offs ps c + 8 * c
  | 0 => by show 0 ≤ _; omega
  | c + 1 => by
    have ih := rbC_le ps c
    have := sumL_le ps c 9
    show rbC ps c + sumL ps c 9 ≤ offs ps c + prD ps c 9 + 8 * (c + 1)
    omega
theorem rb_lt (ps : PS) {c' k' c k : Nat} (hk' : k' < 9) (h : c' < c ∨ c' = c ∧ k' < k) : rbC ps c' + sumL ps c' k' + ln ps c' k' ≤ rbC ps c + sumL ps c k := by
  rcases h with h | ⟨h, h2⟩
  · have h1 : rbC ps (c' + 1) ≤ rbC ps c := rbC_mono ps (by omega)
    have h2 : sumL ps c' (k' + 1) ≤ sumL ps c' 9 := sumL_mono ps c' (by omega)
    have h3 : rbC ps (c' + 1) = rbC ps c' + sumL ps c' 9 := rfl
    have h4 : sumL ps c' (k' + 1) = sumL ps c' k' + ln ps c' k' := rfl
    omega
  · subst h
    have h2 : sumL ps c' (k' + 1) ≤ sumL ps c' k := sumL_mono ps c' (by omega)
    have h4 : sumL ps c' (k' + 1) = sumL ps c' k' + ln ps c' k' := rfl
    omega
/-- the letters of a policy, those of the calls below c and the rows below k of call c -/
def ltC (s : yS) (p : Nat) (ps : PS) (c k : Nat) : Prop := (∀ c', c' ≤ c → sI s (p + 13) c' = nI (offs ps c')) ∧ ∀ c' k', k' < 9 → (c' < c ∨ c' = c ∧ k' < k) → sI s (p + 12) (c' * 9 + k') = nI (rbC ps c' + sumL ps c' k') ∧ arow (sI s (p + 11)) (rbC ps c' + sumL ps c' k') (rowC ps c' k')
def dLt (p a i : Nat) : Prop := a = p + 11 ∨ a = p + 12 ∨ a = p + 13
section
variable {s : yS} {p : Nat}
theorem c_divide {ps : PS} {Q : Int32 → yS → Prop} (hp3 : p = 3 ∨ p = 20) (hp : poC s p ps) (hwf : wfI ps) (hl : lenP ps) (hres : resOK ps) (h0 : sI s (p + 13) 0 = 0)
    (Hok : offs ps 16 ≤ 512 → ∀ s', frM (dLt p) s s' → ltC s' p ps 16 0 → sI s' (p + 12) 144 = nI (rbC ps 16) → Q 1 s')
    (Hov : 512 < offs ps 16 → ∀ s', frM (dLt p) s s' → sI s' (p + 13) 0 = 0 → Q 0 s') : W_X1_divide s (p + 10) p Q := by
  unfold W_X1_divide
  intro P4 hP4
  suffices hL : ∀ (m c : Nat) (s3 : yS), c + m = 16 → frM (dLt p) s s3 → offs ps c ≤ 512 → ltC s3 p ps c 0 → P4 (nI (rbC ps c)) (nI c) s3 by
    refine hL 16 0 s (by omega) frM.rfl' (by show 0 ≤ 512; omega) ⟨fun c' hc' => ?_, fun c' k' _ hh => by omega⟩
    have : c' = 0 := by omega
    subst this; exact h0
  intro m
  induction m with
  | zero =>
    intro c s3 hc F3 ho t3
    have : c = 16 := by omega
    subst this
    have hb := rbC_le ps 16
    apply hP4
    refine ⟨fun _ => ⟨nI_inU (by omega) (by omega), ?_⟩, fun hh => absurd (by decide) hh⟩
    intro s5 e5
    rw [nI_ix (n := 144) (by omega)] at e5
    refine Hok ho s5 (by subst e5; exact F3.wI (Or.inr (Or.inl rfl))) ⟨fun c' hc' => ?_, fun c' k' hk' hh => ?_⟩ (by subst e5; rw [sI_w, if_pos ⟨rfl, rfl⟩])
    · subst e5; rw [sI_w, if_neg (by omega)]; exact t3.1 c' hc'
    · have := t3.2 c' k' hk' hh
      subst e5
      refine ⟨by rw [sI_w, if_neg (by omega)]; exact this.1, fun i hi => by rw [sI_w, if_neg (by omega)]; exact this.2 i hi⟩
  | succ m ih =>
    intro c s3 hc F3 ho t3
    have hb := rbC_le ps c
    apply hP4
    rw [nI_leU (by omega) (by omega)]
    refine ⟨fun hh => absurd hh (by omega), fun _ => ?_⟩
    intro P16 hP16
    suffices hK : ∀ (r k : Nat) (s9 : yS), k + r = 9 → frM (dLt p) s s9 → prD ps c k + offs ps c ≤ 512 → ltC s9 p ps c k → P16 (nI (rbC ps c + sumL ps c k)) (nI (prD ps c k)) (nI k) s9 by
      by_cases h1 : 1 + offs ps c ≤ 512
      · exact hK 9 0 s3 (by omega) F3 h1 t3
      · -- no room for a letter more
        have hov : 512 < offs ps 16 := by
          have h2 : offs ps (c + 1) ≤ offs ps 16 := offs_mono ps (by omega)
          have h3 : offs ps (c + 1) = offs ps c + nLet ps c := rfl
          have h4 := prD_pos ps c 9
          have h5 : nLet ps c = prD ps c 9 := rfl
          omega
        apply hP16
        refine ⟨fun hh => absurd hh (by decide), fun _ => ?_⟩
        have e0 : nI c * nI 9 + 0 = nI (c * 9 + 0) := by rw [nI_mul]; exact nI_addU _ 0
        rw [e0, nI_ix (n := c * 9 + 0) (by omega)]
        refine ⟨nI_inU (by omega) (by omega), ?_⟩
        intro s15 e15
        have F15 : frM (dLt p) s s15 := by subst e15; exact F3.wI (Or.inr (Or.inl rfl))
        have p15 : poC s15 p ps := hp.fr (fun a i ha => F15.1 _ _ (by unfold dLt; omega))
        have f15 : ∀ c', c' ≤ c → sI s15 (p + 13) c' = nI (offs ps c') := fun c' hc' => by subst e15; rw [sI_w, if_neg (by omega)]; exact t3.1 c' hc'
        refine c_divideRow hp3 (by omega) (k := 0) (by omega) (by omega) p15 hwf hl hres (fun hle s17 F17 r17 => ⟨fun hh => absurd hh (nI_ne1 (by omega)), fun _ => ⟨nI_inU (by omega) (by omega), ?_⟩⟩) (fun _ s17 F17 => ⟨fun _ => Hov hov s17 ?_ ?_, fun hh => absurd rfl hh⟩)
        · have f17 : sI s17 (p + 13) c = nI (offs ps c) := (F17.1 _ _ (by omega)).trans (f15 c (by omega))
          have hlp := ln_pos ps c 0
          rw [nI_ix (n := c) (by omega), f17, nI_sub (by omega), Nat.add_sub_cancel_left, show (1 : Int32) = nI 1 from rfl, nI_mul, nI_sub (by omega), nI_leU (by omega) (by omega)]
          refine ⟨fun hh => by omega, fun _ => Hov hov s17 ?_ ?_⟩
          · exact F15.trans ⟨fun a i hd => F17.1 _ _ (fun hh => hd (by unfold dLt; omega)), fun a i _ => F17.2.1 _ _, F17.2.2⟩
          · rw [F17.1 _ _ (by omega), f15 0 (by omega)]; rfl
        · exact F15.trans ⟨fun a i hd => F17.1 _ _ (fun hh => hd (by unfold dLt; omega)), fun a i _ => F17.2.1 _ _, F17.2.2⟩
        · rw [F17.1 _ _ (by omega), f15 0 (by omega)]; rfl
    intro r
    induction r with
    | zero =>
      intro k s9 hk F9 hpr t9
      have : k = 9 := by omega
      subst this
      apply hP16
      rw [nI_s, nI_ix (n := c) (by omega), nI_ix (n := c + 1) (by omega), t9.1 c (by omega), nI_addU]
      refine ⟨fun _ => ⟨nI_inU (by omega) (by omega), nI_inU (by omega) (by omega), ?_⟩, fun hh => absurd (by decide) hh⟩
      intro s12 e12 x13 e13
      subst e13
      refine ih (c + 1) s12 (by omega) (by subst e12; exact F9.wI (Or.inr (Or.inr rfl))) (by show offs ps c + nLet ps c ≤ 512; have : nLet ps c = prD ps c 9 := rfl; omega) ⟨fun c' hc' => ?_, fun c' k' hk' hh => ?_⟩
      · by_cases cc : c' = c + 1
        · subst cc; subst e12; rw [sI_w, if_pos ⟨rfl, rfl⟩]; rfl
        · subst e12; rw [sI_w, if_neg (by omega)]; exact t9.1 c' (by omega)
      · have := t9.2 c' k' hk' (by omega)
        subst e12
        exact ⟨by rw [sI_w, if_neg (by omega)]; exact this.1, fun i hi => by rw [sI_w, if_neg (by omega)]; exact this.2 i hi⟩
    | succ r ihr =>
      intro k s9 hk F9 hpr t9
      have hsl := sumL_le ps c k
      apply hP16
      rw [nI_leU (by omega) (by omega), nI_mul, nI_addU, nI_ix (n := c * 9 + k) (by omega), nI_ix (n := c) (by omega)]
      refine ⟨fun hh => absurd hh (by omega), fun _ => ⟨nI_inU (by omega) (by omega), ?_⟩⟩
      intro s15 e15
      have F15 : frM (dLt p) s s15 := by subst e15; exact F9.wI (Or.inr (Or.inl rfl))
      have p15 : poC s15 p ps := hp.fr (fun a i ha => F15.1 _ _ (by unfold dLt; omega))
      have t15 : ltC s15 p ps c k := by
        refine ⟨fun c' hc' => by subst e15; rw [sI_w, if_neg (by omega)]; exact t9.1 c' hc', fun c' k' hk' hh => ?_⟩
        have := t9.2 c' k' hk' hh
        subst e15
        exact ⟨by rw [sI_w, if_neg (by omega)]; exact this.1, fun i hi => by rw [sI_w, if_neg (by omega)]; exact this.2 i hi⟩
      have v15 : sI s15 (p + 12) (c * 9 + k) = nI (rbC ps c + sumL ps c k) := by subst e15; rw [sI_w, if_pos ⟨rfl, rfl⟩]
      clear e15
      have ovr : 512 < prD ps c (k + 1) + offs ps c → 512 < offs ps 16 := by
        intro hh
        have h1 : prD ps c (k + 1) ≤ prD ps c 9 := prD_mono ps c (by omega)
        have h2 : offs ps (c + 1) ≤ offs ps 16 := offs_mono ps (by omega)
        have h3 : offs ps (c + 1) = offs ps c + prD ps c 9 := rfl
        omega
      have hpk : prD ps c (k + 1) = prD ps c k * ln ps c k := rfl
      refine c_divideRow hp3 (by omega) (by omega) (by omega) p15 hwf hl hres (fun hle s17 F17 r17 => ⟨fun hh => absurd hh (nI_ne1 (by omega)), fun _ => ⟨nI_inU (by omega) (by omega), ?_⟩⟩) (fun hgt s17 F17 => ⟨fun _ => Hov (ovr ?_) s17 ?_ ?_, fun hh => absurd rfl hh⟩)
      · have FL17 : frM (dLt p) s s17 := F15.trans ⟨fun a i hd => F17.1 _ _ (fun hh => hd (by unfold dLt; omega)), fun a i _ => F17.2.1 _ _, F17.2.2⟩
        have f17 : sI s17 (p + 13) c = nI (offs ps c) := (F17.1 _ _ (by omega)).trans (t15.1 c (by omega))
        have hmul : prD ps c k * ln ps c k ≤ 512 * 512 := Nat.mul_le_mul (by omega) hle
        rw [f17, nI_sub (by omega), Nat.add_sub_cancel_left, nI_mul, nI_sub (by omega), nI_leU (by omega) (by omega), ← hpk]
        refine ⟨fun hh => ?_, fun hh => Hov (ovr (by omega)) s17 FL17 ?_⟩
        · intro x19 e19 x20 e20
          subst e19; subst e20; rw [nI_s]
          have := ihr (k + 1) s17 (by omega) FL17 (by omega) ⟨fun c' hc' => (F17.1 _ _ (by omega)).trans (t15.1 c' hc'), fun c' k' hk' hh' => ?_⟩
          · have e : rbC ps c + sumL ps c k + ln ps c k = rbC ps c + sumL ps c (k + 1) := by rw [Nat.add_assoc]; rfl
            rw [e]; exact this
          · by_cases cn : c' = c ∧ k' = k
            · obtain ⟨rfl, rfl⟩ := cn
              exact ⟨(F17.1 _ _ (by omega)).trans v15, r17⟩
            · have hh2 : c' < c ∨ c' = c ∧ k' < k := by omega
              have h1 := t15.2 c' k' hk' hh2
              have h2 := rb_lt ps hk' hh2
              have h3 := rowC_len (c := c') (k := k') hwf hres
              refine ⟨(F17.1 _ _ (by omega)).trans h1.1, fun i hi => (F17.1 _ _ (by omega)).trans (h1.2 i hi)⟩
        · rw [F17.1 _ _ (by omega), t15.1 0 (by omega)]; rfl
      · have h1 := prD_pos ps c k
        have : ln ps c k ≤ prD ps c k * ln ps c k := Nat.le_mul_of_pos_left _ h1
        omega
      · exact F15.trans ⟨fun a i hd => F17.1 _ _ (fun hh => hd (by unfold dLt; omega)), fun a i _ => F17.2.1 _ _, F17.2.2⟩
      · rw [F17.1 _ _ (by omega), t15.1 0 (by omega)]; rfl
end
