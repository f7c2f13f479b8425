/-! ===== PURE: how long a program is ===== -/
def wkOK (l : List Fn) : Prop := l.length ≤ 12 ∧ ∀ (f : Nat) (h : f < l.length), (fC l[f]).length ≤ 400 ∧ (fH l[f]).length ≤ 6 ∧ ∀ y ∈ fC l[f], y.1 ≤ 29
theorem pgOK.wk {l : List Fn} (h : pgOK l) : wkOK l := ⟨h.2.1, fun f hf => by
  have hfo := h.2.2.1 f hf
  exact ⟨hfo.2.2.2.2.2.2.2.2.1, hfo.2.2.2.2.2.2.2.2.2.1, fun y hy => (hfo.2.2.2.2.2.2.2.2.2.2.1 y hy).1⟩⟩
theorem wd_g {o : Nat} (h : o ≤ 29) : g_wid.getD o 0 = nI (wdI o - 1) ∧ wdI o ≤ 5 ∧ 1 ≤ wdI o := by
  have : ∀ o ∈ List.range 30, g_wid.getD o 0 = nI (wdI o - 1) ∧ wdI o ≤ 5 ∧ 1 ≤ wdI o := by decide
  exact this o (List.mem_range.mpr (by omega))
def sumI (c : List (Nat × Int32)) : Nat := (c.map (fun y => wdI y.1)).sum
def sumH (h : List Hn) : Nat := (h.map lenH).sum
def sumF (l : List Fn) : Nat := (l.map lenF).sum
theorem sumI_cons {y : Nat × Int32} {c : List (Nat × Int32)} : sumI (y :: c) = wdI y.1 + sumI c := by unfold sumI; rw [List.map_cons, List.sum_cons]
theorem sumH_cons {y : Hn} {c : List Hn} : sumH (y :: c) = lenH y + sumH c := by unfold sumH; rw [List.map_cons, List.sum_cons]
theorem sumF_cons {y : Fn} {c : List Fn} : sumF (y :: c) = lenF y + sumF c := by unfold sumF; rw [List.map_cons, List.sum_cons]
theorem lenF_eq (x : Fn) : lenF x = 8 + sumI (fC x) + sumH (fH x) := rfl
section
variable {s : yS} {g q : Nat} {l : List Fn}
theorem c_byteLength {Q : Int32 → Prop} (hp : pgC s g l) (hk : wkOK l) (H : Q (nI (4 + sumF l))) : W_X5_byteLength s g Q := by
  unfold W_X5_byteLength
  intro P4 hP4
  suffices hL : ∀ (r f a : Nat), f + r = l.length → a + sumF (l.drop f) = 4 + sumF l → P4 (nI a) (nI f) from hL l.length 0 4 (by omega) rfl
  intro r
  induction r with
  | zero =>
    intro f a hf ha
    obtain rfl : f = l.length := by omega
    apply hP4
    rw [hp.1]
    refine ⟨fun _ => ?_, fun hz => absurd ((nI_leU (by have := hk.1; omega) (by have := hk.1; omega)).mpr (Nat.le_refl _)) hz⟩
    rw [List.drop_length] at ha
    have : a = 4 + sumF l := ha
    rw [this]; exact H
  | succ r ih =>
    intro f a hf ha
    have hfl : f < l.length := by omega
    have h12 := hk.1
    obtain ⟨k1, k2, k3⟩ := hk.2 f hfl
    obtain ⟨q1, q2, q3, q4, q5, q6, q7, q8, q9⟩ := hp.2 f hfl
    rw [List.drop_eq_getElem_cons hfl, sumF_cons, lenF_eq] at ha
    generalize hx : l[f] = x at *
    apply hP4
    rw [hp.1]
    refine ⟨fun hz => absurd ((nI_leU (by omega) (by omega)).mp hz) (by omega), fun _ => ?_⟩
    rw [nI_addU]
    intro x3 e3 P17 hP17
    subst e3
    have hin : vp_in (nI f) 12 := nI_inU (by omega) (by omega)
    rw [nI_ix (n := f) (by omega), q5, q6, nI_mul, nI_mul] at hP17
    suffices hC : ∀ (r i b : Nat), i + r = (fC x).length → b + sumI ((fC x).drop i) = a + 8 + sumI (fC x) → P17 (nI b) (nI i) from hC (fC x).length 0 (a + 8) (by omega) rfl
    intro r2
    induction r2 with
    | zero =>
      intro i b hi hb
      obtain rfl : i = (fC x).length := by omega
      rw [List.drop_length] at hb
      have hb : b = a + 8 + sumI (fC x) := hb
      apply hP17
      refine ⟨hin, fun _ => ?_, fun hz => absurd ((nI_leU (by omega) (by omega)).mpr (Nat.le_refl _)) hz⟩
      intro P59 hP59 x15 e15
      subst e15
      suffices hH : ∀ (r j d : Nat), j + r = (fH x).length → d + sumH ((fH x).drop j) = b + sumH (fH x) → P59 (nI d) (nI (f * 6 + j)) from hH (fH x).length 0 b (by omega) rfl
      intro r3
      induction r3 with
      | zero =>
        intro j d hj hd
        obtain rfl : j = (fH x).length := by omega
        rw [List.drop_length] at hd
        have hd : d = b + sumH (fH x) := hd
        apply hP59
        rw [nI_addU]
        refine ⟨hin, fun _ => ?_, fun hz => absurd ((nI_leU (by omega) (by omega)).mpr (Nat.le_refl _)) hz⟩
        intro x10 e10
        subst e10; rw [nI_s]
        exact ih (f + 1) d (by omega) (by omega)
      | succ r3 ih3 =>
        intro j d hj hd
        have hjl : j < (fH x).length := by omega
        rw [List.drop_eq_getElem_cons hjl, sumH_cons] at hd
        have hq := (q8 j hjl).2.2.2.1
        apply hP59
        rw [nI_addU]
        refine ⟨hin, fun hz => absurd ((nI_leU (by omega) (by omega)).mp hz) (by omega), fun _ => ?_⟩
        rw [nI_ix (n := f * 6 + j) (by omega), hq]
        refine ⟨nI_inU (by omega) (by omega), ?_⟩
        intro P91 hP91
        have lt : lenH (fH x)[j] = if hA (fH x)[j] then 7 else 11 := rfl
        generalize (fH x)[j] = y at *
        cases hy : hA y with
        | false =>
          rw [hy] at lt
          refine ⟨fun _ => ?_, fun hz => absurd rfl hz⟩
          apply hP91
          intro x13 e13 x14 e14
          rw [nI_addU] at e13
          rw [nI_s] at e14
          subst e13; subst e14
          rw [Nat.add_assoc]
          refine ih3 (j + 1) (d + 11) (by omega) ?_
          have lt : lenH y = 11 := lt
          omega
        | true =>
          rw [hy] at lt
          refine ⟨fun hz => absurd hz (by decide), fun _ => ?_⟩
          apply hP91
          intro x13 e13 x14 e14
          rw [nI_addU] at e13
          rw [nI_s] at e14
          subst e13; subst e14
          rw [Nat.add_assoc]
          refine ih3 (j + 1) (d + 7) (by omega) ?_
          have lt : lenH y = 7 := lt
          omega
    | succ r2 ih2 =>
      intro i b hi hb
      have hil : i < (fC x).length := by omega
      rw [List.drop_eq_getElem_cons hil, sumI_cons] at hb
      have hop := (q7 i hil).1
      have h29 := k3 _ (List.getElem_mem hil)
      have hw := wd_g h29
      apply hP17
      refine ⟨hin, fun hz => absurd ((nI_leU (by omega) (by omega)).mp hz) (by omega), fun _ => ?_⟩
      rw [nI_addU, nI_ix (n := f * 400 + i) (by omega), hop, nI_ix (n := (fC x)[i].1) (by omega), hw.1]
      refine ⟨nI_inU (by omega) (by omega), nI_inU (by omega) (by omega), ?_⟩
      rw [show (1 : Int32) = nI 1 from rfl, nI_addU, nI_addU, nI_addU]
      intro x18 e18 x19 e19
      subst e18; subst e19
      exact ih2 (i + 1) _ (by omega) (by omega)
theorem k_behind {o : Nat} {Q : Int32 → Prop} (h : o ≤ 29) (H : Q (nI (wdI o - 1))) : W_X12_behind s (nI o) Q := by
  have hc : ∀ k, k ≤ 29 → (nI o = nI k ↔ o = k) := fun k hk => nI_inj (by omega) (by omega)
  have key : ∀ o ∈ List.range 30, wdI o - 1 = (if o = 0 then 4 else if 17 < o ∧ o < 21 then 2 else if o = 4 ∨ o = 5 ∨ o = 25 ∨ o = 26 ∨ o = 29 then 1 else 0) := by decide
  have hk := key o (List.mem_range.mpr (by omega))
  rw [hk] at H
  unfold W_X12_behind
  rw [nI_0U, hc 0 (by omega), hc 4 (by omega), hc 5 (by omega), hc 25 (by omega), hc 26 (by omega), hc 29 (by omega), nI_leU (by omega) (by omega), nI_leU (by omega) (by omega)]
  refine ⟨fun h0 => ?_, fun h0 => ?_⟩
  · rw [if_neg h0] at H
    intro P24 hP24
    have one : ¬ (17 < o ∧ o < 21) → P24 := by
      intro hn
      rw [if_neg hn] at H
      apply hP24
      have y1 : (o = 4 ∨ o = 5 ∨ o = 25 ∨ o = 26 ∨ o = 29) → Q (nI 1) := fun hh => by rw [if_pos hh] at H; exact H
      refine ⟨fun hh => y1 (by omega), fun n4 => ⟨fun hh => y1 (by omega), fun n5 => ⟨fun hh => y1 (by omega), fun n25 => ⟨fun hh => y1 (by omega), fun n26 => ⟨fun n29 => ?_, fun hh => y1 (by omega)⟩⟩⟩⟩⟩
      rw [if_neg (by omega)] at H; exact H
    refine ⟨fun hh => one (by omega), fun h17 => ⟨fun hh => one (by omega), fun h21 => ?_⟩⟩
    rw [if_pos (by omega)] at H; exact H
  · rw [if_pos h0] at H; exact H
theorem k_sizeOf {Q : Int32 → Prop} (hq : q ≤ 2) (hp : pgM s q l) (hk : wkOK l) (H : Q (nI (4 + sumF l))) : W_X12_sizeOf s (nI q) Q := by
  unfold W_X12_sizeOf
  intro P4 hP4
  have inq : vp_in (nI q) 3 := nI_inU (by omega) (by omega)
  rw [nI_ix (n := q) (by omega), hp.1] at hP4
  suffices hL : ∀ (r f a : Nat), f + r = l.length → a + sumF (l.drop f) = 4 + sumF l → P4 (nI a) (nI f) from hL l.length 0 4 (by omega) rfl
  intro r
  induction r with
  | zero =>
    intro f a hf ha
    obtain rfl : f = l.length := by omega
    apply hP4
    refine ⟨inq, fun _ => ?_, fun hz => absurd ((nI_leU (by have := hk.1; omega) (by have := hk.1; omega)).mpr (Nat.le_refl _)) hz⟩
    rw [List.drop_length] at ha
    have : a = 4 + sumF l := ha
    rw [this]; exact H
  | succ r ih =>
    intro f a hf ha
    have hfl : f < l.length := by omega
    have h12 := hk.1
    obtain ⟨k1, k2, k3⟩ := hk.2 f hfl
    obtain ⟨q1, q2, q3, q4, q5, q6, q7, q8⟩ := hp.2 f hfl
    rw [List.drop_eq_getElem_cons hfl, sumF_cons, lenF_eq] at ha
    generalize hx : l[f] = x at *
    apply hP4
    refine ⟨inq, fun hz => absurd ((nI_leU (by omega) (by omega)).mp hz) (by omega), fun _ => ?_⟩
    rw [nI_addU]
    intro x3 e3 P17 hP17
    subst e3
    have hin : vp_in (nI (12 * q + f)) 36 := nI_inU (by omega) (by omega)
    rw [nI_mul, nI_mul, nI_mul, nI_mul, nI_mul, nI_addU, nI_addU, nI_ix (n := 12 * q + f) (by omega), q5, q6] at hP17
    suffices hC : ∀ (r i b : Nat), i + r = (fC x).length → b + sumI ((fC x).drop i) = a + 8 + sumI (fC x) → P17 (nI b) (nI i) from hC (fC x).length 0 (a + 8) (by omega) rfl
    intro r2
    induction r2 with
    | zero =>
      intro i b hi hb
      obtain rfl : i = (fC x).length := by omega
      rw [List.drop_length] at hb
      have hb : b = a + 8 + sumI (fC x) := hb
      apply hP17
      refine ⟨hin, fun _ => ?_, fun hz => absurd ((nI_leU (by omega) (by omega)).mpr (Nat.le_refl _)) hz⟩
      intro P59 hP59 x15 e15
      subst e15
      suffices hH : ∀ (r j d : Nat), j + r = (fH x).length → d + sumH ((fH x).drop j) = b + sumH (fH x) → P59 (nI d) (nI (72 * q + 6 * f + j)) from hH (fH x).length 0 b (by omega) rfl
      intro r3
      induction r3 with
      | zero =>
        intro j d hj hd
        obtain rfl : j = (fH x).length := by omega
        rw [List.drop_length] at hd
        have hd : d = b + sumH (fH x) := hd
        apply hP59
        rw [nI_addU]
        refine ⟨hin, fun _ => ?_, fun hz => absurd ((nI_leU (by omega) (by omega)).mpr (Nat.le_refl _)) hz⟩
        intro x10 e10
        subst e10; rw [nI_s]
        exact ih (f + 1) d (by omega) (by omega)
      | succ r3 ih3 =>
        intro j d hj hd
        have hjl : j < (fH x).length := by omega
        rw [List.drop_eq_getElem_cons hjl, sumH_cons] at hd
        have hq4 := (q8 j hjl).2.2.2.1
        apply hP59
        rw [nI_addU]
        refine ⟨hin, fun hz => absurd ((nI_leU (by omega) (by omega)).mp hz) (by omega), fun _ => ?_⟩
        rw [nI_ix (n := 72 * q + 6 * f + j) (by omega), hq4]
        refine ⟨nI_inU (by omega) (by omega), ?_⟩
        intro P91 hP91
        have lt : lenH (fH x)[j] = if hA (fH x)[j] then 7 else 11 := rfl
        generalize (fH x)[j] = y at *
        cases hy : hA y with
        | false =>
          rw [hy] at lt
          refine ⟨fun _ => ?_, fun hz => absurd rfl hz⟩
          apply hP91
          intro x13 e13 x14 e14
          rw [nI_addU] at e13
          rw [nI_s] at e14
          subst e13; subst e14
          rw [Nat.add_assoc _ j 1]
          refine ih3 (j + 1) (d + 11) (by omega) ?_
          have lt : lenH y = 11 := lt
          omega
        | true =>
          rw [hy] at lt
          refine ⟨fun hz => absurd hz (by decide), fun _ => ?_⟩
          apply hP91
          intro x13 e13 x14 e14
          rw [nI_addU] at e13
          rw [nI_s] at e14
          subst e13; subst e14
          rw [Nat.add_assoc _ j 1]
          refine ih3 (j + 1) (d + 7) (by omega) ?_
          have lt : lenH y = 7 := lt
          omega
    | succ r2 ih2 =>
      intro i b hi hb
      have hil : i < (fC x).length := by omega
      rw [List.drop_eq_getElem_cons hil, sumI_cons] at hb
      have hop := (q7 i hil).1
      have h29 := k3 _ (List.getElem_mem hil)
      have hw := wd_g h29
      apply hP17
      refine ⟨hin, fun hz => absurd ((nI_leU (by omega) (by omega)).mp hz) (by omega), fun _ => ?_⟩
      rw [nI_addU, nI_addU, nI_ix (n := 4800 * q + 400 * f + i) (by omega), hop]
      refine ⟨nI_inU (by omega) (by omega), ?_⟩
      refine k_behind h29 ?_
      rw [show (1 : Int32) = nI 1 from rfl, nI_addU, nI_addU, nI_addU]
      intro x18 e18 x19 e19
      subst e18; subst e19
      exact ih2 (i + 1) _ (by omega) (by omega)
end
