/-! ===== PURE: the reference's flow ===== -/
section
variable {s : yS} {q n : Nat} {l : List Fn} {RJ : Nat → Nat → Int64} {f i : Nat}
theorem k_isGuarded {Q : Int32 → Prop} (hq : q ≤ 2) (hok : pgOK l) (hp : pgM s q l) (hf : f < l.length) (hi : i < (fC l[f]).length) (H : Q (bI (gdd l[f] i))) : W_X12_isGuarded s (nI q) (nI f) (nI i) Q := by
  have hfo := hok.2.2.1 f hf
  have h4 := hfo.2.2.2.2.2.2.2.2.1
  have h6 := hfo.2.2.2.2.2.2.2.2.2.1
  have h12 := hok.2.1
  have hfm := hp.2 f hf
  have hio : ∀ j, j < (fC l[f]).length → opA l[f] j ≤ 29 := fun j hj => by
    rw [opA_at hj]; exact (hfo.2.2.2.2.2.2.2.2.2.2.1 _ (List.getElem_mem hj)).1
  have hc : ∀ j, j < (fC l[f]).length → (sI s 186) (4800 * q + 400 * f + j) = nI (opA l[f] j) ∧ (sI s 187) (4800 * q + 400 * f + j) = orA l[f] j := fun j hj => by
    rw [opA_at hj, orA_at hj]; exact hfm.2.2.2.2.2.2.1 j hj
  unfold W_X12_isGuarded
  rw [nI_mul, nI_mul, nI_addU]
  intro x1 e1
  subst e1
  have hin : vp_in (nI (4800 * q + 400 * f + i)) 14400 := nI_inU (by omega) (by omega)
  rw [nI_addU, nI_ix (n := 4800 * q + 400 * f + i) (by omega), (hc i hi).1]
  refine ⟨hin, ?_⟩
  intro P91 hP91
  have hinf : vp_in (nI (12 * q + f)) 36 := nI_inU (by omega) (by omega)
  -- the scan
  have scan : ∀ t : Bool, t = decide (0 < i ∧ opA l[f] i = 26 ∧ opA l[f] (i - 1) = 29 ∧ orA l[f] (i - 1) = orA l[f] i) → P91 (bI t) := by
    intro t ht
    have hgd : gdd l[f] i = (t && !aimL (fC l[f]) (fH l[f]) i) := by unfold gdd; rw [ht]
    rw [hgd] at H
    unfold aimL at H
    rw [Bool.not_or, ← Bool.and_assoc] at H
    clear hgd ht
    apply hP91
    intro P96 hP96
    rw [nI_mul, nI_addU, nI_ix (n := 12 * q + f) (by omega), hfm.2.2.2.2.1, hfm.2.2.2.2.2.1, nI_mul, nI_mul, nI_addU, nI_addU] at hP96
    suffices hL : ∀ (r j : Nat) (u : Bool), j + r = (fC l[f]).length → (t && !((fC l[f]).any (fun y => decide (17 < y.1 ∧ y.1 < 21 ∧ y.2 = nI i)))) = (u && !(((fC l[f]).drop j).any (fun y => decide (17 < y.1 ∧ y.1 < 21 ∧ y.2 = nI i)))) → P96 (bI u) (nI j) from hL (fC l[f]).length 0 t (by omega) rfl
    intro r
    induction r with
    | zero =>
      intro j u hj hu
      obtain rfl : j = (fC l[f]).length := by omega
      rw [List.drop_length] at hu
      have hu : (t && !((fC l[f]).any (fun y => decide (17 < y.1 ∧ y.1 < 21 ∧ y.2 = nI i)))) = (u && true) := hu
      rw [hu, Bool.and_true] at H
      apply hP96
      refine ⟨hinf, fun _ => ?_, fun hz => absurd ((nI_leU (by omega) (by omega)).mpr (Nat.le_refl _)) hz⟩
      intro P181 hP181 x14 e14
      subst e14
      suffices hH : ∀ (r k N : Nat) (w : Bool), N = 72 * q + 6 * f + k → k + r = (fH l[f]).length → (u && !((fH l[f]).any (fun h => decide (hG h = i)))) = (w && !(((fH l[f]).drop k).any (fun h => decide (hG h = i)))) → P181 (bI w) (nI N) from hH (fH l[f]).length 0 (72 * q + 6 * f) u (by omega) (by omega) rfl
      intro r2
      induction r2 with
      | zero =>
        intro k N w hN hk hw
        subst hN
        obtain rfl : k = (fH l[f]).length := by omega
        rw [List.drop_length] at hw
        have hw : (u && !((fH l[f]).any (fun h => decide (hG h = i)))) = (w && true) := hw
        rw [hw, Bool.and_true] at H
        apply hP181
        refine ⟨hinf, fun _ => ⟨by cases w <;> unfold zb <;> decide, H⟩, fun hz => absurd ((nI_leU (by omega) (by omega)).mpr (Nat.le_refl _)) hz⟩
      | succ r2 ih2 =>
        intro k N w hN hk hw
        subst hN
        have hkl : k < (fH l[f]).length := by omega
        have hk6 := (hfm.2.2.2.2.2.2.2 k hkl).2.2.1
        rw [List.drop_eq_getElem_cons hkl, List.any_cons, Bool.not_or, ← Bool.and_assoc] at hw
        have hg3 := (hfo.2.2.2.2.2.2.2.2.2.2.2 _ (List.getElem_mem hkl)).2.2.1
        generalize (fH l[f])[k] = y at *
        apply hP181
        refine ⟨hinf, fun hz => absurd ((nI_leU (by omega) (by omega)).mp hz) (by omega), fun _ => ?_⟩
        intro P228 hP228
        have nx : ∀ w2 : Bool, w2 = (w && !decide (hG y = i)) → P228 (bI w2) := fun w2 h2 => hP228 _ (fun x12 e12 => by
          subst e12; rw [nI_s]
          exact ih2 (k + 1) _ w2 (by omega) (by omega) (by rw [h2]; exact hw))
        rw [nI_ix (n := 72 * q + 6 * f + k) (by omega), hk6, nI_inj (by omega) (by omega)]
        cases w with
        | false => exact ⟨fun _ => nx false rfl, fun hz => absurd rfl hz⟩
        | true =>
          refine ⟨fun hz => absurd hz (by decide), fun _ => ⟨nI_inU (by omega) (by omega), fun he => nx false (by rw [decide_eq_true he]; rfl), fun he => nx true (by rw [decide_eq_false he]; rfl)⟩⟩
    | succ r ih =>
      intro j u hj hu
      have hjl : j < (fC l[f]).length := by omega
      have hcj := hc j hjl
      have hio' := hio j hjl
      rw [List.drop_eq_getElem_cons hjl, List.any_cons, Bool.not_or, ← Bool.and_assoc, ← opA_at hjl, ← orA_at hjl] at hu
      apply hP96
      refine ⟨hinf, fun hz => absurd ((nI_leU (by omega) (by omega)).mp hz) (by omega), fun _ => ?_⟩
      rw [nI_addU, nI_ix (n := 4800 * q + 400 * f + j) (by omega), hcj.1]
      have hinj : vp_in (nI (4800 * q + 400 * f + j)) 14400 := nI_inU (by omega) (by omega)
      refine ⟨hinj, ?_⟩
      intro x16 e16
      subst e16
      intro P162 hP162
      have nx : ∀ w2 : Bool, w2 = (u && !decide (17 < opA l[f] j ∧ opA l[f] j < 21 ∧ orA l[f] j = nI i)) → P162 (bI w2) := fun w2 h2 => hP162 _ (fun x12 e12 => by
        subst e12; rw [nI_s]
        exact ih (j + 1) w2 (by omega) (by rw [h2]; exact hu))
      rw [hcj.2, nI_leU (by omega) (by omega), nI_leU (by omega) (by omega)]
      cases u with
      | false => exact ⟨fun _ => nx false rfl, fun hz => absurd rfl hz⟩
      | true =>
        refine ⟨fun hz => absurd hz (by decide), fun _ => ⟨fun hle => nx true (by rw [decide_eq_false (by omega)]; rfl), fun hgt => ⟨fun hle => nx true (by rw [decide_eq_false (by omega)]; rfl), fun hlt => ⟨hinj, fun he => nx false (by rw [decide_eq_true ⟨by omega, by omega, he⟩]; rfl), fun he => nx true (by rw [decide_eq_false (fun h => he h.2.2)]; rfl)⟩⟩⟩⟩
  have no : ¬ (0 < i ∧ opA l[f] i = 26 ∧ opA l[f] (i - 1) = 29 ∧ orA l[f] (i - 1) = orA l[f] i) → P91 0 := fun h => scan false (decide_eq_false h).symm
  rw [nI_inj (by have := hio i hi; omega) (by omega), nI_0U, nI_leU (by omega) (by omega)]
  refine ⟨fun h => no (by omega), fun h26 => ⟨fun h => no (by omega), fun h0 => ?_⟩⟩
  intro P48 hP48
  refine ⟨fun h => absurd h h0, fun _ => ?_⟩
  rw [nI_p (by omega)]
  apply hP48
  have hi1 : i - 1 < (fC l[f]).length := by omega
  have hin1 : vp_in (nI (4800 * q + 400 * f + (i - 1))) 14400 := nI_inU (by omega) (by omega)
  rw [nI_addU, nI_ix (n := 4800 * q + 400 * f + (i - 1)) (by omega), (hc _ hi1).1, nI_inj (by have := hio _ hi1; omega) (by omega)]
  refine ⟨hin1, fun h => no (fun hh => h hh.2.2.1), fun h29 => ?_⟩
  intro P72 hP72
  refine ⟨fun h => absurd h h0, fun _ => ?_⟩
  apply hP72
  rw [nI_p (by omega), nI_addU, nI_ix (n := 4800 * q + 400 * f + (i - 1)) (by omega), (hc _ hi1).2, (hc i hi).2]
  exact ⟨hin1, hin, fun h => no (fun hh => h hh.2.2.2), fun he => scan true (decide_eq_true ⟨by omega, h26, h29, he⟩).symm⟩
def polM (s : yS) (RJ : Nat → Nat → Int64) (n : Nat) : Prop := (sI s 139 56) = nI n ∧ n ≤ 63 ∧ ∀ c, c < 16 → ∀ q, q < n → (sJ s 201) (64 * c + q) = RJ c q
theorem k_after {c : Nat} {v : Int64} {Q : Int64 → Prop} (hpo : polM s RJ n) (hc : c < 16) (H : Q (ledJ RJ v c n)) : W_X12_after s v (nI c) Q := by
  obtain ⟨h6, h7, h8⟩ := hpo
  unfold W_X12_after
  intro P6 hP6
  rw [h6] at hP6
  suffices hL : ∀ (r k : Nat), k + r = n → P6 (ledJ RJ v c k) (nI k) from hL n 0 (by omega)
  intro r
  induction r with
  | zero =>
    intro k hk
    apply hP6
    refine ⟨fun _ => ?_, fun hz => absurd ((nI_leU (by omega) (by omega)).mpr (by omega)) hz⟩
    rw [show k = n by omega]; exact H
  | succ r ih =>
    intro k hk
    apply hP6
    refine ⟨fun hz => absurd ((nI_leU (by omega) (by omega)).mp hz) (by omega), fun _ => ?_⟩
    intro P44 hP44
    rw [bitJ_at (by omega), cmp0]
    have nx : ∀ y : Int64, ledJ RJ v c k ||| y = ledJ RJ v c (k + 1) → P44 y := fun y hy => hP44 y (fun x4 e4 x5 e5 => by
      subst e5; rw [hy] at e4; subst e4; rw [nI_s]; exact ih (k + 1) (by omega))
    rw [ledJ] at nx
    cases hb : bJ v k with
    | false =>
      rw [hb, if_neg (by decide)] at nx
      exact ⟨fun _ => nx _ (by apply bJ_ext; intro c _; rw [bJ_or, bJ_0, Bool.or_false]), fun hz => absurd hz (by decide)⟩
    | true =>
      rw [hb, if_pos rfl] at nx
      refine ⟨fun hz => absurd rfl hz, fun _ => ?_⟩
      rw [nI_mul, nI_addU, nI_ix (n := 64 * c + k) (by omega), h8 c hc k (by omega)]
      exact ⟨nI_inU (by omega) (by omega), nx _ rfl⟩
/-! the state of a round -/
abbrev RSt : Type := (Nat → Int64) × (Nat → Int64) × (Nat → Int64) × (Nat → Int64)
def qM (R : RSt) : Nat → Int64 := R.1
def qE (R : RSt) : Nat → Int64 := R.2.1
def qX (R : RSt) : Nat → Int64 := R.2.2.1
def qA (R : RSt) : Nat → Int64 := R.2.2.2
def rJ (s : yS) (q : Nat) (R : RSt) : Prop := (∀ a, a < 4800 → sJ s 196 (4800 * q + a) = qM R a) ∧ (∀ t, t < 12 → sJ s 197 (12 * q + t) = qE R t) ∧ (∀ t, t < 12 → sJ s 198 (12 * q + t) = qX R t) ∧ (∀ t, t < 12 → sJ s 199 (12 * q + t) = qA R t)
def sndR (l : List Fn) (RJ : Nat → Nat → Int64) (n : Nat) (R : RSt) : Prop := (∀ a, a < 4800 → ∀ b, bJ (qM R a) b = true → lM l (RCJ RJ) n (a / 400) (a % 400) b) ∧ (∀ t, t < 12 → ∀ b, bJ (qE R t) b = true → lM l (RCJ RJ) n t 0 b) ∧ (∀ t, t < 12 → ∀ b, bJ (qX R t) b = true → lX l (RCJ RJ) n t b) ∧ (∀ t, t < 12 → ∀ b, bJ (qA R t) b = true → lA l (RCJ RJ) n t b)
def potR (R : RSt) : Nat := sumR 4800 (fun a => zc (qM R a)) + sumR 12 (fun a => zc (qE R a)) + sumR 12 (fun a => zc (qX R a)) + sumR 12 (fun a => zc (qA R a))
def dFr (q a i : Nat) : Prop := (a = 139 ∧ i = 82) ∨ (a = 196 ∧ 4800 * q ≤ i ∧ i < 4800 * q + 4800) ∨ ((a = 197 ∨ a = 198 ∨ a = 199) ∧ 12 * q ≤ i ∧ i < 12 * q + 12)
/-- a round on its way: R0 at its begin; C what it has seen of it -/
def rdS (s : yS) (q : Nat) (l : List Fn) (RJ : Nat → Nat → Int64) (n : Nat) (R0 : RSt) (C : Prop) : Prop := ∃ R, rJ s q R ∧ sndR l RJ n R ∧ bJ (qE R 0) 0 = true ∧ (((sI s 139 82) = 1 ∧ potR R < potR R0) ∨ ((sI s 139 82) = 0 ∧ R = R0 ∧ C))
theorem rdS.mono {R0 : RSt} {C C' : Prop} (h : rdS s q l RJ n R0 C) (k : C → C') : rdS s q l RJ n R0 C' := by
  obtain ⟨R, h1, h2, h3, h4⟩ := h
  refine ⟨R, h1, h2, h3, ?_⟩
  rcases h4 with h4 | ⟨h4, h5, h6⟩
  · exact Or.inl h4
  · exact Or.inr ⟨h4, h5, k h6⟩
theorem sumR_up {F : Nat → Int64} {N a : Nat} {v : Int64} (ha : a < N) (h : ¬ subJ v (F a)) : sumR N (fun b => zc (upF F a (F a ||| v) b)) < sumR N (fun b => zc (F b)) := by
  apply sumR_lt (j := a) N ha
  · intro k _
    by_cases c : k = a
    · subst c; rw [upF_at]; exact zc_mono sub_or
    · rw [upF_ne c]; exact Nat.le_refl _
  · rw [upF_at]; exact zc_lt h
theorem k_addM {a : Nat} {v : Int64} {R0 : RSt} {C : Prop} {Q : yS → Prop} (hq : q ≤ 2) (ha : a < 4800) (h : rdS s q l RJ n R0 C) (hv : ∀ b, bJ v b = true → lM l (RCJ RJ) n (a / 400) (a % 400) b) (H : ∀ s', frM (dFr q) s s' → rdS s' q l RJ n R0 (C ∧ subJ v (qM R0 a)) → Q s') : W_X12_add s 196 14400 (nI (4800 * q + a)) v Q := by
  obtain ⟨R, ⟨j1, j2, j3, j4⟩, ⟨s1, s2, s3, s4⟩, h0, hm⟩ := id h
  have hin : vp_in (nI (4800 * q + a)) 14400 := nI_inU (by omega) (by omega)
  unfold W_X12_add
  rw [nI_ix (n := 4800 * q + a) (by omega), j1 a ha, newO]
  refine ⟨hin, hin, fun hs => H s frM.rfl' ⟨R, ⟨j1, j2, j3, j4⟩, ⟨s1, s2, s3, s4⟩, h0, ?_⟩, fun hs => ⟨hin, hin, ?_⟩⟩
  · rcases hm with hm | ⟨m1, m2, m3⟩
    · exact Or.inl hm
    · exact Or.inr ⟨m1, m2, m3, by rw [← m2]; exact hs⟩
  · intro s5 e5 s6 e6
    refine H s6 (by subst e6; subst e5; exact (frM.rfl'.wJ (by unfold dFr; omega)).wI (by unfold dFr; omega)) ⟨(upF (qM R) a (qM R a ||| v), qE R, qX R, qA R), ⟨fun b hb => ?_, fun t ht => ?_, fun t ht => ?_, fun t ht => ?_⟩, ⟨fun b hb c hc => ?_, s2, s3, s4⟩, h0, Or.inl ⟨by subst e6; rw [sI_w, if_pos ⟨rfl, rfl⟩], ?_⟩⟩
    · subst e6; subst e5
      show sJ (wJ s 196 (4800 * q + a) _) 196 (4800 * q + b) = upF (qM R) a (qM R a ||| v) b
      by_cases c : b = a
      · subst c; rw [sJ_w, if_pos ⟨rfl, rfl⟩, upF_at]
      · rw [sJ_w, if_neg (by omega), upF_ne c]; exact j1 b hb
    · subst e6; subst e5
      show sJ (wJ s 196 (4800 * q + a) _) 197 (12 * q + t) = _
      rw [sJ_w, if_neg (by omega)]; exact j2 t ht
    · subst e6; subst e5
      show sJ (wJ s 196 (4800 * q + a) _) 198 (12 * q + t) = _
      rw [sJ_w, if_neg (by omega)]; exact j3 t ht
    · subst e6; subst e5
      show sJ (wJ s 196 (4800 * q + a) _) 199 (12 * q + t) = _
      rw [sJ_w, if_neg (by omega)]; exact j4 t ht
    · have hc : bJ (upF (qM R) a (qM R a ||| v) b) c = true := hc
      by_cases cb : b = a
      · subst cb
        rw [upF_at, bJ_or, Bool.or_eq_true] at hc
        rcases hc with hc | hc
        · exact s1 b hb c hc
        · exact hv c hc
      · rw [upF_ne cb] at hc; exact s1 b hb c hc
    · have hlt : potR (upF (qM R) a (qM R a ||| v), qE R, qX R, qA R) < potR R := by
        have := sumR_up (F := qM R) (N := 4800) ha hs
        unfold potR
        show sumR 4800 (fun b => zc (upF (qM R) a (qM R a ||| v) b)) + sumR 12 (fun b => zc (qE R b)) + sumR 12 (fun b => zc (qX R b)) + sumR 12 (fun b => zc (qA R b)) < _
        omega
      rcases hm with hm | ⟨m1, m2, m3⟩
      · omega
      · subst m2; exact hlt
theorem k_addE {a : Nat} {v : Int64} {R0 : RSt} {C : Prop} {Q : yS → Prop} (hq : q ≤ 2) (ha : a < 12) (h : rdS s q l RJ n R0 C) (hv : ∀ b, bJ v b = true → lM l (RCJ RJ) n a 0 b) (H : ∀ s', frM (dFr q) s s' → rdS s' q l RJ n R0 (C ∧ subJ v (qE R0 a)) → Q s') : W_X12_add s 197 36 (nI (12 * q + a)) v Q := by
  obtain ⟨R, ⟨j1, j2, j3, j4⟩, ⟨s1, s2, s3, s4⟩, h0, hm⟩ := id h
  have hin : vp_in (nI (12 * q + a)) 36 := nI_inU (by omega) (by omega)
  unfold W_X12_add
  rw [nI_ix (n := 12 * q + a) (by omega), j2 a ha, newO]
  refine ⟨hin, hin, fun hs => H s frM.rfl' ⟨R, ⟨j1, j2, j3, j4⟩, ⟨s1, s2, s3, s4⟩, h0, ?_⟩, fun hs => ⟨hin, hin, ?_⟩⟩
  · rcases hm with hm | ⟨m1, m2, m3⟩
    · exact Or.inl hm
    · exact Or.inr ⟨m1, m2, m3, by rw [← m2]; exact hs⟩
  · intro s5 e5 s6 e6
    refine H s6 (by subst e6; subst e5; exact (frM.rfl'.wJ (by unfold dFr; omega)).wI (by unfold dFr; omega)) ⟨(qM R, upF (qE R) a (qE R a ||| v), qX R, qA R), ⟨fun b hb => ?_, fun t ht => ?_, fun t ht => ?_, fun t ht => ?_⟩, ⟨s1, fun b hb c hc => ?_, s3, s4⟩, ?_, Or.inl ⟨by subst e6; rw [sI_w, if_pos ⟨rfl, rfl⟩], ?_⟩⟩
    · subst e6; subst e5
      show sJ (wJ s 197 (12 * q + a) _) 196 (4800 * q + b) = _
      rw [sJ_w, if_neg (by omega)]; exact j1 b hb
    · subst e6; subst e5
      show sJ (wJ s 197 (12 * q + a) _) 197 (12 * q + t) = upF (qE R) a (qE R a ||| v) t
      by_cases c : t = a
      · subst c; rw [sJ_w, if_pos ⟨rfl, rfl⟩, upF_at]
      · rw [sJ_w, if_neg (by omega), upF_ne c]; exact j2 t ht
    · subst e6; subst e5
      show sJ (wJ s 197 (12 * q + a) _) 198 (12 * q + t) = _
      rw [sJ_w, if_neg (by omega)]; exact j3 t ht
    · subst e6; subst e5
      show sJ (wJ s 197 (12 * q + a) _) 199 (12 * q + t) = _
      rw [sJ_w, if_neg (by omega)]; exact j4 t ht
    · have hc : bJ (upF (qE R) a (qE R a ||| v) b) c = true := hc
      by_cases cb : b = a
      · subst cb
        rw [upF_at, bJ_or, Bool.or_eq_true] at hc
        rcases hc with hc | hc
        · exact s2 b hb c hc
        · exact hv c hc
      · rw [upF_ne cb] at hc; exact s2 b hb c hc
    · show bJ (upF (qE R) a (qE R a ||| v) 0) 0 = true
      by_cases cb : 0 = a
      · subst cb; rw [upF_at, bJ_or, h0]; rfl
      · rw [upF_ne cb]; exact h0
    · have hlt : potR (qM R, upF (qE R) a (qE R a ||| v), qX R, qA R) < potR R := by
        have := sumR_up (F := qE R) (N := 12) ha hs
        unfold potR
        show sumR 4800 (fun b => zc (qM R b)) + sumR 12 (fun b => zc (upF (qE R) a (qE R a ||| v) b)) + sumR 12 (fun b => zc (qX R b)) + sumR 12 (fun b => zc (qA R b)) < _
        omega
      rcases hm with hm | ⟨m1, m2, m3⟩
      · omega
      · subst m2; exact hlt
theorem k_addX {a : Nat} {v : Int64} {R0 : RSt} {C : Prop} {Q : yS → Prop} (hq : q ≤ 2) (ha : a < 12) (h : rdS s q l RJ n R0 C) (hv : ∀ b, bJ v b = true → lX l (RCJ RJ) n a b) (H : ∀ s', frM (dFr q) s s' → rdS s' q l RJ n R0 (C ∧ subJ v (qX R0 a)) → Q s') : W_X12_add s 198 36 (nI (12 * q + a)) v Q := by
  obtain ⟨R, ⟨j1, j2, j3, j4⟩, ⟨s1, s2, s3, s4⟩, h0, hm⟩ := id h
  have hin : vp_in (nI (12 * q + a)) 36 := nI_inU (by omega) (by omega)
  unfold W_X12_add
  rw [nI_ix (n := 12 * q + a) (by omega), j3 a ha, newO]
  refine ⟨hin, hin, fun hs => H s frM.rfl' ⟨R, ⟨j1, j2, j3, j4⟩, ⟨s1, s2, s3, s4⟩, h0, ?_⟩, fun hs => ⟨hin, hin, ?_⟩⟩
  · rcases hm with hm | ⟨m1, m2, m3⟩
    · exact Or.inl hm
    · exact Or.inr ⟨m1, m2, m3, by rw [← m2]; exact hs⟩
  · intro s5 e5 s6 e6
    refine H s6 (by subst e6; subst e5; exact (frM.rfl'.wJ (by unfold dFr; omega)).wI (by unfold dFr; omega)) ⟨(qM R, qE R, upF (qX R) a (qX R a ||| v), qA R), ⟨fun b hb => ?_, fun t ht => ?_, fun t ht => ?_, fun t ht => ?_⟩, ⟨s1, s2, fun b hb c hc => ?_, s4⟩, h0, Or.inl ⟨by subst e6; rw [sI_w, if_pos ⟨rfl, rfl⟩], ?_⟩⟩
    · subst e6; subst e5
      show sJ (wJ s 198 (12 * q + a) _) 196 (4800 * q + b) = _
      rw [sJ_w, if_neg (by omega)]; exact j1 b hb
    · subst e6; subst e5
      show sJ (wJ s 198 (12 * q + a) _) 197 (12 * q + t) = _
      rw [sJ_w, if_neg (by omega)]; exact j2 t ht
    · subst e6; subst e5
      show sJ (wJ s 198 (12 * q + a) _) 198 (12 * q + t) = upF (qX R) a (qX R a ||| v) t
      by_cases c : t = a
      · subst c; rw [sJ_w, if_pos ⟨rfl, rfl⟩, upF_at]
      · rw [sJ_w, if_neg (by omega), upF_ne c]; exact j3 t ht
    · subst e6; subst e5
      show sJ (wJ s 198 (12 * q + a) _) 199 (12 * q + t) = _
      rw [sJ_w, if_neg (by omega)]; exact j4 t ht
    · have hc : bJ (upF (qX R) a (qX R a ||| v) b) c = true := hc
      by_cases cb : b = a
      · subst cb
        rw [upF_at, bJ_or, Bool.or_eq_true] at hc
        rcases hc with hc | hc
        · exact s3 b hb c hc
        · exact hv c hc
      · rw [upF_ne cb] at hc; exact s3 b hb c hc
    · have hlt : potR (qM R, qE R, upF (qX R) a (qX R a ||| v), qA R) < potR R := by
        have := sumR_up (F := qX R) (N := 12) ha hs
        unfold potR
        show sumR 4800 (fun b => zc (qM R b)) + sumR 12 (fun b => zc (qE R b)) + sumR 12 (fun b => zc (upF (qX R) a (qX R a ||| v) b)) + sumR 12 (fun b => zc (qA R b)) < _
        omega
      rcases hm with hm | ⟨m1, m2, m3⟩
      · omega
      · subst m2; exact hlt
theorem k_addA {a : Nat} {v : Int64} {R0 : RSt} {C : Prop} {Q : yS → Prop} (hq : q ≤ 2) (ha : a < 12) (h : rdS s q l RJ n R0 C) (hv : ∀ b, bJ v b = true → lA l (RCJ RJ) n a b) (H : ∀ s', frM (dFr q) s s' → rdS s' q l RJ n R0 (C ∧ subJ v (qA R0 a)) → Q s') : W_X12_add s 199 36 (nI (12 * q + a)) v Q := by
  obtain ⟨R, ⟨j1, j2, j3, j4⟩, ⟨s1, s2, s3, s4⟩, h0, hm⟩ := id h
  have hin : vp_in (nI (12 * q + a)) 36 := nI_inU (by omega) (by omega)
  unfold W_X12_add
  rw [nI_ix (n := 12 * q + a) (by omega), j4 a ha, newO]
  refine ⟨hin, hin, fun hs => H s frM.rfl' ⟨R, ⟨j1, j2, j3, j4⟩, ⟨s1, s2, s3, s4⟩, h0, ?_⟩, fun hs => ⟨hin, hin, ?_⟩⟩
  · rcases hm with hm | ⟨m1, m2, m3⟩
    · exact Or.inl hm
    · exact Or.inr ⟨m1, m2, m3, by rw [← m2]; exact hs⟩
  · intro s5 e5 s6 e6
    refine H s6 (by subst e6; subst e5; exact (frM.rfl'.wJ (by unfold dFr; omega)).wI (by unfold dFr; omega)) ⟨(qM R, qE R, qX R, upF (qA R) a (qA R a ||| v)), ⟨fun b hb => ?_, fun t ht => ?_, fun t ht => ?_, fun t ht => ?_⟩, ⟨s1, s2, s3, fun b hb c hc => ?_⟩, h0, Or.inl ⟨by subst e6; rw [sI_w, if_pos ⟨rfl, rfl⟩], ?_⟩⟩
    · subst e6; subst e5
      show sJ (wJ s 199 (12 * q + a) _) 196 (4800 * q + b) = _
      rw [sJ_w, if_neg (by omega)]; exact j1 b hb
    · subst e6; subst e5
      show sJ (wJ s 199 (12 * q + a) _) 197 (12 * q + t) = _
      rw [sJ_w, if_neg (by omega)]; exact j2 t ht
    · subst e6; subst e5
      show sJ (wJ s 199 (12 * q + a) _) 198 (12 * q + t) = _
      rw [sJ_w, if_neg (by omega)]; exact j3 t ht
    · subst e6; subst e5
      show sJ (wJ s 199 (12 * q + a) _) 199 (12 * q + t) = upF (qA R) a (qA R a ||| v) t
      by_cases c : t = a
      · subst c; rw [sJ_w, if_pos ⟨rfl, rfl⟩, upF_at]
      · rw [sJ_w, if_neg (by omega), upF_ne c]; exact j4 t ht
    · have hc : bJ (upF (qA R) a (qA R a ||| v) b) c = true := hc
      by_cases cb : b = a
      · subst cb
        rw [upF_at, bJ_or, Bool.or_eq_true] at hc
        rcases hc with hc | hc
        · exact s4 b hb c hc
        · exact hv c hc
      · rw [upF_ne cb] at hc; exact s4 b hb c hc
    · have hlt : potR (qM R, qE R, qX R, upF (qA R) a (qA R a ||| v)) < potR R := by
        have := sumR_up (F := qA R) (N := 12) ha hs
        unfold potR
        show sumR 4800 (fun b => zc (qM R b)) + sumR 12 (fun b => zc (qE R b)) + sumR 12 (fun b => zc (qX R b)) + sumR 12 (fun b => zc (upF (qA R) a (qA R a ||| v) b)) < _
        omega
      rcases hm with hm | ⟨m1, m2, m3⟩
      · omega
      · subst m2; exact hlt
end
