section
variable {s : yS} {g p n : Nat} {l : List Fn} {cs : List Nat} {RJ : Nat → Nat → Int64} {F : FSt} {f i : Nat}
theorem c_isGuarded {Q : Int32 → Prop} (hok : pgOK l) (hp : pgC s g l) (hf : f < l.length) (hi : i < (fC l[f]).length) (H : Q (bI (gdd l[f] i))) : W_X5_isGuarded s g (nI f) (nI i) Q := by
  have h4 := (hok.2.2.1 f hf).2.2.2.2.2.2.2.2.1
  have h12 := hok.2.1
  have hfm := hp.2 f hf
  have hio : ∀ j, j < (fC l[f]).length → opA l[f] j ≤ 29 := fun j hj => by
    rw [opA_at hj]; exact ((hok.2.2.1 f hf).2.2.2.2.2.2.2.2.2.2.1 _ (List.getElem_mem hj)).1
  have hc : ∀ j, j < (fC l[f]).length → (sI s (g + 7)) (f * 400 + j) = nI (opA l[f] j) ∧ (sI s (g + 8)) (f * 400 + j) = orA l[f] j := fun j hj => by
    rw [opA_at hj, orA_at hj]; exact hfm.2.2.2.2.2.2.1 j hj
  have hai := hfm.2.2.2.2.2.2.2.2 i hi
  unfold W_X5_isGuarded
  rw [nI_mul, nI_addU]
  intro x1 e1
  subst e1
  have hin : vp_in (nI (f * 400 + i)) 4800 := nI_inU (by omega) (by omega)
  rw [nI_ix (n := f * 400 + i) (by omega), (hc i hi).1, (hc i hi).2, hai, nI_0U, nI_leU (by omega) (by omega), nI_inj (by have := hio i hi; omega) (by omega)]
  have no : ¬ (0 < i ∧ opA l[f] i = 26 ∧ opA l[f] (i - 1) = 29 ∧ orA l[f] (i - 1) = orA l[f] i) → Q 0 := fun h => by
    unfold gdd at H; rw [decide_eq_false h] at H; exact H
  refine ⟨fun h => no (by omega), fun h0 => ⟨hin, fun h => no (by omega), fun h26 => ?_⟩⟩
  have hin1 : vp_in (nI (f * 400 + (i - 1))) 4800 := nI_inU (by omega) (by omega)
  have hi1 : i - 1 < (fC l[f]).length := by omega
  rw [nI_p (by omega), show f * 400 + i - 1 = f * 400 + (i - 1) by omega, nI_ix (n := f * 400 + (i - 1)) (by omega), (hc _ hi1).1, (hc _ hi1).2, nI_inj (by have := hio _ hi1; omega) (by omega)]
  refine ⟨hin1, fun h => no (fun hh => h hh.2.2.1), fun h29 => ⟨hin1, hin, fun h => no (fun hh => h hh.2.2.2), fun heq => ⟨hin, ?_⟩⟩⟩
  unfold gdd at H
  rw [decide_eq_true ⟨by omega, h26, h29, heq⟩, Bool.true_and] at H
  cases hm : aimL (fC l[f]) (fH l[f]) i with
  | false => rw [hm] at H; exact ⟨fun hz => absurd rfl hz, fun _ => H⟩
  | true => rw [hm] at H; exact ⟨fun _ => H, fun hz => absurd hz (by decide)⟩
theorem c_canThrow {o : Nat} {Q : Int32 → Prop} (ho : o ≤ 29) (H : Q (bI (thr o))) : W_X0_canThrow s (nI o) Q := by
  have hc : ∀ k, k ≤ 29 → (nI o = nI k ↔ o = k) := fun k hk => nI_inj (by omega) (by omega)
  unfold W_X0_canThrow
  rw [hc 9 (by omega), hc 10 (by omega), hc 21 (by omega), hc 22 (by omega), hc 23 (by omega), hc 25 (by omega), hc 28 (by omega)]
  have y : (o = 9 ∨ o = 10 ∨ o = 21 ∨ o = 22 ∨ o = 23 ∨ o = 25 ∨ o = 28) → Q 1 := fun h => by unfold thr at H; rw [decide_eq_true h] at H; exact H
  refine ⟨fun h => y (by omega), fun _ => ⟨fun h => y (by omega), fun _ => ⟨fun h => y (by omega), fun _ => ⟨fun h => y (by omega), fun _ => ⟨fun h => y (by omega), fun _ => ⟨fun h => y (by omega), fun _ => ⟨fun h => ?_, fun h => y (by omega)⟩⟩⟩⟩⟩⟩⟩
  unfold thr at H; rw [decide_eq_false (by omega)] at H; exact H
theorem c_growHandlers {v : Int64} {Q : yS → Prop} (hok : pgOK l) (hs : fcC s g p l cs RJ n) (hf : f < l.length) (hi : i < 400) (hk : okq l F) (hD : flD s g l F) (H : ∀ s', frM (dFl g) s s' → okq l (hdl f i v (fH l[f]) F) → flD s' g l (hdl f i v (fH l[f]) F) → Q s') : W_X0_growHandlers s (nI f) (nI i) v Q := by
  have hfo := hok.2.2.1 f hf
  have h400 := hfo.2.2.2.2.2.2.2.2.1
  have h6 := hfo.2.2.2.2.2.2.2.2.2.1
  have hho := hfo.2.2.2.2.2.2.2.2.2.2.2
  have h12 := hok.2.1
  unfold W_X0_growHandlers
  intro P6 hP6 x12 e12
  rw [nI_mul] at e12
  subst e12
  have hin : vp_in (nI f) 12 := nI_inU (by omega) (by omega)
  suffices hL : ∀ (r k : Nat) (F1 : FSt) (u : yS), k + r = (fH l[f]).length → frM (dFl g) s u → okq l F1 → flD u g l F1 → hdl f i v (fH l[f]) F = hdl f i v ((fH l[f]).drop k) F1 → P6 (nI (f * 6 + k)) u by
    have h0 := hL (fH l[f]).length 0 F s (by omega) frM.rfl' hk hD rfl
    rw [Nat.add_zero] at h0; exact h0
  intro r
  induction r with
  | zero =>
    intro k F1 u hkk Fu ku Du he
    have su := hs.fr Fu
    have hh := (su.2.2.2.2.1.2 f hf).2.2.2.2.2.1
    apply hP6
    refine ⟨g, su.2.2.1, su.1.kd, hin, ?_⟩
    rw [nI_ix (n := f) (by omega), hh, nI_mul, nI_addU]
    refine ⟨fun _ => ?_, fun hz => absurd ((nI_leU (by omega) (by omega)).mpr (by omega)) hz⟩
    rw [show k = (fH l[f]).length by omega, List.drop_length] at he
    have he : hdl f i v (fH l[f]) F = F1 := he
    rw [he] at H
    exact H u Fu ku Du
  | succ r ih =>
    intro k F1 u hkk Fu ku Du he
    have hkl : k < (fH l[f]).length := by omega
    have su := hs.fr Fu
    have hh := (su.2.2.2.2.1.2 f hf).2.2.2.2.2.1
    have hk6 := (su.2.2.2.2.1.2 f hf).2.2.2.2.2.2.2.1 k hkl
    have hhk := hho _ (List.getElem_mem hkl)
    rw [List.drop_eq_getElem_cons hkl, hdl] at he
    generalize (fH l[f])[k] = y at *
    have b1 := hhk.1
    have b2 := hhk.2.1
    have b3 := hhk.2.2.1
    apply hP6
    refine ⟨g, su.2.2.1, su.1.kd, hin, ?_⟩
    rw [nI_ix (n := f) (by omega), hh, nI_mul, nI_addU]
    refine ⟨fun hz => absurd ((nI_leU (by omega) (by omega)).mp hz) (by omega), fun _ => ⟨g, su.2.2.1, su.1.kd, ?_⟩⟩
    have hin2 : vp_in (nI (f * 6 + k)) 72 := nI_inU (by omega) (by omega)
    unfold W_X5_isInRange
    rw [nI_ix (n := f * 6 + k) (by omega), hk6.1, hk6.2.1, nI_ltU (by omega) (by omega), nI_leU (by omega) (by omega)]
    have nx : ∀ (F2 : FSt) (u2 : yS), frM (dFl g) s u2 → okq l F2 → flD u2 g l F2 → hdl f i v (fH l[f]) F = hdl f i v ((fH l[f]).drop (k + 1)) F2 → ∀ x8 : Int32, x8 = nI (f * 6 + k) + 1 → P6 x8 u2 := by
      intro F2 u2 Fu2 ku2 Du2 he2 x8 e8
      subst e8; rw [nI_s, Nat.add_assoc]
      exact ih (k + 1) F2 u2 (by omega) Fu2 ku2 Du2 he2
    refine ⟨hin2, fun hlt => ?_, fun hge => ⟨hin2, fun hle => ?_, fun hlt => ?_⟩⟩
    · rw [if_neg (by omega)] at he
      intro P59 hP59
      exact ⟨fun _ => hP59 _ (nx F1 u Fu ku Du he), fun hz => absurd rfl hz⟩
    · rw [if_neg (by omega)] at he
      intro P59 hP59
      exact ⟨fun _ => hP59 _ (nx F1 u Fu ku Du he), fun hz => absurd rfl hz⟩
    · rw [if_pos (by omega)] at he
      intro P59 hP59
      refine ⟨fun hz => absurd hz (by decide), fun _ => ⟨g, su.2.2.1, su.1.kd, hin2, ?_⟩⟩
      rw [hk6.2.2.1, nI_mul, nI_addU]
      have hv := vld_of hok hf b3
      refine c_grow hok su hv.1 ku Du (fun u2 Fu2 Du2 => hP59 _ (nx _ u2 (Fu.trans Fu2) (grw_okq ku hv.1) Du2 he))
set_option maxHeartbeats 1000000 in
theorem c_spread {Q : yS → Prop} (hok : pgOK l) (hs : fcC s g p l cs RJ n) (hf : f < l.length) (hi : i < (fC l[f]).length) (hnx : ¬ (opA l[f] i = 18 ∨ opA l[f] i = 27 ∨ opA l[f] i = 28) → i + 1 < (fC l[f]).length) (hk : okq l F) (hD : flD s g l F)
    (H : ∀ s', frM (dFl g) s s' → flD s' g l (spr l cs RJ n f i F) → Q s') : W_X0_spread s (nI f) (nI i) Q := by
  have hfo := hok.2.2.1 f hf
  have h400 := hfo.2.2.2.2.2.2.2.2.1
  have hio := hfo.2.2.2.2.2.2.2.2.2.2.1 _ (List.getElem_mem hi)
  have h12 := hok.2.1
  have hvs := hs.2.2.2.2.2.2.2.2.2
  have hfn := fnA_at hf
  have hin : vp_in (nI (f * 400 + i)) 4800 := nI_inU (by omega) (by omega)
  have hco := (hs.2.2.2.2.1.2 f hf).2.2.2.2.2.2.1 i hi
  rw [← opA_at hi, ← orA_at hi] at hco
  have o29 : opA l[f] i ≤ 29 := by rw [opA_at hi]; exact hio.1
  have oJ : 17 < opA l[f] i ∧ opA l[f] i < 21 → ∃ k, k < (fC l[f]).length ∧ orA l[f] i = nI k := fun h => by rw [opA_at hi] at h; rw [orA_at hi]; exact hio.2.2.1 h
  have oC : opA l[f] i = 25 → ∃ k, k < l.length ∧ orA l[f] i = nI k := fun h => by rw [opA_at hi] at h; rw [orA_at hi]; exact hio.2.2.2.1 h
  have oH : opA l[f] i = 26 ∨ opA l[f] i = 29 → ∃ k, k < 16 ∧ orA l[f] i = nI k := fun h => by rw [opA_at hi] at h; rw [orA_at hi]; exact hio.2.2.2.2 h
  unfold W_X0_spread
  rw [nI_mul, nI_addU]
  intro x1 e1
  subst e1
  rw [nI_ix (n := f * 400 + i) (by omega)]
  refine ⟨g, hs.2.2.1, hs.1.kd, hin, ?_⟩
  rw [hco.1]
  intro x4 e4
  subst e4
  refine ⟨g, hs.2.2.1, hs.1.kd, hin, ?_⟩
  rw [hco.2]
  intro x7 e7
  subst e7
  refine ⟨g, hs.2.2.1, hs.1.kd, hin, ?_⟩
  rw [hD.1 _ (by omega)]
  intro x10 e10
  subst e10
  unfold spr at H
  dsimp only at H
  generalize eM F (f * 400 + i) = v at *
  refine c_growAll hok hs (by omega) hk hD (fun s11 F11 D11 => ?_)
  have k11 := (grA_is (t := f) (v := v) (F := F) hvs).2.2.2.2 hk
  generalize grA l cs f v F = F1 at *
  have s11' := hs.fr F11
  intro P164 hP164
  -- the second part
  have sec : ∀ (th af : Int64) (F2 : FSt) (s14 : yS), spr1 l cs RJ n f i v F1 = (th, af, F2) → frM (dFl g) s s14 → okq l F2 → flD s14 g l F2 → P164 th af s14 := by
    intro th af F2 s14 hr F14 k14 D14
    rw [hr] at H
    dsimp only at H
    unfold spr2 at H
    rw [hfn] at H
    dsimp only at H
    apply hP164
    refine c_canThrow o29 ?_
    intro P180 hP180
    have hcx : ∀ k, k ≤ 29 → (nI (opA l[f] i) = nI k ↔ opA l[f] i = k) := fun k hk => nI_inj (by omega) (by omega)
    -- behind the jump
    have bh : ∀ (F4 : FSt) (s18 : yS), frM (dFl g) s s18 → okq l F4 → flD s18 g l F4 → (∀ s', frM (dFl g) s s' → flD s' g l (if ¬ (opA l[f] i = 18 ∨ opA l[f] i = 27 ∨ opA l[f] i = 28) then grw (f * 400 + i + 1) af F4 else F4) → Q s') → W_X5_goesOnBehind s18 (nI (opA l[f] i)) (fun r19 => ((r19 = 0 → Q s18) ∧ (¬ r19 = 0 → W_X0_grow s18 (nI (f * 400 + i) + 1) af (fun s20 => Q s20)))) := by
      intro F4 s18 F18 k18 D18 H18
      have su := hs.fr F18
      unfold W_X5_goesOnBehind
      rw [hcx 18 (by omega), hcx 27 (by omega), hcx 28 (by omega)]
      have no : (opA l[f] i = 18 ∨ opA l[f] i = 27 ∨ opA l[f] i = 28) → Q s18 := fun hh => by
        rw [if_neg (fun h => h hh)] at H18; exact H18 s18 F18 D18
      refine ⟨fun h => ⟨fun _ => no (by omega), fun hz => absurd rfl hz⟩, fun n18 => ⟨fun h => ⟨fun _ => no (by omega), fun hz => absurd rfl hz⟩, fun n27 => ⟨fun h => ⟨fun _ => no (by omega), fun hz => absurd rfl hz⟩, fun n28 => ⟨fun hz => absurd hz (by decide), fun _ => ?_⟩⟩⟩⟩
      have hb : ¬ (opA l[f] i = 18 ∨ opA l[f] i = 27 ∨ opA l[f] i = 28) := by omega
      rw [if_pos hb] at H18
      have hv := vld_of hok hf (hnx hb)
      rw [nI_s]
      rw [← Nat.add_assoc] at hv
      exact c_grow hok su hv.1 k18 D18 (fun s' F' D' => H18 s' (F18.trans F') D')
    -- behind the handlers
    have jp : ∀ (F3 : FSt) (s16 : yS), frM (dFl g) s s16 → okq l F3 → flD s16 g l F3 → (∀ s', frM (dFl g) s s' → flD s' g l (if ¬ (opA l[f] i = 18 ∨ opA l[f] i = 27 ∨ opA l[f] i = 28) then grw (f * 400 + i + 1) af (if 17 < opA l[f] i ∧ opA l[f] i < 21 then grw (f * 400 + ix (orA l[f] i)) af F3 else F3) else (if 17 < opA l[f] i ∧ opA l[f] i < 21 then grw (f * 400 + ix (orA l[f] i)) af F3 else F3)) → Q s') → P180 s16 := by
      intro F3 s16 F16 k16 D16 H16
      have su := hs.fr F16
      apply hP180
      unfold W_X5_isJump
      rw [hcx 18 (by omega), hcx 19 (by omega), hcx 20 (by omega)]
      have yes : (17 < opA l[f] i ∧ opA l[f] i < 21) → ∀ P202 : yS → Prop, (∀ (s18 : yS), (W_X5_goesOnBehind s18 (nI (opA l[f] i)) (fun r19 => ((r19 = 0 → Q s18) ∧ (¬ r19 = 0 → W_X0_grow s18 (nI (f * 400 + i) + 1) af (fun s20 => Q s20))))) → P202 s18) → W_X0_grow s16 (nI (f * 400) + orA l[f] i) af (fun s21 => P202 s21) := by
        intro hj P202 hP202
        rw [if_pos hj] at H16
        obtain ⟨k, hkk, ek⟩ := oJ hj
        rw [ek, nI_ix (by omega)] at H16
        rw [ek, nI_addU]
        have hv := vld_of hok hf hkk
        exact c_grow hok su hv.1 k16 D16 (fun s' F' D' => hP202 _ (bh _ s' (F16.trans F') (grw_okq k16 hv.1) D' H16))
      have no : ¬ (17 < opA l[f] i ∧ opA l[f] i < 21) → ∀ P202 : yS → Prop, (∀ (s18 : yS), (W_X5_goesOnBehind s18 (nI (opA l[f] i)) (fun r19 => ((r19 = 0 → Q s18) ∧ (¬ r19 = 0 → W_X0_grow s18 (nI (f * 400 + i) + 1) af (fun s20 => Q s20))))) → P202 s18) → P202 s16 := by
        intro hj P202 hP202
        rw [if_neg hj] at H16
        exact hP202 _ (bh _ s16 F16 k16 D16 H16)
      refine ⟨fun h P202 hP202 => ⟨fun hz => absurd hz (by decide), fun _ => yes (by omega) P202 hP202⟩, fun n18 => ⟨fun h P202 hP202 => ⟨fun hz => absurd hz (by decide), fun _ => yes (by omega) P202 hP202⟩, fun n19 => ⟨fun n20 P202 hP202 => ⟨fun _ => no (by omega) P202 hP202, fun hz => absurd rfl hz⟩, fun h P202 hP202 => ⟨fun hz => absurd hz (by decide), fun _ => yes (by omega) P202 hP202⟩⟩⟩⟩
    cases ht : thr (opA l[f] i) with
    | false =>
      rw [ht] at H
      exact ⟨fun _ => jp F2 s14 F14 k14 D14 H, fun hz => absurd rfl hz⟩
    | true =>
      rw [ht] at H
      refine ⟨fun hz => absurd hz (by decide), fun _ => ?_⟩
      exact c_growHandlers hok (hs.fr F14) hf (by omega) k14 D14 (fun s22 F22 k22 D22 => jp _ s22 (F14.trans F22) k22 D22 H)
  have hcx : ∀ k, k ≤ 29 → (nI (opA l[f] i) = nI k ↔ opA l[f] i = k) := fun k hk => nI_inj (by omega) (by omega)
  rw [hcx 25 (by omega), hcx 27 (by omega), hcx 29 (by omega), hcx 26 (by omega)]
  unfold spr1 at sec
  rw [hfn] at sec
  refine ⟨fun n25 => ⟨fun n27 => ?_, fun h27 => ?_⟩, fun h25 => ?_⟩
  · rw [if_neg n25, if_neg n27] at sec
    intro P154 hP154
    have ge : (opA l[f] i = 29 ∨ (opA l[f] i = 26 ∧ gdd l[f] i = false)) → P154 := fun hh => by
      rw [if_pos hh] at sec
      obtain ⟨k, hkk, ek⟩ := oH (by omega)
      rw [ek, nI_ix (by omega)] at sec
      apply hP154
      rw [ek]
      exact c_led s11' hkk (sec _ _ _ _ rfl F11 k11 D11)
    refine ⟨fun h29 => ge (Or.inl h29), fun n29 => ⟨fun n26 => ?_, fun h26 => ⟨g, s11'.2.2.1, s11'.1.kd, ?_⟩⟩⟩
    · rw [if_neg (by omega)] at sec
      exact sec _ _ _ _ rfl F11 k11 D11
    · refine c_isGuarded hok s11'.2.2.2.2.1 hf hi ?_
      cases hgd : gdd l[f] i with
      | false => exact ⟨fun hz => absurd rfl hz, fun _ => ge (Or.inr ⟨h26, hgd⟩)⟩
      | true =>
        rw [if_neg (by rintro (h | ⟨_, h⟩); exact n29 h; rw [hgd] at h; exact absurd h (by decide))] at sec
        exact ⟨fun _ => sec _ _ _ _ rfl F11 k11 D11, fun hz => absurd hz (by decide)⟩
  · rw [if_neg n25, if_pos h27] at sec
    exact c_growExit hok s11' (by omega) k11 D11 (fun s26 F26 D26 => sec _ _ _ _ rfl (F11.trans F26) ((grX_is (t := f) (v := v) (F := F1) hvs).2.2.2.2 k11) D26)
  · rw [if_pos h25] at sec
    obtain ⟨k, hkk, ek⟩ := oC h25
    rw [ek, nI_ix (by omega)] at sec
    rw [ek, nI_mul, nI_ix (by omega)]
    have hv0 : vld l (k * 400) := by
      have := (vld_of hok hkk (i := 0) (hok.2.2.1 k hkk).2.2.2.2.2.2.2.1).1
      rw [Nat.add_zero] at this; exact this
    have hink : vp_in (nI k) 12 := nI_inU (by omega) (by omega)
    refine c_grow hok s11' hv0 k11 D11 (fun s27 F27 D27 => ⟨hink, ?_⟩)
    have k27 := grw_okq (v := v) k11 hv0
    generalize grw (k * 400) v F1 = Fw at *
    have F27' := F11.trans F27
    rw [D27.2.2.1 k (by omega)]
    refine c_growAll hok (hs.fr F27') (by omega) k27 D27 (fun s29 F29 D29 => ⟨hink, ?_⟩)
    intro x31 e31
    refine ⟨hink, ?_⟩
    intro x33 e33
    rw [D29.2.1 k (by omega)] at e31
    rw [D29.2.2.1 k (by omega)] at e33
    subst e31; subst e33
    exact sec _ _ _ _ rfl (F27'.trans F29) ((grA_is (t := f) (v := eA Fw k) (F := Fw) hvs).2.2.2.2 k27) D29
end
