section
variable {s : yS} {q f n : Nat} {l : List Fn}
theorem k_verify {Q : yS → Prop} (hq : q ≤ 2) (hp : pgM s q l) (hok : pgOK l) (hf : f < l.length) (hb : (sI s 139 15) = 0)
    (H1 : ∀ V, vFun l l[f] f = .ok V → ∀ s', frM (dVm q f 400) s s' → (∀ i, i < 400 → (sI s' 193) (4800 * q + 400 * f + i) = dI (V.1 i) ∧ (sI s' 194) (4800 * q + 400 * f + i) = tI (V.1 i)) → Q s')
    (H0 : ∀ e, vFun l l[f] f = .error e → ∀ s', frM (dVn q f 400) s s' → rbM s' e → Q s') : W_X12_verify s (nI q) (nI f) Q := by
  obtain ⟨ok1, ok2, ok3, ok4⟩ := id hok
  have hfo := ok3 f hf
  have hc1 := hfo.2.2.2.2.2.2.2.1
  have hc400 := hfo.2.2.2.2.2.2.2.2.1
  have hinf : vp_in (nI (12 * q + f)) 36 := nI_inU (by omega) (by omega)
  unfold W_X12_verify
  rw [nI_mul, nI_addU]
  intro x1 e1 P10 hP10
  subst e1
  rw [nI_ix (n := 12 * q + f) (by omega)] at hP10
  have m4 : ∀ {u t : yS}, frM (dVm q f (fC l[f]).length) u t → frM (dVm q f 400) u t := fun h => h.mono (fun a i h => by unfold dVm dVc at *; omega)
  have n4 : ∀ {u t : yS}, frM (dVn q f (fC l[f]).length) u t → frM (dVn q f 400) u t := fun h => h.mono (fun a i h => by unfold dVn dVm dVc at *; omega)
  have pgm : ∀ {t : yS}, frM (dVm q f 400) s t → pgM t q l := fun F => hp.fr (fun a i ha => F.1 a i (by unfold dVm dVc; omega))
  have bdm : ∀ {t : yS}, frM (dVm q f 400) s t → sI t 139 15 = 0 := fun F => (F.1 _ _ (by unfold dVm dVc; omega)).trans hb
  have fin : ∀ s3 : yS, frM (dVm q f 400) s s3 → (∀ j, j < 400 → (sI s3 195) j = 0 ∧ (sI s3 193) (4800 * q + 400 * f + j) = -1 ∧ (sI s3 194) (4800 * q + 400 * f + j) = 0) → P10 (nI 400) s3 := by
    intro s3 F3 w3
    apply hP10
    refine ⟨fun _ => ?_, fun hz => absurd (by decide) hz⟩
    have V6 : vsM s3 q f (fC l[f]).length (fun _ => none, fun _ => false) := fun i hi => ⟨(w3 i (by omega)).2.1, (w3 i (by omega)).2.2, (w3 i (by omega)).1⟩
    have o6 : vOK (fC l[f]).length (fun _ => none, fun _ => false) := ⟨fun i h => absurd h Bool.false_ne_true, fun i st h => no_so h⟩
    refine k_comeTo (i := 0) (st := []) hq (by omega) hc400 hc1 (Nat.zero_le _) (bdm F3) V6 o6 ?_ (fun hno => so_no hno)
    intro V1 hV1 s4 F4 V4
    have hV0 : V1 = V0 := (Option.some.inj hV1).symm
    subst hV0
    intro P84 hP84
    suffices hR : ∀ (r : Nat) (V : VS) (s6 : yS), vFun l l[f] f = vLoop l l[f] f r V → (List.range (fC l[f]).length).countP (pend V) ≤ r → frM (dVm q f (fC l[f]).length) s3 s6 → vsM s6 q f (fC l[f]).length V → vOK (fC l[f]).length V → P84 0 s6 from
      hR (fC l[f]).length V0 s4 rfl (by have := List.countP_le_length (l := List.range (fC l[f]).length) (p := pend V0); rw [List.length_range] at this; exact this) (cm_cm F4) V4 (V0_ok hc1)
    -- nobody waits
    have done : ∀ (r : Nat) (V : VS) (s6 : yS), vFun l l[f] f = vLoop l l[f] f r V → frM (dVm q f (fC l[f]).length) s3 s6 → vsM s6 q f (fC l[f]).length V → vOK (fC l[f]).length V → (∀ j, j < (fC l[f]).length → V.2 j = false) → Q s6 := by
      intro r V s6 hv F6 V6 o6 hno
      have hv' : vFun l l[f] f = .ok V := by
        rw [hv]
        cases r with
        | zero => rfl
        | succ r => rw [vLoop, lsW_no hno]
      refine H1 V hv' s6 (F3.trans (m4 F6)) (fun i hi => ?_)
      by_cases c : i < (fC l[f]).length
      · exact ⟨(V6 i c).1, (V6 i c).2.1⟩
      · rw [o6.nn (by omega), F6.1 _ _ (by unfold dVm dVc; omega), F6.1 _ _ (by unfold dVm dVc; omega)]
        exact (w3 i hi).2
    -- the scan
    have scan : ∀ (r : Nat), (∀ (V : VS) (s6 : yS) (r' : Nat), r = r' + 1 → vFun l l[f] f = vLoop l l[f] f r' V → (List.range (fC l[f]).length).countP (pend V) ≤ r' → frM (dVm q f (fC l[f]).length) s3 s6 → vsM s6 q f (fC l[f]).length V → vOK (fC l[f]).length V → P84 0 s6) → ∀ (V : VS) (s6 : yS), vFun l l[f] f = vLoop l l[f] f r V → (List.range (fC l[f]).length).countP (pend V) ≤ r → frM (dVm q f (fC l[f]).length) s3 s6 → vsM s6 q f (fC l[f]).length V → vOK (fC l[f]).length V → ∀ (w k : Nat), k + w = (fC l[f]).length → (∀ j, j < k → V.2 j = false) → P84 (nI k) s6 := by
      intro r hr V s6 hv hcn F6 V6 o6 w
      have p6 := pgm (F3.trans (m4 F6))
      have b6 := bdm (F3.trans (m4 F6))
      have hsz := (p6.2 f hf).2.2.2.2.1
      induction w with
      | zero =>
        intro k hk hno
        apply hP84
        rw [hsz, nI_leU (by omega) (by omega)]
        exact ⟨fun hz => absurd b6 hz, fun _ => ⟨hinf, fun _ => done r V s6 hv F6 V6 o6 (fun j hj => hno j (by omega)), fun hz => absurd (by omega) hz⟩⟩
      | succ w ihw =>
        intro k hk hno
        have hkn : k < (fC l[f]).length := by omega
        apply hP84
        rw [hsz, nI_leU (by omega) (by omega), nI_ix (n := k) (by omega), (V6 k hkn).2.2]
        have hin : vp_in (nI k) 400 := nI_inU (by omega) (by omega)
        refine ⟨fun hz => absurd b6 hz, fun _ => ⟨hinf, fun hz => absurd hz (by omega), fun _ => ⟨hin, ?_⟩⟩⟩
        cases hw : V.2 k with
        | false =>
          refine ⟨fun _ => ?_, fun hz => absurd rfl hz⟩
          intro x9 e9; subst e9; rw [nI_s]
          refine ihw (k + 1) (by omega) (fun j hj => ?_)
          by_cases c : j = k
          · subst c; exact hw
          · exact hno j (by omega)
        | true =>
          refine ⟨fun hz => absurd hz (by decide), fun _ => ⟨hin, ?_⟩⟩
          intro s11 e11
          have F11 : frM (fun a i => a = 195) s6 s11 := by subst e11; exact frM.rfl'.wI rfl
          have hls : lsW (fC l[f]).length V.2 = some k := lsW_of hkn hw hno
          obtain ⟨st, hst⟩ : ∃ st, V.1 k = some st := by
            cases hq : V.1 k with
            | none => exact absurd hq (o6.1 k hw)
            | some st => exact ⟨st, rfl⟩
          have F11' : frM (dVm q f (fC l[f]).length) s3 s11 := F6.trans (F11.mono (fun a i h => by unfold dVm dVc; omega))
          have p11 := pgm (F3.trans (m4 F11'))
          have b11 := bdm (F3.trans (m4 F11'))
          have V11 : vsM s11 q f (fC l[f]).length (V.1, upF V.2 k false) := fun i hi => by
            refine ⟨(F11.1 _ _ (by omega)).trans (V6 i hi).1, (F11.1 _ _ (by omega)).trans (V6 i hi).2.1, ?_⟩
            show _ = bI (upF V.2 k false i)
            by_cases c : i = k
            · subst c; rw [upF_at]; subst e11; rw [sI_w, if_pos ⟨rfl, rfl⟩]; rfl
            · rw [upF_ne c]; subst e11; rw [sI_w, if_neg (by omega)]; exact (V6 i hi).2.2
          have o11 : vOK (fC l[f]).length (V.1, upF V.2 k false) := o6.dr
          obtain ⟨r', hr'⟩ : ∃ r', r = r' + 1 := by
            have : 0 < (List.range (fC l[f]).length).countP (pend V) := List.countP_pos_iff.mpr ⟨k, List.mem_range.mpr hkn, by unfold pend; rw [hw, Bool.or_true]⟩
            exact ⟨r - 1, by omega⟩
          have hv2 : vFun l l[f] f = bnd (vLook l l[f] f k st (fC l[f])[k] (V.1, upF V.2 k false)) (vLoop l l[f] f r') := by
            rw [hv, hr', vLoop, hls]; dsimp only; rw [hst, getD_at hkn]; rfl
          refine k_lookAtOne (V := (V.1, upF V.2 k false)) hq p11 hok hf b11 hkn hst V11 o11 (fun V' hV' s' F' V'' => ?_) (fun e he s' F' b' => ?_)
          · have hcnt := vLook_cnt hfo o6 hkn hw hst hV'
            exact hr V' s' r' hr' (by rw [hv2, hV']; rfl) (by omega) (F11'.trans F') V'' (vLook_step hfo hV' o11 hkn rfl hst).1.2.1
          · have hQ : Q s' := H0 e (by rw [hv2, he]; rfl) s' ((cm_mn F3).trans (n4 ((cm_mn F11').trans F'))) b'
            have hne : ¬ sI s' 139 15 = 0 := by rw [b'.1, nI_0U, nI_inj (by have := b'.2.2.2; omega) (by omega)]; have := b'.2.2.1; omega
            apply hP84
            exact ⟨fun _ => hQ, fun hz => absurd hz hne⟩
    intro r
    induction r with
    | zero =>
      intro V s6 hv hcn F6 V6 o6
      exact scan 0 (fun _ _ r' hr' => by omega) V s6 hv hcn F6 V6 o6 (fC l[f]).length 0 (by omega) (fun j hj => by omega)
    | succ r ih =>
      intro V s6 hv hcn F6 V6 o6
      refine scan (r + 1) (fun V' s' r' hr' => ?_) V s6 hv hcn F6 V6 o6 (fC l[f]).length 0 (by omega) (fun j hj => by omega)
      have : r' = r := by omega
      subst this
      exact ih V' s'
  suffices hL : ∀ (r k : Nat) (s3 : yS), k + r = 400 → frM (dVm q f 400) s s3 → (∀ j, j < k → (sI s3 195) j = 0 ∧ (sI s3 193) (4800 * q + 400 * f + j) = -1 ∧ (sI s3 194) (4800 * q + 400 * f + j) = 0) → P10 (nI k) s3 from
    hL 400 0 s (by omega) frM.rfl' (fun j hj => by omega)
  intro r
  induction r with
  | zero =>
    intro k s3 hk F3 w3
    rw [show k = 400 by omega]
    exact fin s3 F3 (fun j hj => w3 j (by omega))
  | succ r ih =>
    intro k s3 hk F3 w3
    apply hP10
    rw [nI_leU (by omega) (by omega), nI_mul, nI_mul, nI_addU, nI_addU, nI_ix (n := k) (by omega), nI_ix (n := 4800 * q + 400 * f + k) (by omega)]
    have hin : vp_in (nI (4800 * q + 400 * f + k)) 14400 := nI_inU (by omega) (by omega)
    refine ⟨fun hz => absurd hz (by omega), fun _ => ⟨nI_inU (by omega) (by omega), ?_⟩⟩
    intro s14 e14
    refine ⟨hin, ?_⟩
    intro s16 e16
    refine ⟨hin, ?_⟩
    intro s18 e18 x19 e19
    subst e19; rw [nI_s]
    refine ih (k + 1) s18 (by omega) (by subst e18; subst e16; subst e14; exact ((F3.wI (by unfold dVm dVc; omega)).wI (by unfold dVm dVc; omega)).wI (by unfold dVm dVc; omega)) (fun j hj => ?_)
    subst e18; subst e16; subst e14
    by_cases c : j = k
    · subst c
      refine ⟨?_, ?_, ?_⟩
      · rw [sI_w, if_neg (by omega), sI_w, if_neg (by omega), sI_w, if_pos ⟨rfl, rfl⟩]; rfl
      · rw [sI_w, if_neg (by omega), sI_w, if_pos ⟨rfl, rfl⟩]
      · rw [sI_w, if_pos ⟨rfl, rfl⟩]
    · have := w3 j (by omega)
      refine ⟨?_, ?_, ?_⟩
      · rw [sI_w, if_neg (by omega), sI_w, if_neg (by omega), sI_w, if_neg (by omega)]; exact this.1
      · rw [sI_w, if_neg (by omega), sI_w, if_neg (by omega), sI_w, if_neg (by omega)]; exact this.2.1
      · rw [sI_w, if_neg (by omega), sI_w, if_neg (by omega), sI_w, if_neg (by omega)]; exact this.2.2
end
