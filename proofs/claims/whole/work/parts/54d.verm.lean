/-! ===== PURE: the reference verifies ===== -/
section
variable {s : yS} {q f n : Nat} {l : List Fn}
theorem vLook_cnt {x : Fn} {i : Nat} {st : List Bool} {V V1 : VS} (hfo : fOK f l.length x) (ho : vOK (fC x).length V) (hi : i < (fC x).length) (hw : V.2 i = true) (hst : V.1 i = some st) (h1 : vLook l x f i st (fC x)[i] (V.1, upF V.2 i false) = .ok V1) : (List.range (fC x).length).countP (pend V1) < (List.range (fC x).length).countP (pend V) := by
  have s1 := vLook_step hfo h1 ho.dr hi rfl hst
  have e1 : (List.range (fC x).length).countP (pend V1) = (List.range (fC x).length).countP (pend (V.1, upF V.2 i false)) := by
    apply List.countP_congr
    intro j _; rw [s1.1.1.1 j]
  rw [e1]
  apply countP_lt
  · intro j _ hj
    have hj : ((V.1 j).isNone || upF V.2 i false j) = true := hj
    show ((V.1 j).isNone || V.2 j) = true
    by_cases c : j = i
    · subst c; rw [hw, Bool.or_true]
    · rw [upF_ne c] at hj; exact hj
  · refine ⟨i, List.mem_range.mpr hi, by show ((V.1 i).isNone || V.2 i) = true; rw [hw, Bool.or_true], ?_⟩
    show ((V.1 i).isNone || upF V.2 i false i) = false
    rw [upF_at, hst]; rfl
def vsM (s : yS) (q f n : Nat) (V : VS) : Prop := ∀ i, i < n → (sI s 193) (4800 * q + 400 * f + i) = dI (V.1 i) ∧ (sI s 194) (4800 * q + 400 * f + i) = tI (V.1 i) ∧ (sI s 195) i = bI (V.2 i)
def dVc (q f n a i : Nat) : Prop := a = 195 ∨ ((a = 193 ∨ a = 194) ∧ 4800 * q + 400 * f ≤ i ∧ i < 4800 * q + 400 * f + n)
def dVm (q f n a i : Nat) : Prop := (a = 139 ∧ (i = 114 ∨ i = 115)) ∨ dVc q f n a i
def dVn (q f n a i : Nat) : Prop := (a = 139 ∧ (i = 15 ∨ i = 16)) ∨ dVm q f n a i
theorem cm_mn {u t : yS} (h : frM (dVm q f n) u t) : frM (dVn q f n) u t := h.mono (fun a i h => Or.inr h)
theorem cm_cm {u t : yS} (h : frM (dVc q f n) u t) : frM (dVm q f n) u t := h.mono (fun a i h => Or.inr h)
theorem cm_hk {u t : yS} (h : frM dHk u t) : frM (dVm q f n) u t := h.mono (fun a i h => Or.inl h)
theorem cm_bn {u t : yS} (h : frM (fun a i => a = 139 ∧ (i = 15 ∨ i = 16)) u t) : frM (dVn q f n) u t := h.mono (fun a i h => Or.inl h)
theorem k_comeTo {i : Nat} {st : List Bool} {V : VS} {Q : yS → Prop} (hq : q ≤ 2) (hf : f < 12) (hn : n ≤ 400) (hi : i < n) (hs : st.length ≤ 16) (hb : (sI s 139 15) = 0) (hV : vsM s q f n V) (ho : vOK n V)
    (H1 : ∀ V', cmT i st V = some V' → ∀ s', frM (dVc q f n) s s' → vsM s' q f n V' → Q s')
    (H0 : cmT i st V = none → ∀ s', frM (fun a i => a = 139 ∧ (i = 15 ∨ i = 16)) s s' → rbM s' (7, 512 * f + i) → Q s') : W_X12_comeTo s (nI q) (nI f) (nI i) (nI st.length) (enc st) Q := by
  have hVi := hV i hi
  have hdn := dI_none (fun u hu => (ho.2 i u hu).1)
  have hin : vp_in (nI (4800 * q + 400 * f + i)) 14400 := nI_inU (by omega) (by omega)
  unfold W_X12_comeTo
  rw [nI_mul, nI_mul, nI_mul, nI_addU, nI_addU, nI_addU]
  intro x1 e1
  subst e1
  rw [nI_ix (n := 4800 * q + 400 * f + i) (by omega)]
  refine ⟨hin, ?_⟩
  rw [hVi.1, hdn.2]
  cases hm : V.1 i with
  | none =>
    refine ⟨fun hh => absurd rfl hh, fun _ => ⟨hin, ?_⟩⟩
    intro s12 e12
    refine ⟨hin, ?_⟩
    intro s15 e15
    rw [nI_ix (n := i) (by omega)]
    refine ⟨nI_inU (by omega) (by omega), ?_⟩
    intro s17 e17
    have hc : cmT i st V = some (upF V.1 i (some st), upF V.2 i true) := by unfold cmT; rw [hm]
    refine H1 _ hc s17 ?_ (fun k hk => ?_)
    · subst e17; subst e15; subst e12
      exact ((frM.rfl'.wI (by unfold dVc; omega)).wI (by unfold dVc; omega)).wI (by unfold dVc; omega)
    · have hVk := hV k hk
      by_cases c : k = i
      · subst c
        refine ⟨?_, ?_, ?_⟩
        · show _ = dI (upF V.1 k (some st) k)
          rw [upF_at]
          subst e17; rw [sI_w, if_neg (by omega)]; subst e15; rw [sI_w, if_neg (by omega)]; subst e12; rw [sI_w, if_pos ⟨rfl, rfl⟩]; rfl
        · show _ = tI (upF V.1 k (some st) k)
          rw [upF_at]
          subst e17; rw [sI_w, if_neg (by omega)]; subst e15; rw [sI_w, if_pos ⟨rfl, rfl⟩]; rfl
        · show _ = bI (upF V.2 k true k)
          rw [upF_at]
          subst e17; rw [sI_w, if_pos ⟨rfl, rfl⟩]; rfl
      · refine ⟨?_, ?_, ?_⟩
        · show _ = dI (upF V.1 i (some st) k)
          rw [upF_ne c]
          subst e17; rw [sI_w, if_neg (by omega)]; subst e15; rw [sI_w, if_neg (by omega)]; subst e12; rw [sI_w, if_neg (by omega)]; exact hVk.1
        · show _ = tI (upF V.1 i (some st) k)
          rw [upF_ne c]
          subst e17; rw [sI_w, if_neg (by omega)]; subst e15; rw [sI_w, if_neg (by omega)]; subst e12; rw [sI_w, if_neg (by omega)]; exact hVk.2.1
        · show _ = bI (upF V.2 i true k)
          rw [upF_ne c]
          subst e17; rw [sI_w, if_neg (by omega)]; subst e15; rw [sI_w, if_neg (by omega)]; subst e12; rw [sI_w, if_neg (by omega)]; exact hVk.2.2
  | some u =>
    have hu := (ho.2 i u hm).1
    refine ⟨fun _ => ⟨hin, ?_⟩, fun hh => absurd (by simp) hh⟩
    intro P77 hP77
    have no : u ≠ st → P77 := by
      intro hne
      apply hP77
      refine k_wrongN (v1 := 7) hb (by omega) (by omega) (fun s7 F7 b7 => H0 ?_ s7 F7 b7)
      unfold cmT; rw [hm]; dsimp only; rw [if_neg hne]
    have hd : dI (some u) = nI u.length := rfl
    rw [hm] at hVi
    rw [hd]
    have key := dtI_eq hu hs
    refine ⟨fun hne => no (fun hh => hne (key.mpr hh).1), fun he => ⟨hin, ?_⟩⟩
    rw [hVi.2.1]
    refine ⟨fun he2 => ?_, fun hne => no (fun hh => hne (key.mpr hh).2)⟩
    have hus : u = st := key.mp ⟨he, he2⟩
    refine H1 V ?_ s frM.rfl' hV
    unfold cmT; rw [hm]; dsimp only; rw [if_pos hus]
theorem pgM.fr {s' : yS} (h : pgM s q l) (h1 : ∀ a i, (178 ≤ a ∧ a ≤ 192) → sI s' a i = sI s a i) : pgM s' q l :=
  ⟨(h1 _ _ (by omega)).trans h.1, fun f hf => (h.2 f hf).fr (fun a ha => h1 _ _ (by omega)) (fun a i ha _ => h1 _ _ (by omega)) (fun a i ha hb _ => h1 _ _ (by omega))⟩
theorem k_lookAtOne {i : Nat} {V : VS} {st : List Bool} {Q : yS → Prop} (hq : q ≤ 2) (hp : pgM s q l) (hok : pgOK l) (hf : f < l.length) (hb : (sI s 139 15) = 0) (hi : i < (fC l[f]).length) (hst : V.1 i = some st) (hV : vsM s q f (fC l[f]).length V) (ho : vOK (fC l[f]).length V)
    (H1 : ∀ V', vLook l l[f] f i st (fC l[f])[i] V = .ok V' → ∀ s', frM (dVm q f (fC l[f]).length) s s' → vsM s' q f (fC l[f]).length V' → Q s')
    (H0 : ∀ e, vLook l l[f] f i st (fC l[f])[i] V = .error e → ∀ s', frM (dVn q f (fC l[f]).length) s s' → rbM s' e → Q s') : W_X12_lookAtOne s (nI q) (nI f) (nI i) Q := by
  obtain ⟨ok1, ok2, ok3, ok4⟩ := id hok
  have hfo := ok3 f hf
  have hc400 := hfo.2.2.2.2.2.2.2.2.1
  have hh6 := hfo.2.2.2.2.2.2.2.2.2.1
  have hio := hfo.2.2.2.2.2.2.2.2.2.2.1 _ (List.getElem_mem hi)
  have hho := hfo.2.2.2.2.2.2.2.2.2.2.2
  have hfc := (hp.2 f hf).2.2.2.2.2.2.1 i hi
  have hVi := hV i hi
  rw [hst] at hVi
  have hst16 := (ho.2 i st hst).1
  have hin : vp_in (nI (4800 * q + 400 * f + i)) 14400 := nI_inU (by omega) (by omega)
  have hinf : vp_in (nI (12 * q + f)) 36 := nI_inU (by omega) (by omega)
  unfold W_X12_lookAtOne
  rw [nI_mul, nI_mul, nI_mul, nI_mul, nI_mul, nI_mul, nI_addU, nI_addU, nI_addU, nI_addU, nI_addU]
  intro x1 e1 x2 e2
  subst e1; subst e2
  rw [nI_ix (n := 4800 * q + 400 * f + i) (by omega), nI_ix (n := 12 * q + f) (by omega)]
  refine ⟨hin, ?_⟩
  rw [hfc.1]
  intro x4 e4
  subst e4
  refine ⟨hin, ?_⟩
  rw [hVi.1]
  intro s7 e7
  refine ⟨hin, ?_⟩
  have t7 : sI s7 194 (4800 * q + 400 * f + i) = enc st := by subst e7; rw [sI_w, if_neg (by omega)]; exact hVi.2.1
  rw [t7]
  intro s10 e10
  have F10 : frM dHk s s10 := by subst e10; subst e7; exact (frM.rfl'.wI (by unfold dHk; omega)).wI (by unfold dHk; omega)
  have k10 : skM s10 st := ⟨by subst e10; rw [sI_w, if_neg (by omega)]; subst e7; rw [sI_w, if_pos ⟨rfl, rfl⟩]; rfl, by subst e10; rw [sI_w, if_pos ⟨rfl, rfl⟩]⟩
  clear e10 e7
  have p10 : pgM s10 q l := hp.fr (fun a i ha => F10.1 a i (by unfold dHk; omega))
  refine ⟨hin, ?_⟩
  rw [F10.1 187 _ (by unfold dHk; omega), hfc.2]
  generalize hy : (fC l[f])[i] = y at *
  refine k_moves hq hf p10 hok hio k10 hst16 (fun r hcr s14 F14 k14 P109 hP109 => ⟨fun _ => ?_, fun hz => absurd hz (by decide)⟩) (fun hcr s14 F14 P109 hP109 => ⟨fun hz => absurd rfl hz, fun _ => ?_⟩)
  · have F14' : frM dHk s s14 := F10.trans F14
    have hrl := chg_len hcr
    have b14 : sI s14 139 15 = 0 := (F14'.1 _ _ (by unfold dHk; omega)).trans hb
    rw [k14.1, nI_leU (by omega) (by omega)]
    refine ⟨fun h16 => ?_, fun h16 => ?_⟩
    · have hvl : vLook l l[f] f i st y V = bnd (vHs f i (fH l[f]) V) (vEnd f i (fC l[f]).length y.1 y.2 r) := by
        unfold vLook; rw [hcr]; dsimp only; rw [if_neg (by omega)]
      generalize vLook l l[f] f i st y V = R at hvl H1 H0
      apply hP109
      rw [b14, k14.1, k14.2]
      refine ⟨fun _ => ?_, fun hz => absurd (by decide) hz⟩
      intro x13 e13 x14 e14
      subst e13; subst e14
      intro P140 hP140 x30 e30
      subst e30
      have V14 : vsM s14 q f (fC l[f]).length V := fun k hk => ⟨(F14'.1 _ _ (by unfold dHk; omega)).trans (hV k hk).1, (F14'.1 _ _ (by unfold dHk; omega)).trans (hV k hk).2.1, (F14'.1 _ _ (by unfold dHk; omega)).trans (hV k hk).2.2⟩
      have pgm : ∀ {t : yS}, frM (dVn q f (fC l[f]).length) s t → pgM t q l := fun F => hp.fr (fun a i ha => F.1 a i (by unfold dVn dVm dVc; omega))
      have bdm : ∀ {t : yS}, frM (dVm q f (fC l[f]).length) s t → sI t 139 15 = 0 := fun F => (F.1 _ _ (by unfold dVm dVc; omega)).trans hb
      -- once it is wrong
      have bad : ∀ (e : Nat × Nat) (k : Nat) (s16 : yS), k ≤ (fH l[f]).length → R = .error e → frM (dVn q f (fC l[f]).length) s s16 → rbM s16 e → P140 (nI (72 * q + 6 * f + k)) s16 := by
        intro e k s16 hk hR F16 b16
        have hne : ¬ sI s16 139 15 = 0 := by rw [b16.1, nI_0U, nI_inj (by have := b16.2.2.2; omega) (by omega)]; have := b16.2.2.1; omega
        have hQ := H0 e hR s16 F16 b16
        apply hP140
        refine ⟨hinf, ?_⟩
        intro P212 hP212
        have g212 : P212 := by
          apply hP212
          intro P250 hP250
          have g250 : P250 s16 := hP250 _ ⟨fun _ => hQ, fun _ => ⟨fun _ => hQ, fun _ => ⟨fun _ => hQ, fun _ => ⟨fun _ => hQ, fun hz => absurd hz hne⟩⟩⟩⟩
          exact ⟨fun _ => g250, fun _ => ⟨fun _ => g250, fun _ => ⟨fun _ => g250, fun hz => absurd hz hne⟩⟩⟩
        exact ⟨fun _ => g212, fun _ => ⟨fun _ => g212, fun hz => absurd hz hne⟩⟩
      have hcx : ∀ k, k ≤ 29 → (nI y.1 = nI k ↔ y.1 = k) := fun k hk => nI_inj (by have := hio.1; omega) (by omega)
      have hy29 := hio.1
      -- behind the handlers
      have fin : ∀ (V1 : VS) (s16 : yS), frM (dVm q f (fC l[f]).length) s s16 → vsM s16 q f (fC l[f]).length V1 → vOK (fC l[f]).length V1 → R = vEnd f i (fC l[f]).length y.1 y.2 r V1 → P140 (nI (72 * q + 6 * f + (fH l[f]).length)) s16 := by
        intro V1 s16 F16 V16 o16 RR
        have p16 := pgm (cm_mn F16)
        have b16 := bdm F16
        have h16' := (p16.2 f hf).2.2.2.2.2.1
        have hop16 := ((p16.2 f hf).2.2.2.2.2.2.1 i hi).2
        rw [hy] at hop16
        apply hP140
        refine ⟨hinf, ?_⟩
        intro P212 hP212
        rw [h16', nI_addU, nI_leU (by omega) (by omega)]
        refine ⟨fun _ => ?_, fun hz => absurd (Nat.le_refl _) hz⟩
        apply hP212
        intro P250 hP250
        have RRj : 17 < y.1 ∧ y.1 < 21 → R = bnd (vCom f (ix y.2) r V1) (fun V => if y.1 = 18 ∨ y.1 = 27 ∨ y.1 = 28 then .ok V else if i + 1 = (fC l[f]).length then .error (8, 512 * f + i) else vCom f (i + 1) r V) := fun hh => by
          rw [RR]; unfold vEnd; rw [if_pos hh]
        have RRn : ¬ (17 < y.1 ∧ y.1 < 21) → R = (if y.1 = 18 ∨ y.1 = 27 ∨ y.1 = 28 then .ok V1 else if i + 1 = (fC l[f]).length then .error (8, 512 * f + i) else vCom f (i + 1) r V1) := fun hh => by
          rw [RR]; unfold vEnd; rw [if_neg hh]; rfl
        -- the last part: what follows
        have last : ∀ (V2 : VS) (s20 : yS), frM (dVm q f (fC l[f]).length) s s20 → vsM s20 q f (fC l[f]).length V2 → vOK (fC l[f]).length V2 → R = (if y.1 = 18 ∨ y.1 = 27 ∨ y.1 = 28 then .ok V2 else if i + 1 = (fC l[f]).length then .error (8, 512 * f + i) else vCom f (i + 1) r V2) → P250 s20 := by
          intro V2 s20 F20 V20 o20 RR2
          have p20 := pgm (cm_mn F20)
          have b20 := bdm F20
          have hsz20 := (p20.2 f hf).2.2.2.2.1
          apply hP250
          rw [hcx 18 (by omega), hcx 27 (by omega), hcx 28 (by omega)]
          have stop : (y.1 = 18 ∨ y.1 = 27 ∨ y.1 = 28) → Q s20 := fun hh => by
            rw [if_pos hh] at RR2
            exact H1 V2 RR2 s20 F20 V20
          refine ⟨fun hh => stop (Or.inl hh), fun n18 => ⟨fun hh => stop (Or.inr (Or.inl hh)), fun n27 => ⟨fun hh => stop (Or.inr (Or.inr hh)), fun n28 => ⟨fun hz => absurd b20 hz, fun _ => ⟨hinf, ?_⟩⟩⟩⟩⟩
          rw [if_neg (by omega)] at RR2
          rw [hsz20, nI_s, nI_inj (by omega) (by omega)]
          refine ⟨fun hne => ?_, fun heq => ?_⟩
          · rw [if_neg hne] at RR2
            refine k_comeTo hq (by omega) hc400 (by omega) h16 b20 V20 o20 (fun V3 hV3 s28 F28 V28 => ?_) (fun hV3 s28 F28 b28 => ?_)
            · refine H1 V3 ?_ s28 (F20.trans (cm_cm F28)) V28
              rw [RR2]; unfold vCom; rw [hV3]
            · refine H0 (7, 512 * f + (i + 1)) ?_ s28 ((cm_mn F20).trans (cm_bn F28)) b28
              rw [RR2]; unfold vCom; rw [hV3]
          · rw [if_pos heq] at RR2
            exact k_wrongN (v1 := 8) b20 (by omega) (by omega) (fun s25 F25 b25 => H0 _ RR2 s25 ((cm_mn F20).trans (cm_bn F25)) b25)
        rw [nI_leU (by omega) (by omega), nI_leU (by omega) (by omega)]
        refine ⟨fun hle => last V1 s16 F16 V16 o16 (RRn (by omega)), fun hgt => ⟨fun hle => last V1 s16 F16 V16 o16 (RRn (by omega)), fun hlt => ⟨fun hz => absurd b16 hz, fun _ => ⟨hin, ?_⟩⟩⟩⟩
        have RR1 := RRj (by omega)
        obtain ⟨k, hk, ek⟩ := hio.2.2.1 (by omega)
        rw [hop16, ek]
        rw [ek, nI_ix (by omega)] at RR1
        refine k_comeTo hq (by omega) hc400 hk h16 b16 V16 o16 (fun V3 hV3 s28 F28 V28 => ?_) (fun hV3 s28 F28 b28 => ?_)
        · refine last V3 s28 (F16.trans (cm_cm F28)) V28 (cmT_ok hV3 o16 hk h16) ?_
          rw [RR1]; unfold vCom; rw [hV3]; rfl
        · have hQ : Q s28 := H0 (7, 512 * f + k) (by rw [RR1]; unfold vCom; rw [hV3]; rfl) s28 ((cm_mn F16).trans (cm_bn F28)) b28
          have hne : ¬ sI s28 139 15 = 0 := by rw [b28.1]; show ¬ nI 7 = 0; decide
          exact hP250 _ ⟨fun _ => hQ, fun _ => ⟨fun _ => hQ, fun _ => ⟨fun _ => hQ, fun _ => ⟨fun _ => hQ, fun hz => absurd hz hne⟩⟩⟩⟩
      suffices hLp : ∀ (w k : Nat) (V1 : VS) (s16 : yS), k + w = (fH l[f]).length → frM (dVm q f (fC l[f]).length) s s16 → vsM s16 q f (fC l[f]).length V1 → vOK (fC l[f]).length V1 → R = bnd (vHs f i ((fH l[f]).drop k) V1) (vEnd f i (fC l[f]).length y.1 y.2 r) → P140 (nI (72 * q + 6 * f + k)) s16 from
        hLp (fH l[f]).length 0 V s14 (by omega) (cm_hk F14') V14 ho hvl
      intro w
      induction w with
      | zero =>
        intro k V1 s16 hk F16 V16 o16 RR
        rw [show k = (fH l[f]).length by omega, List.drop_length] at RR
        rw [show k = (fH l[f]).length by omega]
        exact fin V1 s16 F16 V16 o16 RR
      | succ w ih =>
        intro k V1 s16 hk F16 V16 o16 RR
        have hkl : k < (fH l[f]).length := by omega
        have p16 := pgm (cm_mn F16)
        have b16 := bdm F16
        have h16' := (p16.2 f hf).2.2.2.2.2.1
        have hh16 := (p16.2 f hf).2.2.2.2.2.2.2 k hkl
        have hhk := hho _ (List.getElem_mem hkl)
        have b1 := hhk.1
        have b2 := hhk.2.1
        rw [List.drop_eq_getElem_cons hkl, vHs] at RR
        generalize (fH l[f])[k] = hn at *
        apply hP140
        refine ⟨hinf, ?_⟩
        intro P212 hP212
        rw [h16', nI_addU, nI_leU (by omega) (by omega)]
        refine ⟨fun hz => absurd hz (by omega), fun _ => ⟨fun hz => absurd b16 hz, fun _ => ?_⟩⟩
        have hin3 : vp_in (nI (72 * q + 6 * f + k)) 216 := nI_inU (by omega) (by omega)
        rw [nI_ix (n := 72 * q + 6 * f + k) (by omega)]
        refine ⟨hin3, ?_⟩
        intro P206 hP206
        rw [nI_s, Nat.add_assoc _ k 1] at hP206
        rw [hh16.1, nI_ltU (by omega) (by omega)]
        have out : ¬ (hF hn ≤ i ∧ i < hT hn) → P206 s16 := by
          intro hh
          rw [if_neg hh] at RR
          refine hP206 _ (fun x26 e26 => ?_)
          subst e26
          exact ih (k + 1) V1 s16 (by omega) F16 V16 o16 RR
        refine ⟨fun hlt => out (by omega), fun hge => ⟨hin3, ?_⟩⟩
        rw [hh16.2.1, nI_leU (by omega) (by omega)]
        refine ⟨fun hle => out (by omega), fun hlt => ⟨hin3, ?_⟩⟩
        rw [if_pos ⟨by omega, by omega⟩] at RR
        rw [hh16.2.2.1]
        refine k_comeTo (st := [false]) hq (by omega) hc400 hhk.2.2.1 (Nat.le_of_ble_eq_true rfl) b16 V16 o16 (fun V3 hV3 s28 F28 V28 => ?_) (fun hV3 s28 F28 b28 => ?_)
        · refine hP206 _ (fun x26 e26 => ?_)
          subst e26
          refine ih (k + 1) V3 s28 (by omega) (F16.trans (cm_cm F28)) V28 (cmT_ok hV3 o16 hhk.2.2.1 (Nat.le_of_ble_eq_true rfl)) ?_
          rw [RR]; unfold vCom; rw [hV3]; rfl
        · refine hP206 _ (fun x26 e26 => ?_)
          subst e26
          refine bad (7, 512 * f + hG hn) (k + 1) s28 (by omega) ?_ ((cm_mn F16).trans (cm_bn F28)) b28
          rw [RR]; unfold vCom; rw [hV3]; rfl
    · refine k_wrongN (v1 := 6) b14 (by omega) (by omega) (fun s15 F15 b15 => ?_)
      apply hP109
      have hQ : Q s15 := H0 _ (by unfold vLook; rw [hcr]; dsimp only; rw [if_pos (by omega)]) s15 ((cm_mn (cm_hk F14')).trans (cm_bn F15)) b15
      rw [b15.1]
      exact ⟨fun hz => absurd hz (by show ¬ nI 6 ≤ 0; decide), fun _ => hQ⟩
  · have F14' : frM dHk s s14 := F10.trans F14
    have b14 : sI s14 139 15 = 0 := (F14'.1 _ _ (by unfold dHk; omega)).trans hb
    refine k_wrongN (v1 := 5) b14 (by omega) (by omega) (fun s15 F15 b15 => ?_)
    apply hP109
    have hQ : Q s15 := H0 _ (by unfold vLook; rw [hcr]) s15 ((cm_mn (cm_hk F14')).trans (cm_bn F15)) b15
    rw [b15.1]
    exact ⟨fun hz => absurd hz (by show ¬ nI 5 ≤ 0; decide), fun _ => hQ⟩
end
