section
variable {l : List Fn} {cs : List Nat} {RJ : Nat → Nat → Int64} {n : Nat}
def m3 (F : FSt) : R3 := fun f i b => bJ (eM F (f * 400 + i)) b = true
def x2 (F : FSt) : R2 := fun t b => bJ (eX F t) b = true
def a2 (F : FSt) : R2 := fun t b => bJ (eA F t) b = true
def snd (l : List Fn) (RJ : Nat → Nat → Int64) (n : Nat) (F : FSt) : Prop := (∀ a, a < 4800 → ∀ b, bJ (eM F a) b = true → lM l (RCJ RJ) n (a / 400) (a % 400) b) ∧ (∀ t, t < 12 → ∀ b, bJ (eX F t) b = true → lX l (RCJ RJ) n t b) ∧ (∀ t, t < 12 → ∀ b, bJ (eA F t) b = true → lA l (RCJ RJ) n t b)
def PI (l : List Fn) (RJ : Nat → Nat → Int64) (n : Nat) (F : FSt) : Prop := okq l F ∧ snd l RJ n F ∧ bJ (eM F 0) 0 = true ∧ ∀ (f : Nat) (hf : f < l.length) (i : Nat), i < (fC l[f]).length → f * 400 + i ∈ eQ F ∨ clAt (RCJ RJ) n l[f] f i (m3 F) (x2 F) (a2 F)
theorem dm4 {f i : Nat} (h : i < 400) : (f * 400 + i) / 400 = f ∧ (f * 400 + i) % 400 = i := by omega
theorem vld_of (hok : pgOK l) {f i : Nat} (hf : f < l.length) (hi : i < (fC l[f]).length) : vld l (f * 400 + i) ∧ f * 400 + i < 4800 := by
  have h4 := (hok.2.2.1 f hf).2.2.2.2.2.2.2.2.1
  have h12 := hok.2.1
  have hd := dm4 (f := f) (i := i) (by omega)
  unfold vld
  rw [hd.1, hd.2, fnA_at hf]
  exact ⟨⟨hf, hi⟩, by omega⟩
theorem vld_lt (hok : pgOK l) {a : Nat} (h : vld l a) : a < 4800 := by
  have h12 := hok.2.1
  have := h.1
  omega
theorem grw_snd {a : Nat} {v : Int64} {F : FSt} (h : snd l RJ n F) (hv : ∀ b, bJ v b = true → lM l (RCJ RJ) n (a / 400) (a % 400) b) : snd l RJ n (grw a v F) := by
  have g := grw_M (a := a) (v := v) (F := F)
  refine ⟨fun b hb c hc => ?_, fun t ht b hb => h.2.1 t ht b (by rw [← g.2.1]; exact hb), fun t ht b hb => h.2.2 t ht b (by rw [← g.2.2.1]; exact hb)⟩
  rcases g.2.2.2 b c hc with hc | ⟨h1, h2⟩
  · exact h.1 b hb c hc
  · subst h1; exact hv c h2
theorem grA_snd {t : Nat} {v : Int64} {F : FSt} (hcs : ∀ a ∈ cs, vld l a) (h : snd l RJ n F) (hv : ∀ b, bJ v b = true → lA l (RCJ RJ) n t b) : snd l RJ n (grA l cs t v F) := by
  have g := grA_is (t := t) (v := v) (F := F) hcs
  refine ⟨fun b hb c hc => h.1 b hb c (by rw [← g.2.1]; exact hc), fun u hu b hb => h.2.1 u hu b (by rw [← g.2.2.1]; exact hb), fun u hu b hb => ?_⟩
  rcases g.2.2.2.1 u b hb with hc | ⟨h1, h2⟩
  · exact h.2.2 u hu b hc
  · subst h1; exact hv b h2
theorem grX_snd {t : Nat} {v : Int64} {F : FSt} (hcs : ∀ a ∈ cs, vld l a) (h : snd l RJ n F) (hv : ∀ b, bJ v b = true → lX l (RCJ RJ) n t b) : snd l RJ n (grX l cs t v F) := by
  have g := grX_is (t := t) (v := v) (F := F) hcs
  refine ⟨fun b hb c hc => h.1 b hb c (by rw [← g.2.1]; exact hc), fun u hu b hb => ?_, fun u hu b hb => h.2.2 u hu b (by rw [← g.2.2.1]; exact hb)⟩
  rcases g.2.2.2.1 u b hb with hc | ⟨h1, h2⟩
  · exact h.2.1 u hu b hc
  · subst h1; exact hv b h2
set_option maxHeartbeats 4000000 in
/-- one instruction is spread -/
theorem spr_step {F : FSt} {a : Nat} {qs : List Nat} (hok : pgOK l) (hva : vAll l = none) (hcs : ∀ a ∈ cs, vld l a) (hcs2 : ∀ a, vld l a → opA (fnA l (a / 400)) (a % 400) = 25 → a ∈ cs) (h : PI l RJ n F) (hq : eQ F = a :: qs) : PI l RJ n (spr l cs RJ n (a / 400) (a % 400) (eM F, eX F, eA F, qs)) ∧ pot l cs (spr l cs RJ n (a / 400) (a % 400) (eM F, eX F, eA F, qs)) + 1 ≤ pot l cs F := by
  obtain ⟨hkq, hsd, h00, hcl⟩ := h
  obtain ⟨hva1, hm0⟩ := hkq.2 a (by rw [hq]; exact List.mem_cons_self ..)
  have ha48 := vld_lt hok hva1
  have hf : a / 400 < l.length := hva1.1
  have hfn := fnA_at hf
  have hi : a % 400 < (fC l[a / 400]).length := by have := hva1.2; rw [hfn] at this; exact this
  have hae : a / 400 * 400 + a % 400 = a := by omega
  have h12 := hok.2.1
  generalize hfe : a / 400 = f at *
  generalize hie : a % 400 = i at *
  -- some bit
  obtain ⟨b0, hb0⟩ : ∃ b, bJ (eM F a) b = true := by
    apply Classical.byContradiction
    intro hn
    apply hm0
    rw [J0]
    intro b
    cases hb : bJ (eM F a) b with
    | false => rfl
    | true => exact absurd ⟨b, hb⟩ hn
  have hl0 : lM l (RCJ RJ) n f i b0 := by have := hsd.1 a ha48 b0 hb0; rw [hfe, hie] at this; exact this
  obtain ⟨_, hty, _⟩ := lM_ty hok hva hl0
  have L := (lM_clo (l := l) (RC := RCJ RJ) (n := n)).2 f hf i hi ⟨b0, hl0⟩
  obtain ⟨st, hst⟩ : ∃ st, vTy l f i = some st := by
    cases hs : vTy l f i with
    | none => exact absurd hs hty
    | some st => exact ⟨st, rfl⟩
  have tyf := vTy_ty hok hva hf
  obtain ⟨_, r, _, _, t3, t4, t5⟩ := tyf.2.2 i st hst
  rw [← opA_at hi] at t4 t5
  rw [← orA_at hi] at t4
  have hfo := hok.2.2.1 f hf
  have h400 := hfo.2.2.2.2.2.2.2.2.1
  have hio := hfo.2.2.2.2.2.2.2.2.2.2.1 _ (List.getElem_mem hi)
  have hho := hfo.2.2.2.2.2.2.2.2.2.2.2
  have hio2 : 17 < opA l[f] i ∧ opA l[f] i < 21 → ix (orA l[f] i) < (fC l[f]).length := fun hh => (tyf.2.1 _ _ (t4 hh)).2
  have hio3 : opA l[f] i = 25 → ix (orA l[f] i) < l.length := fun hh => by
    have hh' := hh
    rw [opA_at hi] at hh'
    obtain ⟨k, hk, ek⟩ := (hfo.2.2.2.2.2.2.2.2.2.2.1 _ (List.getElem_mem hi)).2.2.2.1 hh'
    rw [orA_at hi, ek, nI_ix (by omega)]; exact hk
  -- the state without a
  generalize hF0 : ((eM F, eX F, eA F, qs) : FSt) = F0
  have e1 : eM F0 = eM F := by subst hF0; rfl
  have e2 : eX F0 = eX F := by subst hF0; rfl
  have e3 : eA F0 = eA F := by subst hF0; rfl
  have e4 : eQ F0 = qs := by subst hF0; rfl
  have kq0 : okq l F0 := by
    have := hkq.1
    rw [hq, List.nodup_cons] at this
    refine ⟨by rw [e4]; exact this.2, fun b hb => ?_⟩
    rw [e4] at hb; rw [e1]
    exact hkq.2 b (by rw [hq]; exact List.mem_cons_of_mem _ hb)
  have sd0 : snd l RJ n F0 := by unfold snd; rw [e1, e2, e3]; exact hsd
  have p0 : pot l cs F0 + 1 = pot l cs F := by
    unfold pot; rw [e1, e2, e3, e4, hq, List.length_cons]; omega
  unfold spr
  dsimp only
  rw [hae, e1]
  have hvb : ∀ b, bJ (eM F a) b = true → lM l (RCJ RJ) n f i b := fun b hb => by have := hsd.1 a ha48 b hb; rw [hfe, hie] at this; exact this
  generalize hv : eM F a = v at *
  -- all
  have g1 := grA_gro (l := l) (cs := cs) (v := v) (F := F0) (t := f) (by omega)
  have g1i := grA_is (t := f) (v := v) (F := F0) hcs
  have g1s : snd l RJ n (grA l cs f v F0) := grA_snd hcs sd0 (fun b hb => L.1 b (hvb b hb))
  have g1q := g1i.2.2.2.2 kq0
  generalize hF1 : grA l cs f v F0 = F1 at *
  -- the first part
  have part : ∃ th af F2, spr1 l cs RJ n f i v F1 = (th, af, F2) ∧ gro l cs F1 F2 ∧ okq l F2 ∧ snd l RJ n F2
      ∧ (opA l[f] i = 25 → subJ v (eM F2 (ix (orA l[f] i) * 400)) ∧ subJ (eA F2 (ix (orA l[f] i))) (eA F2 f) ∧ af = eX F2 (ix (orA l[f] i)) ∧ th = v ||| eA F2 (ix (orA l[f] i)))
      ∧ (opA l[f] i = 27 → subJ v (eX F2 f))
      ∧ (¬ opA l[f] i = 25 → th = v ∧ af = if opA l[f] i = 29 ∨ (opA l[f] i = 26 ∧ gdd l[f] i = false) then ledJ RJ v (ix (orA l[f] i)) n else v) := by
    unfold spr1
    rw [hfn]
    by_cases c25 : opA l[f] i = 25
    · rw [if_pos c25]
      have ht := hio3 c25
      generalize ix (orA l[f] i) = t at *
      have hv0 : vld l (t * 400) := by
        have := (vld_of hok ht (i := 0) (hok.2.2.1 t ht).2.2.2.2.2.2.2.1).1
        rw [Nat.add_zero] at this; exact this
      have gw := grw_gro (l := l) (cs := cs) (v := v) (F := F1) (a := t * 400) (by omega)
      have gwi := grw_M (a := t * 400) (v := v) (F := F1)
      have gwq := grw_okq (v := v) g1q hv0
      have gws : snd l RJ n (grw (t * 400) v F1) := grw_snd g1s (fun b hb => by
        have := (L.2.1 c25).1 b (hvb b hb)
        rw [show t * 400 / 400 = t by omega, show t * 400 % 400 = 0 by omega]; exact this)
      generalize grw (t * 400) v F1 = Fw at *
      have ga := grA_gro (l := l) (cs := cs) (v := eA Fw t) (F := Fw) (t := f) (by omega)
      have gai := grA_is (t := f) (v := eA Fw t) (F := Fw) hcs
      have gas : snd l RJ n (grA l cs f (eA Fw t) Fw) := grA_snd hcs gws (fun b hb => (L.2.1 c25).2 b (gws.2.2 t (by omega) b hb))
      refine ⟨_, _, _, rfl, gw.trans ga, gai.2.2.2.2 gwq, gas, fun _ => ⟨?_, ?_, rfl, rfl⟩, fun c => by omega, fun c => absurd c25 c⟩
      · rw [gai.2.1]; exact gwi.1
      · intro b hb
        have : bJ (eA Fw t) b = true := by
          rcases gai.2.2.2.1 t b hb with h | ⟨_, h⟩
          · exact h
          · exact h
        exact gai.1 b this
    · rw [if_neg c25]
      by_cases c27 : opA l[f] i = 27
      · rw [if_pos c27]
        have gx := grX_gro (l := l) (cs := cs) (v := v) (F := F1) (t := f) (by omega)
        have gxi := grX_is (t := f) (v := v) (F := F1) hcs
        refine ⟨v, v, _, rfl, gx, gxi.2.2.2.2 g1q, grX_snd hcs g1s (fun b hb => L.2.2.1 c27 b (hvb b hb)), fun c => absurd c c25, fun _ => gxi.1, fun _ => ⟨rfl, ?_⟩⟩
        rw [if_neg (by omega)]
      · rw [if_neg c27]
        by_cases cg : opA l[f] i = 29 ∨ (opA l[f] i = 26 ∧ gdd l[f] i = false)
        · rw [if_pos cg]
          exact ⟨v, _, F1, rfl, gro.rfl', g1q, g1s, fun c => absurd c c25, fun c => absurd c c27, fun _ => ⟨rfl, (if_pos cg).symm⟩⟩
        · rw [if_neg cg]
          exact ⟨v, v, F1, rfl, gro.rfl', g1q, g1s, fun c => absurd c c25, fun c => absurd c c27, fun _ => ⟨rfl, (if_neg cg).symm⟩⟩
  obtain ⟨th, af, F2, hr, g2, q2, s2, p25, p27, pno⟩ := part
  rw [hr]
  dsimp only
  -- what th and af are
  have thb : ∀ b, bJ th b = true → thn l[f] f i (lM l (RCJ RJ) n) (lA l (RCJ RJ) n) b := by
    intro b hb
    by_cases c25 : opA l[f] i = 25
    · rw [(p25 c25).2.2.2, bJ_or, Bool.or_eq_true] at hb
      rcases hb with hb | hb
      · exact Or.inl (hvb b hb)
      · exact Or.inr ⟨c25, s2.2.2 _ (by have := hio3 c25; omega) b hb⟩
    · rw [(pno c25).1] at hb; exact Or.inl (hvb b hb)
  have afb : ∀ b, bJ af b = true → aft (RCJ RJ) n l[f] f i (lM l (RCJ RJ) n) (lX l (RCJ RJ) n) b := by
    intro b hb
    unfold aft
    by_cases c25 : opA l[f] i = 25
    · rw [if_pos c25]; rw [(p25 c25).2.2.1] at hb
      exact s2.2.1 _ (by have := hio3 c25; omega) b hb
    · rw [if_neg c25]; rw [(pno c25).2] at hb
      by_cases cg : opA l[f] i = 29 ∨ (opA l[f] i = 26 ∧ gdd l[f] i = false)
      · rw [if_pos cg] at hb ⊢
        rw [ledJ_bit] at hb
        exact hb.mono (fun q hq => hvb q hq)
      · rw [if_neg cg] at hb ⊢; exact hvb b hb
  unfold spr2
  rw [hfn]
  dsimp only
  -- the handlers
  have H3 : ∃ F3, (if thr (opA l[f] i) = true then hdl f i th (fH l[f]) F2 else F2) = F3 ∧ gro l cs F2 F3 ∧ okq l F3 ∧ snd l RJ n F3 ∧ eX F3 = eX F2 ∧ eA F3 = eA F2 ∧ (thr (opA l[f] i) = true → ∀ h ∈ fH l[f], hF h ≤ i → i < hT h → subJ th (eM F3 (f * 400 + hG h))) := by
    by_cases ct : thr (opA l[f] i) = true
    · rw [if_pos ct]
      obtain ⟨i1, i2, i3, i4, i5, i6⟩ := hdl_is (l := l) (cs := cs) (f := f) (i := i) (v := th) (fH l[f]) F2 (fun h hh => (vld_of hok hf (hho h hh).2.2.1).2)
      refine ⟨_, rfl, i1, i6 q2 (fun h hh _ _ => (vld_of hok hf (hho h hh).2.2.1).1), ⟨fun b hb c hc => ?_, fun t ht b hb => s2.2.1 t ht b (by rw [← i2]; exact hb), fun t ht b hb => s2.2.2 t ht b (by rw [← i3]; exact hb)⟩, i2, i3, fun _ => i4⟩
      rcases i5 b c hc with h | ⟨h1, h, h2, h3, h4, h5⟩
      · exact s2.1 b hb c h
      · subst h5
        have hg4 := (hho h h2).2.2.1
        have hd := dm4 (f := f) (i := hG h) (by omega)
        rw [hd.1, hd.2]
        exact L.2.2.2.1 ct h h2 h3 h4 c (thb c h1)
    · rw [if_neg ct]
      exact ⟨F2, rfl, gro.rfl', q2, s2, rfl, rfl, fun c => absurd c ct⟩
  obtain ⟨F3, hF3, g3, q3, s3, x3, a3, h3⟩ := H3
  rw [hF3]
  -- the jump
  have H4 : ∃ F4, (if 17 < opA l[f] i ∧ opA l[f] i < 21 then grw (f * 400 + ix (orA l[f] i)) af F3 else F3) = F4 ∧ gro l cs F3 F4 ∧ okq l F4 ∧ snd l RJ n F4 ∧ eX F4 = eX F2 ∧ eA F4 = eA F2 ∧ (17 < opA l[f] i ∧ opA l[f] i < 21 → subJ af (eM F4 (f * 400 + ix (orA l[f] i)))) := by
    by_cases cj : 17 < opA l[f] i ∧ opA l[f] i < 21
    · rw [if_pos cj]
      have hj := hio2 cj
      have hvj := vld_of hok hf hj
      have gwi := grw_M (a := f * 400 + ix (orA l[f] i)) (v := af) (F := F3)
      refine ⟨_, rfl, grw_gro hvj.2, grw_okq q3 hvj.1, grw_snd s3 (fun b hb => ?_), gwi.2.1.trans x3, gwi.2.2.1.trans a3, fun _ => gwi.1⟩
      have hd := dm4 (f := f) (i := ix (orA l[f] i)) (by omega)
      rw [hd.1, hd.2]
      exact L.2.2.2.2.1 cj b (afb b hb)
    · rw [if_neg cj]
      exact ⟨F3, rfl, gro.rfl', q3, s3, x3, a3, fun c => absurd c cj⟩
  obtain ⟨F4, hF4, g4, q4, s4, x4, a4, h4⟩ := H4
  rw [hF4]
  -- behind
  have H5 : ∃ F5, (if ¬ (opA l[f] i = 18 ∨ opA l[f] i = 27 ∨ opA l[f] i = 28) then grw (f * 400 + i + 1) af F4 else F4) = F5 ∧ gro l cs F4 F5 ∧ okq l F5 ∧ snd l RJ n F5 ∧ eX F5 = eX F2 ∧ eA F5 = eA F2 ∧ (¬ (opA l[f] i = 18 ∨ opA l[f] i = 27 ∨ opA l[f] i = 28) → subJ af (eM F5 (f * 400 + (i + 1)))) := by
    by_cases cj : ¬ (opA l[f] i = 18 ∨ opA l[f] i = 27 ∨ opA l[f] i = 28)
    · rw [if_pos cj]
      have hj := (t5 cj).1
      have hvj := vld_of hok hf hj
      rw [Nat.add_assoc]
      have gwi := grw_M (a := f * 400 + (i + 1)) (v := af) (F := F4)
      refine ⟨_, rfl, grw_gro hvj.2, grw_okq q4 hvj.1, grw_snd s4 (fun b hb => ?_), gwi.2.1.trans x4, gwi.2.2.1.trans a4, fun _ => gwi.1⟩
      have hd := dm4 (f := f) (i := i + 1) (by omega)
      rw [hd.1, hd.2]
      exact L.2.2.2.2.2 cj b (afb b hb)
    · rw [if_neg cj]
      exact ⟨F4, rfl, gro.rfl', q4, s4, x4, a4, fun c => absurd c cj⟩
  obtain ⟨F5, hF5, g5, q5, s5, x5, a5, h5⟩ := H5
  rw [hF5]
  have g25 : gro l cs F2 F5 := (g3.trans g4).trans g5
  have g05 : gro l cs F0 F5 := (g1.trans g2).trans g25
  refine ⟨⟨q5, s5, ?_, fun f' hf' i' hi' => ?_⟩, ?_⟩
  · exact g05.1 0 0 (by rw [e1]; exact h00)
  · -- everybody
    by_cases cin : f' * 400 + i' ∈ eQ F5
    · exact Or.inl cin
    · right
      have hmk : eM F5 (f' * 400 + i') = eM F0 (f' * 400 + i') := Decidable.byContradiction (fun hh => cin (g05.2.2.2.2.1 _ hh))
      have hv' := vld_of hok hf' hi'
      have h400' := (hok.2.2.1 f' hf').2.2.2.2.2.2.2.2.1
      by_cases cme : f' * 400 + i' = a
      · -- the one that was spread
        have hd := dm4 (f := f') (i := i') (by omega)
        have hfe2 : f' = f := by rw [← hfe, ← cme]; exact hd.1.symm
        have hie2 : i' = i := by rw [← hie, ← cme]; exact hd.2.symm
        subst hfe2; subst hie2
        rw [cme, e1, hv] at hmk
        have mv : ∀ b, m3 F5 f' i' b → bJ v b = true := fun b hb => by
          have hb : bJ (eM F5 (f' * 400 + i')) b = true := hb
          rw [cme, hmk] at hb; exact hb
        intro _
        have aff : ∀ b, aft (RCJ RJ) n l[f'] f' i' (m3 F5) (x2 F5) b → bJ af b = true := by
          intro b hb
          unfold aft at hb
          by_cases c25 : opA l[f'] i' = 25
          · rw [if_pos c25] at hb
            rw [(p25 c25).2.2.1, ← x5]; exact hb
          · rw [if_neg c25] at hb
            rw [(pno c25).2]
            by_cases cg : opA l[f'] i' = 29 ∨ (opA l[f'] i' = 26 ∧ gdd l[f'] i' = false)
            · rw [if_pos cg] at hb ⊢
              rw [ledJ_bit]; exact hb.mono mv
            · rw [if_neg cg] at hb ⊢; exact mv b hb
        have thf : ∀ b, thn l[f'] f' i' (m3 F5) (a2 F5) b → bJ th b = true := by
          intro b hb
          by_cases c25 : opA l[f'] i' = 25
          · rw [(p25 c25).2.2.2, bJ_or, Bool.or_eq_true]
            rcases hb with hb | ⟨_, hb⟩
            · exact Or.inl (mv b hb)
            · right; rw [← a5]; exact hb
          · rw [(pno c25).1]
            rcases hb with hb | ⟨c, _⟩
            · exact mv b hb
            · exact absurd c c25
        refine ⟨fun b hb => ?_, fun c25 => ⟨fun b hb => ?_, fun b hb => ?_⟩, fun c27 b hb => ?_, fun ct h hh ha hb' b hb => ?_, fun cj b hb => ?_, fun cj b hb => ?_⟩
        · exact (g2.trans g25).2.2.1 f' b (g1i.1 b (mv b hb))
        · have := (p25 c25).1 b (mv b hb)
          show bJ (eM F5 (ix (orA l[f'] i') * 400 + 0)) b = true
          rw [Nat.add_zero]; exact g25.1 _ b this
        · have hb : bJ (eA F5 (ix (orA l[f'] i'))) b = true := hb
          rw [a5] at hb
          show bJ (eA F5 f') b = true
          rw [a5]; exact (p25 c25).2.1 b hb
        · show bJ (eX F5 f') b = true
          rw [x5]; exact p27 c27 b (mv b hb)
        · exact (g4.trans g5).1 _ b (h3 ct h hh ha hb' b (thf b hb))
        · exact g5.1 _ b (h4 cj b (aff b hb))
        · exact h5 cj b (aff b hb)
      · -- another one
        have hold : clAt (RCJ RJ) n l[f'] f' i' (m3 F) (x2 F) (a2 F) := by
          rcases hcl f' hf' i' hi' with h | h
          · exfalso; apply cin
            rw [hq] at h
            rcases List.mem_cons.mp h with h | h
            · exact absurd h cme
            · exact g05.2.2.2.1 _ (by rw [e4]; exact h)
          · exact h
        refine hold.keep (fun f i b hb => g05.1 _ b (by rw [e1]; exact hb)) (fun t b hb => g05.2.1 t b (by rw [e2]; exact hb)) (fun t b hb => g05.2.2.1 t b (by rw [e3]; exact hb)) (fun b hb => ?_) (fun c25 he => ?_)
        · have hb : bJ (eM F5 (f' * 400 + i')) b = true := hb
          rw [hmk, e1] at hb; exact hb
        · have ht' : ix (orA l[f'] i') < l.length := by
            have hh' := c25
            rw [opA_at hi'] at hh'
            obtain ⟨k, hk, ek⟩ := ((hok.2.2.1 f' hf').2.2.2.2.2.2.2.2.2.2.1 _ (List.getElem_mem hi')).2.2.2.1 hh'
            rw [orA_at hi', ek, nI_ix (by omega)]; exact hk
          have hcal : f' * 400 + i' ∈ cs := hcs2 _ hv'.1 (by
            have hd := dm4 (f := f') (i := i') (by omega)
            rw [hd.1, hd.2, fnA_at hf']; exact c25)
          have hor : opr l (f' * 400 + i') = nI (ix (orA l[f'] i')) := by
            have hd := dm4 (f := f') (i := i') (by omega)
            unfold opr
            rw [hd.1, hd.2, fnA_at hf']
            have hh' := c25
            rw [opA_at hi'] at hh'
            obtain ⟨k, hk, ek⟩ := ((hok.2.2.1 f' hf').2.2.2.2.2.2.2.2.2.2.1 _ (List.getElem_mem hi')).2.2.2.1 hh'
            rw [orA_at hi', ek, nI_ix (by omega)]
          have hm5 : eM F5 (f' * 400 + i') ≠ 0 := by
            obtain ⟨b, hb⟩ := he
            intro h0
            have hb : bJ (eM F (f' * 400 + i')) b = true := hb
            rw [hmk, e1] at h0
            rw [h0, bJ_0] at hb; exact absurd hb (by decide)
          have nch : ¬ (eX F5 (ix (orA l[f'] i')) ≠ eX F0 (ix (orA l[f'] i')) ∨ eA F5 (ix (orA l[f'] i')) ≠ eA F0 (ix (orA l[f'] i'))) := fun hh => cin (g05.2.2.2.2.2.1 _ (by omega) hh _ hcal hor hm5)
          have n1 : eX F5 (ix (orA l[f'] i')) = eX F0 (ix (orA l[f'] i')) := Decidable.byContradiction (fun hh => nch (Or.inl hh))
          have n2 : eA F5 (ix (orA l[f'] i')) = eA F0 (ix (orA l[f'] i')) := Decidable.byContradiction (fun hh => nch (Or.inr hh))
          refine ⟨fun b hb => ?_, fun b hb => ?_⟩
          · have hb : bJ (eX F5 (ix (orA l[f'] i'))) b = true := hb
            rw [n1, e2] at hb; exact hb
          · have hb : bJ (eA F5 (ix (orA l[f'] i'))) b = true := hb
            rw [n2, e3] at hb; exact hb
  · have := g05.2.2.2.2.2.2
    omega
/-- nobody waits: it is the least -/
theorem PI_end {F : FSt} (h : PI l RJ n F) (hq : eQ F = []) {f i b : Nat} (hf : f < l.length) (hok : pgOK l) (hi : i < (fC l[f]).length) : bJ (eM F (f * 400 + i)) b = true ↔ lM l (RCJ RJ) n f i b := by
  obtain ⟨hkq, hsd, h00, hcl⟩ := h
  have h4 := (hok.2.2.1 f hf).2.2.2.2.2.2.2.2.1
  have h12 := hok.2.1
  constructor
  · intro hb
    have := hsd.1 (f * 400 + i) (by omega) b hb
    have hd := dm4 (f := f) (i := i) (by omega)
    rw [hd.1, hd.2] at this; exact this
  · intro hb
    have key : clo l (RCJ RJ) n (m3 F) (x2 F) (a2 F) := by
      refine ⟨h00, fun f hf i hi => ?_⟩
      rcases hcl f hf i hi with h | h
      · rw [hq] at h; simp at h
      · exact h
    exact hb _ _ _ key
end
