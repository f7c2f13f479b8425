section
variable {s : yS} {q n : Nat} {l : List Fn} {RJ : Nat → Nat → Int64} {f i : Nat} {R : RSt}
/-- where the states come, at the reference -/
def myM (s : yS) (q : Nat) (l : List Fn) (RJ : Nat → Nat → Int64) (n : Nat) : Prop := ∀ (f : Nat) (hf : f < l.length) (i : Nat), i < (fC l[f]).length → ∀ b, bJ (sJ s 196 (4800 * q + 400 * f + i)) b = true ↔ lM l (RCJ RJ) n f i b
theorem clo_R (hok : pgOK l) (hva : vAll l = none) (hs : sndR l RJ n R) (h0 : bJ (qE R 0) 0 = true) (hc : ∀ f, (hf : f < l.length) → subJ (qE R f) (qM R (400 * f)) ∧ ∀ i, i < (fC l[f]).length → ciR RJ n l[f] f i R) : clo l (RCJ RJ) n (mR R) (xRr R) (aR R) := by
  have h12 := hok.2.1
  refine ⟨(hc 0 (by have := hok.1; omega)).1 0 h0, fun f hf i hi => ?_⟩
  have h4 := (hok.2.2.1 f hf).2.2.2.2.2.2.2.2.1
  intro he
  obtain ⟨g1, g2, g3, g4, g5, g6⟩ := (hc f hf).2 i hi he
  refine ⟨g1, fun h25 => ⟨fun b hb => ?_, (g2 h25).2⟩, g3, g4, g5, fun hn b hb => g6 hn ?_ b hb⟩
  · have ht : ix (orA l[f] i) < l.length := by
      have hh' := h25
      rw [opA_at hi] at hh'
      obtain ⟨k, hk, ek⟩ := ((hok.2.2.1 f hf).2.2.2.2.2.2.2.2.2.2.1 _ (List.getElem_mem hi)).2.2.2.1 hh'
      rw [orA_at hi, ek, nI_ix (by omega)]; exact hk
    show bJ (qM R (400 * ix (orA l[f] i) + 0)) b = true
    rw [Nat.add_zero]
    exact (hc _ ht).1 b ((g2 h25).1 b hb)
  · obtain ⟨b0, hb0⟩ := he
    have hl := hs.1 (400 * f + i) (by omega) b0 hb0
    rw [show (400 * f + i) / 400 = f by omega, show (400 * f + i) % 400 = i by omega] at hl
    obtain ⟨_, hty, _⟩ := lM_ty hok hva hl
    cases hst : vTy l f i with
    | none => exact absurd hst hty
    | some st =>
      obtain ⟨_, r, _, _, _, _, t5⟩ := (vTy_ty hok hva hf).2.2 i st hst
      rw [← opA_at hi] at t5
      exact (t5 hn).1
def Rz : RSt := (fun _ => 0, fun t => if t = 0 then 1 else 0, fun _ => 0, fun _ => 0)
def dMm (q a i : Nat) : Prop := dFr q a i ∨ (a = 200 ∧ i = q)
theorem k_makeMay {Q : yS → Prop} (hq : q ≤ 1) (hok : pgOK l) (hva : vAll l = none) (hp : pgM s q l) (hpo : polM s RJ n)
    (H1 : ¬ (sI s 200) q = 0 → Q s) (H0 : (sI s 200) q = 0 → ∀ s', frM (dMm q) s s' → (sI s' 200) q = 1 → myM s' q l RJ n → Q s') : W_X12_makeMay s (nI q) Q := by
  have h12 := hok.2.1
  have inq : vp_in (nI q) 2 := nI_inU (by omega) (by omega)
  unfold W_X12_makeMay
  rw [nI_ix (n := q) (by omega)]
  refine ⟨inq, fun hk0 => ⟨inq, ?_⟩, H1⟩
  intro s3 e3
  have F3 : frM (dMm q) s s3 := by subst e3; exact frM.rfl'.wI (by unfold dMm; omega)
  have k3 : sI s3 200 q = 1 := by subst e3; rw [sI_w, if_pos ⟨rfl, rfl⟩]; rfl
  clear e3
  rw [nI_s, nI_mul, nI_mul, nI_mul, nI_addU]
  have lift : ∀ {u t : yS}, frM (dFr q) u t → frM (dMm q) u t := fun h => h.mono (fun a i h => Or.inl h)
  have pgt : ∀ {t : yS}, frM (dMm q) s t → pgM t q l := fun F => hp.fr (fun a i ha => F.1 a i (by unfold dMm dFr; omega))
  have pot' : ∀ {t : yS}, frM (dMm q) s t → polM t RJ n := fun F => ⟨(F.1 _ _ (by unfold dMm dFr; omega)).trans hpo.1, hpo.2.1, fun c hc k hk => (F.2.1 _ _ (by unfold dMm dFr; omega)).trans (hpo.2.2 c hc k hk)⟩
  intro P23 hP23 x29 e29
  subst e29
  -- the rounds
  have rounds : ∀ (s9 : yS), frM (dMm q) s s9 → sI s9 200 q = 1 → rJ s9 q Rz → ∀ P105 : yS → Prop, (∀ (s10 : yS), ((((sI s10 139 82) = 0 → Q s10)
       ∧ (¬ (sI s10 139 82) = 0 → ∀ s11 : yS, s11 = wI s10 139 82 0 → 
        ∀ P119 : Int32 → yS → Prop, (∀ (x12 : Int32) (s13 : yS), (vp_in (nI q) 3 ∧ 
         (((sI s13 178 q) ≤ x12 → P105 s13)
         ∧ (¬ (sI s13 178 q) ≤ x12 → W_X12_goRound s13 (nI q) x12 
          (fun s15 => ∀ x16 : Int32, x16 = (x12 + 1) → 
          P119 x16 s15)))) → P119 x12 s13) → 
        P119 0 s11))) → P105 s10) → 
      ∀ s17 : yS, s17 = wI s9 139 82 1 → 
      P105 s17 := by
    intro s9 F9 k9 j9 P105 hP105 s17 e17
    suffices hR : ∀ (N : Nat) (R : RSt) (t : yS), potR R < N → frM (dMm q) s t → sI t 200 q = 1 → rJ t q R → sndR l RJ n R → bJ (qE R 0) 0 = true → (sI t 139 82) = 1 → P105 t by
      refine hR (potR Rz + 1) Rz s17 (Nat.lt_add_one (potR Rz)) ?_ ?_ ?_ ?_ ?_ ?_
      · subst e17; exact F9.wI (by unfold dMm dFr; omega)
      · subst e17; rw [sI_w, if_neg (by omega)]; exact k9
      · subst e17; exact j9
      · refine ⟨fun a _ b hb => ?_, fun t _ b hb => ?_, fun t _ b hb => ?_, fun t _ b hb => ?_⟩
        · have hb : bJ 0 b = true := hb
          rw [bJ_0] at hb; exact absurd hb (by decide)
        · have hb : bJ (if t = 0 then 1 else 0) b = true := hb
          by_cases c : t = 0
          · subst c
            rw [if_pos rfl, bJ_1] at hb
            have : b = 0 := of_decide_eq_true hb
            subst this; exact lM_clo.1
          · rw [if_neg c, bJ_0] at hb; exact absurd hb (by decide)
        · have hb : bJ 0 b = true := hb
          rw [bJ_0] at hb; exact absurd hb (by decide)
        · have hb : bJ 0 b = true := hb
          rw [bJ_0] at hb; exact absurd hb (by decide)
      · show bJ (if 0 = 0 then 1 else 0) 0 = true
        rw [if_pos rfl]; decide
      · subst e17; rw [sI_w, if_pos ⟨rfl, rfl⟩]
    intro N
    induction N with
    | zero => intro R t hN; omega
    | succ N ih =>
      intro R t hN Ft kt jt st h0 ct
      apply hP105
      rw [ct]
      refine ⟨fun hz => absurd hz (by decide), fun _ => ?_⟩
      intro s11 e11
      have F11 : frM (dMm q) s s11 := by subst e11; exact Ft.wI (by unfold dMm dFr; omega)
      have k11 : sI s11 200 q = 1 := by subst e11; rw [sI_w, if_neg (by omega)]; exact kt
      have r11 : rdS s11 q l RJ n R True := ⟨R, by subst e11; exact jt, st, h0, Or.inr ⟨by subst e11; rw [sI_w, if_pos ⟨rfl, rfl⟩], rfl, trivial⟩⟩
      clear e11
      intro P119 hP119
      have in3 : vp_in (nI q) 3 := nI_inU (by omega) (by omega)
      suffices hL : ∀ (r f : Nat) (u : yS), f + r = l.length → frM (dFr q) s11 u → rdS u q l RJ n R (∀ g, (hg : g < l.length) → g < f → subJ (qE R g) (qM R (400 * g)) ∧ ∀ i, i < (fC l[g]).length → ciR RJ n l[g] g i R) → P119 (nI f) u from
        hL l.length 0 s11 (by omega) frM.rfl' (r11.mono (fun _ g hg h => by omega))
      intro r
      induction r with
      | zero =>
        intro f u hf Fu ru
        obtain rfl : f = l.length := by omega
        have Fu' := F11.trans (lift Fu)
        apply hP119
        rw [(pgt Fu').1]
        refine ⟨in3, fun _ => ?_, fun hz => absurd ((nI_leU (by omega) (by omega)).mpr (Nat.le_refl _)) hz⟩
        have ku : sI u 200 q = 1 := (Fu.1 _ _ (by unfold dFr; omega)).trans k11
        obtain ⟨R', j', sd', h0', hm⟩ := ru
        rcases hm with ⟨m1, m2⟩ | ⟨m1, m2, m3⟩
        · exact ih R' u (by omega) Fu' ku j' sd' h0' m1
        · subst m2
          apply hP105
          rw [m1]
          refine ⟨fun _ => H0 hk0 u Fu' ku (fun f hf i hi b => ?_), fun hz => absurd rfl hz⟩
          have h4 := (hok.2.2.1 f hf).2.2.2.2.2.2.2.2.1
          rw [Nat.add_assoc, j'.1 _ (by omega)]
          constructor
          · intro hb
            have := sd'.1 (400 * f + i) (by omega) b hb
            rw [show (400 * f + i) / 400 = f by omega, show (400 * f + i) % 400 = i by omega] at this
            exact this
          · intro hb
            exact hb _ _ _ (clo_R hok hva sd' h0' (fun g hg => m3 g hg hg))
      | succ r ih2 =>
        intro f u hf Fu ru
        have hfl : f < l.length := by omega
        have Fu' := F11.trans (lift Fu)
        apply hP119
        rw [(pgt Fu').1]
        refine ⟨in3, fun hz => absurd ((nI_leU (by omega) (by omega)).mp hz) (by omega), fun _ => ?_⟩
        refine k_goRound (by omega) hok (pgt Fu') (pot' Fu') hfl ru (fun u2 Fu2 ru2 => ?_)
        intro x16 e16
        subst e16; rw [nI_s]
        refine ih2 (f + 1) u2 (by omega) (Fu.trans Fu2) (ru2.mono (fun hd g hg hgf => ?_))
        by_cases c : g = f
        · subst c; exact hd.2
        · exact hd.1 g hg (by omega)
  -- the second loop
  have second : ∀ s5 : yS, frM (dMm q) s s5 → sI s5 200 q = 1 → (∀ a, a < 4800 → sJ s5 196 (4800 * q + a) = 0) → P23 (nI (4800 * (q + 1))) s5 := by
    intro s5 F5 k5 z5
    apply hP23
    refine ⟨fun _ => ?_, fun hz => absurd ((nI_leU (by omega) (by omega)).mpr (Nat.le_refl _)) hz⟩
    intro P52 hP52 x25 e25
    subst e25
    suffices hL : ∀ (r k N : Nat) (t : yS), N = 12 * q + k → k + r = 12 → frM (dMm q) s t → sI t 200 q = 1 → (∀ a, a < 4800 → sJ t 196 (4800 * q + a) = 0) → (∀ j, j < k → sJ t 197 (12 * q + j) = 0 ∧ sJ t 198 (12 * q + j) = 0 ∧ sJ t 199 (12 * q + j) = 0) → P52 (nI N) t from
      hL 12 0 (12 * q) s5 (by omega) (by omega) F5 k5 z5 (fun j hj => by omega)
    intro r
    induction r with
    | zero =>
      intro k N t hN hk Ft kt zt wt
      obtain rfl : k = 12 := by omega
      subst hN
      apply hP52
      refine ⟨fun _ => ?_, fun hz => absurd ((nI_leU (by omega) (by omega)).mpr (Nat.le_refl _)) hz⟩
      rw [nI_ix (n := 12 * q) (by omega)]
      refine ⟨nI_inU (by omega) (by omega), ?_⟩
      intro s9 e9
      refine rounds s9 (by subst e9; exact Ft.wJ (by unfold dMm dFr; omega)) (by subst e9; exact kt) ?_
      subst e9
      refine ⟨fun a ha => ?_, fun j hj => ?_, fun j hj => ?_, fun j hj => ?_⟩
      · rw [sJ_w, if_neg (by omega)]; exact zt a ha
      · show _ = if j = 0 then 1 else 0
        by_cases c : j = 0
        · subst c; rw [if_pos rfl, sJ_w, if_pos ⟨rfl, by omega⟩]
        · rw [if_neg c, sJ_w, if_neg (by omega)]; exact (wt j hj).1
      · rw [sJ_w, if_neg (by omega)]; exact (wt j hj).2.1
      · rw [sJ_w, if_neg (by omega)]; exact (wt j hj).2.2
    | succ r ih =>
      intro k N t hN hk Ft kt zt wt
      subst hN
      apply hP52
      refine ⟨fun hz => absurd ((nI_leU (by omega) (by omega)).mp hz) (by omega), fun _ => ?_⟩
      rw [nI_ix (n := 12 * q + k) (by omega)]
      have ik : vp_in (nI (12 * q + k)) 36 := nI_inU (by omega) (by omega)
      refine ⟨ik, ?_⟩
      intro u1 e1
      refine ⟨ik, ?_⟩
      intro u2 e2
      refine ⟨ik, ?_⟩
      intro u3 e3 x24 e24
      subst e24; rw [nI_s]
      refine ih (k + 1) _ u3 (by omega) (by omega) ?_ ?_ (fun a ha => ?_) (fun j hj => ?_)
      · subst e3; subst e2; subst e1
        exact ((Ft.wJ (by unfold dMm dFr; omega)).wJ (by unfold dMm dFr; omega)).wJ (by unfold dMm dFr; omega)
      · subst e3; subst e2; subst e1; exact kt
      · subst e3; subst e2; subst e1
        rw [sJ_w, if_neg (by omega), sJ_w, if_neg (by omega), sJ_w, if_neg (by omega)]; exact zt a ha
      · subst e3; subst e2; subst e1
        by_cases c : j = k
        · subst c
          refine ⟨?_, ?_, ?_⟩
          · rw [sJ_w, if_neg (by omega), sJ_w, if_neg (by omega), sJ_w, if_pos ⟨rfl, rfl⟩]
          · rw [sJ_w, if_neg (by omega), sJ_w, if_pos ⟨rfl, rfl⟩]
          · rw [sJ_w, if_pos ⟨rfl, rfl⟩]
        · have := wt j (by omega)
          refine ⟨?_, ?_, ?_⟩
          · rw [sJ_w, if_neg (by omega), sJ_w, if_neg (by omega), sJ_w, if_neg (by omega)]; exact this.1
          · rw [sJ_w, if_neg (by omega), sJ_w, if_neg (by omega), sJ_w, if_neg (by omega)]; exact this.2.1
          · rw [sJ_w, if_neg (by omega), sJ_w, if_neg (by omega), sJ_w, if_neg (by omega)]; exact this.2.2
  suffices hL : ∀ (r k N : Nat) (t : yS), N = 4800 * q + k → k + r = 4800 → frM (dMm q) s t → sI t 200 q = 1 → (∀ a, a < k → sJ t 196 (4800 * q + a) = 0) → P23 (nI N) t from
    hL 4800 0 (4800 * q) s3 (by omega) (by omega) F3 k3 (fun j hj => by omega)
  intro r
  induction r with
  | zero =>
    intro k N t hN hk Ft kt zt
    obtain rfl : k = 4800 := by omega
    subst hN
    exact second t Ft kt zt
  | succ r ih =>
    intro k N t hN hk Ft kt zt
    subst hN
    apply hP23
    refine ⟨fun hz => absurd ((nI_leU (by omega) (by omega)).mp hz) (by omega), fun _ => ?_⟩
    rw [nI_ix (n := 4800 * q + k) (by omega)]
    refine ⟨nI_inU (by omega) (by omega), ?_⟩
    intro u1 e1 x28 e28
    subst e28; rw [nI_s]
    refine ih (k + 1) _ u1 (by omega) (by omega) (by subst e1; exact Ft.wJ (by unfold dMm dFr; omega)) (by subst e1; exact kt) (fun a ha => ?_)
    subst e1
    by_cases c : a = k
    · subst c; rw [sJ_w, if_pos ⟨rfl, rfl⟩]
    · rw [sJ_w, if_neg (by omega)]; exact zt a (by omega)
end
