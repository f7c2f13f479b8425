section
variable {s : yS} {q n : Nat} {l : List Fn} {RJ : Nat → Nat → Int64} {f i : Nat} {R0 : RSt} {C : Prop}
def mR (R : RSt) : R3 := fun f i b => bJ (qM R (400 * f + i)) b = true
def xRr (R : RSt) : R2 := fun t b => bJ (qX R t) b = true
def aR (R : RSt) : R2 := fun t b => bJ (qA R t) b = true
/-- what an instruction asks of the reference's sets -/
def ciR (RJ : Nat → Nat → Int64) (n : Nat) (x : Fn) (f i : Nat) (R : RSt) : Prop := (∃ b, mR R f i b) →
  (∀ b, mR R f i b → aR R f b)
  ∧ (opA x i = 25 → (∀ b, mR R f i b → bJ (qE R (ix (orA x i))) b = true) ∧ (∀ b, aR R (ix (orA x i)) b → aR R f b))
  ∧ (opA x i = 27 → ∀ b, mR R f i b → xRr R f b)
  ∧ (thr (opA x i) = true → ∀ h ∈ fH x, hF h ≤ i → i < hT h → ∀ b, thn x f i (mR R) (aR R) b → mR R f (hG h) b)
  ∧ (17 < opA x i ∧ opA x i < 21 → ∀ b, aft (RCJ RJ) n x f i (mR R) (xRr R) b → mR R f (ix (orA x i)) b)
  ∧ (¬ (opA x i = 18 ∨ opA x i = 27 ∨ opA x i = 28) → i + 1 < (fC x).length → ∀ b, aft (RCJ RJ) n x f i (mR R) (xRr R) b → mR R f (i + 1) b)
theorem rdS.rdM {a : Nat} (h : rdS s q l RJ n R0 C) (ha : a < 4800) : (∀ b, bJ (sJ s 196 (4800 * q + a)) b = true → lM l (RCJ RJ) n (a / 400) (a % 400) b) ∧ rdS s q l RJ n R0 (C ∧ sJ s 196 (4800 * q + a) = qM R0 a) := by
  obtain ⟨R, j, sd, h0, hm⟩ := h
  refine ⟨fun b hb => sd.1 a ha b (by rw [← j.1 a ha]; exact hb), R, j, sd, h0, ?_⟩
  rcases hm with hm | ⟨m1, m2, m3⟩
  · exact Or.inl hm
  · exact Or.inr ⟨m1, m2, m3, by rw [j.1 a ha, m2]⟩
theorem rdS.rdE {a : Nat} (h : rdS s q l RJ n R0 C) (ha : a < 12) : (∀ b, bJ (sJ s 197 (12 * q + a)) b = true → lM l (RCJ RJ) n a 0 b) ∧ rdS s q l RJ n R0 (C ∧ sJ s 197 (12 * q + a) = qE R0 a) := by
  obtain ⟨R, j, sd, h0, hm⟩ := h
  refine ⟨fun b hb => sd.2.1 a ha b (by rw [← j.2.1 a ha]; exact hb), R, j, sd, h0, ?_⟩
  rcases hm with hm | ⟨m1, m2, m3⟩
  · exact Or.inl hm
  · exact Or.inr ⟨m1, m2, m3, by rw [j.2.1 a ha, m2]⟩
theorem rdS.rdX {a : Nat} (h : rdS s q l RJ n R0 C) (ha : a < 12) : (∀ b, bJ (sJ s 198 (12 * q + a)) b = true → lX l (RCJ RJ) n a b) ∧ rdS s q l RJ n R0 (C ∧ sJ s 198 (12 * q + a) = qX R0 a) := by
  obtain ⟨R, j, sd, h0, hm⟩ := h
  refine ⟨fun b hb => sd.2.2.1 a ha b (by rw [← j.2.2.1 a ha]; exact hb), R, j, sd, h0, ?_⟩
  rcases hm with hm | ⟨m1, m2, m3⟩
  · exact Or.inl hm
  · exact Or.inr ⟨m1, m2, m3, by rw [j.2.2.1 a ha, m2]⟩
theorem rdS.rdA {a : Nat} (h : rdS s q l RJ n R0 C) (ha : a < 12) : (∀ b, bJ (sJ s 199 (12 * q + a)) b = true → lA l (RCJ RJ) n a b) ∧ rdS s q l RJ n R0 (C ∧ sJ s 199 (12 * q + a) = qA R0 a) := by
  obtain ⟨R, j, sd, h0, hm⟩ := h
  refine ⟨fun b hb => sd.2.2.2 a ha b (by rw [← j.2.2.2 a ha]; exact hb), R, j, sd, h0, ?_⟩
  rcases hm with hm | ⟨m1, m2, m3⟩
  · exact Or.inl hm
  · exact Or.inr ⟨m1, m2, m3, by rw [j.2.2.2 a ha, m2]⟩
theorem b0J {v : Int64} (h : ¬ lg_cmp v 0 = 0) : ∃ b, bJ v b = true := by
  apply Classical.byContradiction
  intro hn
  apply h
  rw [cmp0, J0]
  intro b
  cases hb : bJ v b with
  | false => rfl
  | true => exact absurd ⟨b, hb⟩ hn
theorem z0J {v : Int64} (h : lg_cmp v 0 = 0) (b : Nat) : ¬ bJ v b = true := by
  rw [cmp0] at h; rw [h, bJ_0]; decide
theorem pgM.fl {t : yS} (hp : pgM s q l) (F : frM (dFr q) s t) : pgM t q l := hp.fr (fun a i ha => F.1 a i (by unfold dFr; omega))
theorem polM.fl {t : yS} (hp : polM s RJ n) (F : frM (dFr q) s t) : polM t RJ n := ⟨(F.1 _ _ (by unfold dFr; omega)).trans hp.1, hp.2.1, fun c hc k hk => (F.2.1 _ _ (by unfold dFr; omega)).trans (hp.2.2 c hc k hk)⟩
set_option maxHeartbeats 4000000 in
theorem k_goRound {Q : yS → Prop} (hq : q ≤ 2) (hok : pgOK l) (hp : pgM s q l) (hpo : polM s RJ n) (hf : f < l.length) (h : rdS s q l RJ n R0 C)
    (H : ∀ s', frM (dFr q) s s' → rdS s' q l RJ n R0 (C ∧ subJ (qE R0 f) (qM R0 (400 * f)) ∧ ∀ i, i < (fC l[f]).length → ciR RJ n l[f] f i R0) → Q s') : W_X12_goRound s (nI q) (nI f) Q := by
  have hfo := hok.2.2.1 f hf
  have h400 := hfo.2.2.2.2.2.2.2.2.1
  have h6 := hfo.2.2.2.2.2.2.2.2.2.1
  have hho := hfo.2.2.2.2.2.2.2.2.2.2.2
  have h12 := hok.2.1
  unfold W_X12_goRound
  rw [nI_mul, nI_mul, nI_mul, nI_mul, nI_mul, nI_addU, nI_addU, nI_addU]
  intro x1 e1 x2 e2
  subst e1; subst e2
  have hin : vp_in (nI (12 * q + f)) 36 := nI_inU (by omega) (by omega)
  rw [nI_ix (n := 12 * q + f) (by omega)]
  refine ⟨hin, ?_⟩
  have rE := h.rdE (a := f) (by omega)
  refine k_addM (a := 400 * f) hq (by omega) rE.2 (fun b hb => by rw [show 400 * f / 400 = f by omega, show 400 * f % 400 = 0 by omega]; exact rE.1 b hb) (fun s4 F4 r4 => ?_)
  intro P39 hP39
  suffices hL : ∀ (r i : Nat) (t : yS), i + r = (fC l[f]).length → frM (dFr q) s t → rdS t q l RJ n R0 ((C ∧ subJ (qE R0 f) (qM R0 (400 * f))) ∧ ∀ j, j < i → ciR RJ n l[f] f j R0) → P39 (nI i) t from
    hL (fC l[f]).length 0 s4 (by omega) F4 (r4.mono (fun hc => ⟨⟨hc.1.1, by rw [← hc.1.2]; exact hc.2⟩, fun j hj => by omega⟩))
  intro r
  induction r with
  | zero =>
    intro i t hi Ft rt
    obtain rfl : i = (fC l[f]).length := by omega
    apply hP39
    rw [((hp.fl Ft).2 f hf).2.2.2.2.1]
    refine ⟨hin, fun _ => H t Ft (rt.mono (fun hc => ⟨hc.1.1, hc.1.2, hc.2⟩)), fun hz => absurd ((nI_leU (by omega) (by omega)).mpr (Nat.le_refl _)) hz⟩
  | succ r ih =>
    intro i t hi Ft rt
    have hil : i < (fC l[f]).length := by omega
    have pt := hp.fl Ft
    have hco := (pt.2 f hf).2.2.2.2.2.2.1 i hil
    have hio := hfo.2.2.2.2.2.2.2.2.2.2.1 _ (List.getElem_mem hil)
    rw [← opA_at hil, ← orA_at hil] at hco
    have o29 : opA l[f] i ≤ 29 := by rw [opA_at hil]; exact hio.1
    have oJ : 17 < opA l[f] i ∧ opA l[f] i < 21 → ∃ k, k < (fC l[f]).length ∧ orA l[f] i = nI k := fun h => by rw [opA_at hil] at h; rw [orA_at hil]; exact hio.2.2.1 h
    have oC : opA l[f] i = 25 → ∃ k, k < l.length ∧ orA l[f] i = nI k := fun h => by rw [opA_at hil] at h; rw [orA_at hil]; exact hio.2.2.2.1 h
    have oH : opA l[f] i = 26 ∨ opA l[f] i = 29 → ∃ k, k < 16 ∧ orA l[f] i = nI k := fun h => by rw [opA_at hil] at h; rw [orA_at hil]; exact hio.2.2.2.2 h
    have hin4 : vp_in (nI (4800 * q + (400 * f + i))) 14400 := nI_inU (by omega) (by omega)
    apply hP39
    rw [(pt.2 f hf).2.2.2.2.1]
    refine ⟨hin, fun hz => absurd ((nI_leU (by omega) (by omega)).mp hz) (by omega), fun _ => ?_⟩
    rw [nI_addU, Nat.add_assoc, nI_ix (n := 4800 * q + (400 * f + i)) (by omega)]
    refine ⟨hin4, ?_⟩
    have rM := rt.rdM (a := 400 * f + i) (by omega)
    rw [show (400 * f + i) / 400 = f by omega, show (400 * f + i) % 400 = i by omega] at rM
    generalize sJ t 196 (4800 * q + (400 * f + i)) = v at rM ⊢
    obtain ⟨hvb, rt2⟩ := rM
    intro v e9
    subst e9
    refine ⟨hin4, ?_⟩
    rw [← Nat.add_assoc, hco.1, hco.2]
    intro x11 e11
    subst e11
    refine ⟨by rw [Nat.add_assoc]; exact hin4, ?_⟩
    intro x13 e13
    subst e13
    have L : (∃ b, bJ v b = true) → _ := fun ⟨b, hb⟩ => (lM_clo (l := l) (RC := RCJ RJ) (n := n)).2 f hf i hil ⟨b, hvb b hb⟩
    have hcx : ∀ k, k ≤ 29 → (nI (opA l[f] i) = nI k ↔ opA l[f] i = k) := fun k hk => nI_inj (by omega) (by omega)
    intro P230 hP230
    -- the next instruction
    have nxt : ∀ t2 : yS, frM (dFr q) s t2 → rdS t2 q l RJ n R0 (((C ∧ subJ (qE R0 f) (qM R0 (400 * f))) ∧ ∀ j, j < i → ciR RJ n l[f] f j R0) ∧ ciR RJ n l[f] f i R0) → ∀ x23 : Int32, x23 = nI i + 1 → P39 x23 t2 := by
      intro t2 Ft2 rt2 x23 e23
      subst e23; rw [nI_s]
      refine ih (i + 1) t2 (by omega) Ft2 (rt2.mono (fun hc => ⟨hc.1.1, fun j hj => ?_⟩))
      by_cases c : j = i
      · subst c; exact hc.2
      · exact hc.1.2 j (by omega)
    -- the second part
    have sec : ∀ (af : Int64) (D : Prop) (t2 : yS), frM (dFr q) s t2 → rdS t2 q l RJ n R0 D →
        (D → (((C ∧ subJ (qE R0 f) (qM R0 (400 * f))) ∧ ∀ j, j < i → ciR RJ n l[f] f j R0) ∧ v = qM R0 (400 * f + i)) ∧ ((∃ b, bJ v b = true) → (∀ b, aft (RCJ RJ) n l[f] f i (mR R0) (xRr R0) b → bJ af b = true) ∧ (opA l[f] i = 25 → subJ v (qE R0 (ix (orA l[f] i))) ∧ subJ (qA R0 (ix (orA l[f] i))) (qA R0 f)) ∧ (opA l[f] i = 27 → subJ v (qX R0 f)))) →
        (∀ b, bJ af b = true → (∃ b, bJ v b = true) ∧ aft (RCJ RJ) n l[f] f i (lM l (RCJ RJ) n) (lX l (RCJ RJ) n) b) → P230 af t2 := by
      intro af D t2 Ft2 rt2 hD haf
      apply hP230
      refine k_addA hq (by omega) rt2 (fun b hb => (L ⟨b, hb⟩).1 b (hvb b hb)) (fun s16 F16 r16 => ?_)
      have F16' := Ft2.trans F16
      intro P260 hP260
      -- behind the jump
      have bh : ∀ (t3 : yS) (D3 : Prop), frM (dFr q) s t3 → rdS t3 q l RJ n R0 D3 → (D3 → (D ∧ subJ v (qA R0 f)) ∧ (17 < opA l[f] i ∧ opA l[f] i < 21 → subJ af (qM R0 (400 * f + ix (orA l[f] i))))) →
          ∀ P333 : yS → Prop, (∀ t4 : yS, frM (dFr q) s t4 → rdS t4 q l RJ n R0 (D3 ∧ (¬ (opA l[f] i = 18 ∨ opA l[f] i = 27 ∨ opA l[f] i = 28) → i + 1 < (fC l[f]).length → subJ af (qM R0 (400 * f + (i + 1))))) → P333 t4) →
          ((nI (opA l[f] i) = nI 18 → P333 t3) ∧ (¬ nI (opA l[f] i) = nI 18 → ((nI (opA l[f] i) = nI 27 → P333 t3) ∧ (¬ nI (opA l[f] i) = nI 27 → ((nI (opA l[f] i) = nI 28 → P333 t3) ∧ (¬ nI (opA l[f] i) = nI 28 → vp_in (nI (12 * q + f)) 36 ∧ (((sI t3 184 (12 * q + f)) ≤ (nI i + 1) → P333 t3) ∧ (¬ (sI t3 184 (12 * q + f)) ≤ (nI i + 1) → W_X12_add t3 196 14400 (nI (4800 * q + 400 * f + i) + 1) af (fun s35 => P333 s35))))))))) := by
        intro t3 D3 Ft3 rt3 hD3 P333 hP333
        rw [hcx 18 (by omega), hcx 27 (by omega), hcx 28 (by omega), ((hp.fl Ft3).2 f hf).2.2.2.2.1, nI_s]
        have no : (opA l[f] i = 18 ∨ opA l[f] i = 27 ∨ opA l[f] i = 28) ∨ ¬ (i + 1 < (fC l[f]).length) → P333 t3 := fun hh => hP333 t3 Ft3 (rt3.mono (fun hd => ⟨hd, fun n1 n2 => by rcases hh with hh | hh; exact absurd hh n1; exact absurd n2 hh⟩))
        refine ⟨fun h => no (by omega), fun n18 => ⟨fun h => no (by omega), fun n27 => ⟨fun h => no (by omega), fun n28 => ⟨hin, fun hle => no (Or.inr (by have := (nI_leU (by omega) (by omega)).mp hle; omega)), fun hlt => ?_⟩⟩⟩⟩
        have hlt : i + 1 < (fC l[f]).length := by
          apply Decidable.byContradiction
          intro hh; exact hlt ((nI_leU (by omega) (by omega)).mpr (by omega))
        rw [nI_s, show 4800 * q + 400 * f + i + 1 = 4800 * q + (400 * f + (i + 1)) by omega]
        refine k_addM hq (by omega) rt3 (fun b hb => ?_) (fun s35 F35 r35 => hP333 s35 (Ft3.trans F35) (r35.mono (fun hd => ⟨hd.1, fun _ _ => hd.2⟩)))
        rw [show (400 * f + (i + 1)) / 400 = f by omega, show (400 * f + (i + 1)) % 400 = i + 1 by omega]
        exact (L (haf b hb).1).2.2.2.2.2 (by omega) b (haf b hb).2
      -- the handlers
      have hdr : ∀ (t4 : yS) (D4 : Prop), frM (dFr q) s t4 → rdS t4 q l RJ n R0 D4 → (D4 → ((D ∧ subJ v (qA R0 f)) ∧ (17 < opA l[f] i ∧ opA l[f] i < 21 → subJ af (qM R0 (400 * f + ix (orA l[f] i))))) ∧ (¬ (opA l[f] i = 18 ∨ opA l[f] i = 27 ∨ opA l[f] i = 28) → i + 1 < (fC l[f]).length → subJ af (qM R0 (400 * f + (i + 1))))) →
          ∀ P380 : Int32 → Prop, (∀ (y20 : Int32), (∀ P393 : Int32 → yS → Prop, (∀ (x21 : Int32) (s22 : yS), (∀ P500 : Prop, ((∀ x23 : Int32, x23 = (nI i + 1) → 
          P39 x23 s22) → P500) → 
         ((y20 = 0 → P500)
         ∧ (¬ y20 = 0 → vp_in (nI (12 * q + f)) 36 ∧ 
          (((nI (72 * q + 6 * f) + (sI s22 185 (12 * q + f))) ≤ x21 → P500)
          ∧ (¬ (nI (72 * q + 6 * f) + (sI s22 185 (12 * q + f))) ≤ x21 → vp_in x21 216 ∧ 
           ∀ P494 : yS → Prop, (∀ (s26 : yS), (∀ x27 : Int32, x27 = (x21 + 1) → 
            P393 x27 s26) → P494 s26) → 
           ((nI i < (sI s22 188 (ix x21)) → P494 s22)
           ∧ (¬ nI i < (sI s22 188 (ix x21)) → vp_in x21 216 ∧ 
            (((sI s22 189 (ix x21)) ≤ nI i → P494 s22)
            ∧ (¬ (sI s22 189 (ix x21)) ≤ nI i → vp_in x21 216 ∧ 
             ∀ P490 : Int64 → Prop, (∀ (y30 : Int64), (W_X12_add s22 196 14400 (nI (4800 * q + 400 * f) + (sI s22 190 (ix x21))) (v ||| y30) 
              (fun s31 => P494 s31)) → P490 y30) → 
             ((¬ nI (opA l[f] i) = (nI 25) → P490 0)
             ∧ (nI (opA l[f] i) = (nI 25) → (((lg_cmp v 0) = 0 → P490 0)
              ∧ (¬ (lg_cmp v 0) = 0 → vp_in ((nI (12 * q)) + orA l[f] i) 36 ∧ 
               P490 (sJ s22 199 (ix ((nI (12 * q)) + orA l[f] i)))))))))))))))) → P393 x21 s22) → 
        ∀ x33 : Int32, x33 = nI (72 * q + 6 * f) → 
        P393 x33 t4) → P380 y20) → P380 (bI (thr (opA l[f] i))) := by
        intro t4 D4 Ft4 rt4 hD4 P380 hP380
        apply hP380
        intro P393 hP393 x33 e33
        subst e33
        -- all together
        have fin : ∀ (t5 : yS), frM (dFr q) s t5 → rdS t5 q l RJ n R0 (D4 ∧ (thr (opA l[f] i) = true → ∀ (j : Nat) (hj : j < (fH l[f]).length), hF (fH l[f])[j] ≤ i → i < hT (fH l[f])[j] → subJ v (qM R0 (400 * f + hG (fH l[f])[j])) ∧ (opA l[f] i = 25 → (∃ b, bJ v b = true) → subJ (qA R0 (ix (orA l[f] i))) (qM R0 (400 * f + hG (fH l[f])[j]))))) → ∀ x23 : Int32, x23 = nI i + 1 → P39 x23 t5 := by
          intro t5 Ft5 rt5
          refine nxt t5 Ft5 (rt5.mono (fun hd => ?_))
          obtain ⟨hd4, hdh⟩ := hd
          obtain ⟨⟨⟨hdd, hA⟩, hJ⟩, hN⟩ := hD4 hd4
          obtain ⟨⟨hC, hv0⟩, hrest⟩ := hD hdd
          refine ⟨hC, ?_⟩
          have mv : ∀ b, mR R0 f i b → bJ v b = true := fun b hb => by rw [hv0]; exact hb
          intro he
          have hev : ∃ b, bJ v b = true := by obtain ⟨b, hb⟩ := he; exact ⟨b, mv b hb⟩
          obtain ⟨r1, r2, r3⟩ := hrest hev
          refine ⟨fun b hb => hA b (mv b hb), fun h25 => ⟨fun b hb => (r2 h25).1 b (mv b hb), fun b hb => (r2 h25).2 b hb⟩, fun h27 b hb => r3 h27 b (mv b hb), fun ht k hk a1 a2 b hb => ?_, fun hj b hb => hJ hj b (r1 b hb), fun n1 n2 b hb => hN n1 n2 b (r1 b hb)⟩
          obtain ⟨j, hj, ej⟩ := List.getElem_of_mem hk
          subst ej
          have := hdh ht j hj a1 a2
          rcases hb with hb | ⟨h25, hb⟩
          · exact this.1 b (mv b hb)
          · exact this.2 h25 hev b hb
        cases hth : thr (opA l[f] i) with
        | false =>
          apply hP393
          intro P500 hP500
          rw [hth]
          exact ⟨fun _ => hP500 (fin t4 Ft4 (rt4.mono (fun hd => ⟨hd, fun hh => absurd hh (by rw [hth]; decide)⟩))), fun hz => absurd rfl hz⟩
        | true =>
          suffices hH : ∀ (r k N : Nat) (t5 : yS), N = 72 * q + 6 * f + k → k + r = (fH l[f]).length → frM (dFr q) s t5 → rdS t5 q l RJ n R0 (D4 ∧ ∀ (j : Nat) (hj : j < (fH l[f]).length), j < k → hF (fH l[f])[j] ≤ i → i < hT (fH l[f])[j] → subJ v (qM R0 (400 * f + hG (fH l[f])[j])) ∧ (opA l[f] i = 25 → (∃ b, bJ v b = true) → subJ (qA R0 (ix (orA l[f] i))) (qM R0 (400 * f + hG (fH l[f])[j])))) → P393 (nI N) t5 from
            hH (fH l[f]).length 0 _ t4 (by omega) (by omega) Ft4 (rt4.mono (fun hd => ⟨hd, fun j hj h0 => by omega⟩))
          intro r2
          induction r2 with
          | zero =>
            intro k N t5 hN hk Ft5 rt5
            subst hN
            obtain rfl : k = (fH l[f]).length := by omega
            apply hP393
            intro P500 hP500
            rw [hth, ((hp.fl Ft5).2 f hf).2.2.2.2.2.1, nI_addU]
            refine ⟨fun hz => absurd hz (by decide), fun _ => ⟨hin, fun _ => hP500 (fin t5 Ft5 (rt5.mono (fun hd => ⟨hd.1, fun _ j hj => hd.2 j hj hj⟩))), fun hz => absurd ((nI_leU (by omega) (by omega)).mpr (Nat.le_refl _)) hz⟩⟩
          | succ r2 ih2 =>
            intro k N t5 hN hk Ft5 rt5
            subst hN
            have hkl : k < (fH l[f]).length := by omega
            have p5 := hp.fl Ft5
            have hk6 := (p5.2 f hf).2.2.2.2.2.2.2 k hkl
            have hhk := hho _ (List.getElem_mem hkl)
            have b1 := hhk.1
            have b2 := hhk.2.1
            have b3 := hhk.2.2.1
            have hin2 : vp_in (nI (72 * q + 6 * f + k)) 216 := nI_inU (by omega) (by omega)
            apply hP393
            intro P500 hP500
            rw [hth, (p5.2 f hf).2.2.2.2.2.1, nI_addU]
            refine ⟨fun hz => absurd hz (by decide), fun _ => ⟨hin, fun hz => absurd ((nI_leU (by omega) (by omega)).mp hz) (by omega), fun _ => ⟨hin2, ?_⟩⟩⟩
            intro P494 hP494
            rw [nI_ix (n := 72 * q + 6 * f + k) (by omega), hk6.1, hk6.2.1, hk6.2.2.1, nI_ltU (by omega) (by omega), nI_leU (by omega) (by omega), nI_addU]
            rw [nI_s, Nat.add_assoc] at hP494
            have nx : ∀ (t6 : yS), frM (dFr q) s t6 → rdS t6 q l RJ n R0 ((D4 ∧ ∀ (j : Nat) (hj : j < (fH l[f]).length), j < k → hF (fH l[f])[j] ≤ i → i < hT (fH l[f])[j] → subJ v (qM R0 (400 * f + hG (fH l[f])[j])) ∧ (opA l[f] i = 25 → (∃ b, bJ v b = true) → subJ (qA R0 (ix (orA l[f] i))) (qM R0 (400 * f + hG (fH l[f])[j])))) ∧ (hF (fH l[f])[k] ≤ i → i < hT (fH l[f])[k] → subJ v (qM R0 (400 * f + hG (fH l[f])[k])) ∧ (opA l[f] i = 25 → (∃ b, bJ v b = true) → subJ (qA R0 (ix (orA l[f] i))) (qM R0 (400 * f + hG (fH l[f])[k]))))) → P494 t6 := by
              intro t6 Ft6 rt6
              refine hP494 _ (fun x27 e27 => ?_)
              subst e27
              refine ih2 (k + 1) _ t6 (by omega) (by omega) Ft6 (rt6.mono (fun hd => ⟨hd.1.1, fun j hj hjk => ?_⟩))
              by_cases c : j = k
              · subst c; exact hd.2
              · exact hd.1.2 j hj (by omega)
            refine ⟨fun hlt => nx t5 Ft5 (rt5.mono (fun hd => ⟨hd, fun h1 _ => absurd hlt (by omega)⟩)), fun hge => ⟨hin2, fun hle => nx t5 Ft5 (rt5.mono (fun hd => ⟨hd, fun _ h2 => absurd hle (by omega)⟩)), fun hlt => ⟨hin2, ?_⟩⟩⟩
            intro P490 hP490
            rw [Nat.add_assoc] at hP490
            have inr : hF (fH l[f])[k] ≤ i ∧ i < hT (fH l[f])[k] := by omega
            have go : ∀ (y : Int64) (D5 : Prop), rdS t5 q l RJ n R0 D5 → (D5 → (D4 ∧ ∀ (j : Nat) (hj : j < (fH l[f]).length), j < k → hF (fH l[f])[j] ≤ i → i < hT (fH l[f])[j] → subJ v (qM R0 (400 * f + hG (fH l[f])[j])) ∧ (opA l[f] i = 25 → (∃ b, bJ v b = true) → subJ (qA R0 (ix (orA l[f] i))) (qM R0 (400 * f + hG (fH l[f])[j])))) ∧ (opA l[f] i = 25 → (∃ b, bJ v b = true) → y = qA R0 (ix (orA l[f] i)))) → (∀ b, bJ y b = true → (∃ b, bJ v b = true) ∧ opA l[f] i = 25 ∧ lA l (RCJ RJ) n (ix (orA l[f] i)) b) → P490 y := by
              intro y D5 rt5' hD5 hy
              apply hP490
              refine k_addM hq (by omega) rt5' (fun b hb => ?_) (fun s31 F31 r31 => nx s31 (Ft5.trans F31) (r31.mono (fun hd => ⟨(hD5 hd.1).1, fun _ _ => ⟨fun b hb => hd.2 b (by rw [bJ_or, hb, Bool.true_or]), fun h25 he b hb => hd.2 b ?_⟩⟩)))
              · rw [show (400 * f + hG (fH l[f])[k]) / 400 = f by omega, show (400 * f + hG (fH l[f])[k]) % 400 = hG (fH l[f])[k] by omega]
                rw [bJ_or, Bool.or_eq_true] at hb
                rcases hb with hb | hb
                · exact (L ⟨b, hb⟩).2.2.2.1 hth _ (List.getElem_mem hkl) inr.1 inr.2 b (Or.inl (hvb b hb))
                · obtain ⟨he, h25, hl⟩ := hy b hb
                  exact (L he).2.2.2.1 hth _ (List.getElem_mem hkl) inr.1 inr.2 b (Or.inr ⟨h25, hl⟩)
              · rw [bJ_or, (hD5 hd.1).2 h25 he, hb, Bool.or_true]
            rw [hcx 25 (by omega)]
            refine ⟨fun n25 => go 0 _ rt5 (fun hd => ⟨hd, fun h25 => absurd h25 n25⟩) (fun b hb => by rw [bJ_0] at hb; exact absurd hb (by decide)), fun h25 => ⟨fun h0 => go 0 _ rt5 (fun hd => ⟨hd, fun _ ⟨b, hb⟩ => absurd hb (z0J h0 b)⟩) (fun b hb => by rw [bJ_0] at hb; exact absurd hb (by decide)), fun h0 => ?_⟩⟩
            obtain ⟨k2, hk2, ek2⟩ := oC h25
            rw [ek2, nI_addU, nI_ix (n := 12 * q + k2) (by omega)]
            have rA := rt5.rdA (a := k2) (by omega)
            refine ⟨nI_inU (by omega) (by omega), go _ _ rA.2 (fun hd => ⟨hd.1, fun _ _ => ?_⟩) (fun b hb => ⟨b0J h0, h25, ?_⟩)⟩
            · rw [ek2, nI_ix (by omega)]; exact hd.2
            · rw [ek2, nI_ix (by omega)]; exact rA.1 b hb
      -- which throw
      have thw : ∀ (t4 : yS) (D4 : Prop), frM (dFr q) s t4 → rdS t4 q l RJ n R0 D4 → (D4 → ((D ∧ subJ v (qA R0 f)) ∧ (17 < opA l[f] i ∧ opA l[f] i < 21 → subJ af (qM R0 (400 * f + ix (orA l[f] i))))) ∧ (¬ (opA l[f] i = 18 ∨ opA l[f] i = 27 ∨ opA l[f] i = 28) → i + 1 < (fC l[f]).length → subJ af (qM R0 (400 * f + (i + 1))))) → ∀ P380 : Int32 → Prop, P380 (bI (thr (opA l[f] i))) →
          ((nI (opA l[f] i) = (nI 9) → P380 1)
       ∧ (¬ nI (opA l[f] i) = (nI 9) → ((nI (opA l[f] i) = (nI 10) → P380 1)
        ∧ (¬ nI (opA l[f] i) = (nI 10) → ∀ P361 : Prop, ((((nI (opA l[f] i) = (nI 25) → P380 1)
          ∧ (¬ nI (opA l[f] i) = (nI 25) → ((¬ nI (opA l[f] i) = (nI 28) → P380 0)
           ∧ (nI (opA l[f] i) = (nI 28) → P380 1))))) → P361) → 
         ((nI (opA l[f] i) ≤ (nI 20) → P361)
         ∧ (¬ nI (opA l[f] i) ≤ (nI 20) → ((nI (opA l[f] i) < (nI 24) → P380 1)
          ∧ (¬ nI (opA l[f] i) < (nI 24) → P361)))))))) := by
        intro t4 D4 _ _ _ P380 hP
        rw [hcx 9 (by omega), hcx 10 (by omega), hcx 25 (by omega), hcx 28 (by omega), nI_leU (by omega) (by omega), nI_ltU (by omega) (by omega)]
        have y : (opA l[f] i = 9 ∨ opA l[f] i = 10 ∨ opA l[f] i = 21 ∨ opA l[f] i = 22 ∨ opA l[f] i = 23 ∨ opA l[f] i = 25 ∨ opA l[f] i = 28) → P380 1 := fun h => by unfold thr at hP; rw [decide_eq_true h] at hP; exact hP
        have z : ¬ (opA l[f] i = 9 ∨ opA l[f] i = 10 ∨ opA l[f] i = 21 ∨ opA l[f] i = 22 ∨ opA l[f] i = 23 ∨ opA l[f] i = 25 ∨ opA l[f] i = 28) → P380 0 := fun h => by unfold thr at hP; rw [decide_eq_false h] at hP; exact hP
        refine ⟨fun h => y (by omega), fun n9 => ⟨fun h => y (by omega), fun n10 P361 hP361 => ?_⟩⟩
        refine ⟨fun hle => hP361 ⟨fun h => y (by omega), fun n25 => ⟨fun n28 => z (by omega), fun h => y (by omega)⟩⟩, fun hgt => ⟨fun hlt => y (by omega), fun hge => hP361 ⟨fun h => y (by omega), fun n25 => ⟨fun n28 => z (by omega), fun h => y (by omega)⟩⟩⟩⟩
      rw [nI_leU (by omega) (by omega), nI_leU (by omega) (by omega)]
      have noj : ¬ (17 < opA l[f] i ∧ opA l[f] i < 21) → P260 0 := by
        intro hn
        apply hP260
        intro P282 hP282
        refine ⟨fun _ => hP282 _ ?_, fun hz => absurd rfl hz⟩
        intro P333 hP333
        exact bh s16 _ F16' r16 (fun hd => ⟨hd, fun hh => absurd hh hn⟩) P333 (fun t4 Ft4 rt4 => hP333 _ (fun P380 hP380 => thw t4 _ Ft4 rt4 (fun hd => ⟨⟨hd.1, fun hh => absurd hh hn⟩, hd.2⟩) P380 (hdr t4 _ Ft4 rt4 (fun hd => ⟨⟨hd.1, fun hh => absurd hh hn⟩, hd.2⟩) P380 hP380)))
      refine ⟨fun hle => noj (by omega), fun hgt => ⟨fun hle => noj (by omega), fun hlt => ?_⟩⟩
      have hj : 17 < opA l[f] i ∧ opA l[f] i < 21 := by omega
      apply hP260
      intro P282 hP282
      refine ⟨fun hz => absurd hz (by decide), fun _ => ?_⟩
      obtain ⟨k, hk, ek⟩ := oJ hj
      rw [ek, nI_addU, Nat.add_assoc]
      refine k_addM hq (by omega) r16 (fun b hb => ?_) (fun s18 F18 r18 => hP282 _ ?_)
      · rw [show (400 * f + k) / 400 = f by omega, show (400 * f + k) % 400 = k by omega]
        have := (L (haf b hb).1).2.2.2.2.1 hj b (haf b hb).2
        rw [ek, nI_ix (by omega)] at this; exact this
      · intro P333 hP333
        have F18' := F16'.trans F18
        exact bh s18 _ F18' r18 (fun hd => ⟨hd.1, fun _ => by rw [ek, nI_ix (by omega)]; exact hd.2⟩) P333 (fun t4 Ft4 rt4 => hP333 _ (fun P380 hP380 => thw t4 _ Ft4 rt4 (fun hd => ⟨⟨hd.1.1, fun _ => by rw [ek, nI_ix (by omega)]; exact hd.1.2⟩, hd.2⟩) P380 (hdr t4 _ Ft4 rt4 (fun hd => ⟨⟨hd.1.1, fun _ => by rw [ek, nI_ix (by omega)]; exact hd.1.2⟩, hd.2⟩) P380 hP380)))
    intro P115 hP115
    have ge : (opA l[f] i = 29 ∨ (opA l[f] i = 26 ∧ gdd l[f] i = false)) → P115 := by
      intro hh
      apply hP115
      obtain ⟨k, hk, ek⟩ := oH (by omega)
      have n25 : ¬ opA l[f] i = 25 := by omega
      rw [ek]
      refine k_after (hpo.fl Ft) hk (sec _ _ t Ft rt2 (fun hd => ⟨hd, fun _ => ⟨fun b hb => ?_, fun h => absurd h n25, fun h => by omega⟩⟩) (fun b hb => ?_))
      · unfold aft at hb
        rw [if_neg n25, if_pos hh, ek, nI_ix (by omega)] at hb
        rw [ledJ_bit]
        exact hb.mono (fun b hb => by rw [hd.2]; exact hb)
      · rw [ledJ_bit] at hb
        refine ⟨by obtain ⟨b', hb', _⟩ := hb; exact ⟨b', hb'⟩, ?_⟩
        unfold aft
        rw [if_neg n25, if_pos hh, ek, nI_ix (by omega)]
        exact hb.mono hvb
    rw [hcx 29 (by omega), hcx 26 (by omega), hcx 25 (by omega), hcx 27 (by omega)]
    refine ⟨fun h29 => ge (Or.inl h29), fun n29 => ?_⟩
    intro P128 hP128
    have pl : ¬ (opA l[f] i = 29 ∨ (opA l[f] i = 26 ∧ gdd l[f] i = false)) → P128 := by
      intro hn
      apply hP128
      have same : ¬ opA l[f] i = 25 → ∀ R : R3, ∀ X : R2, ∀ b, aft (RCJ RJ) n l[f] f i R X b ↔ R f i b := fun n25 R X b => by
        unfold aft; rw [if_neg n25, if_neg hn]
      refine ⟨fun n25 => ⟨fun n27 => ?_, fun h27 => ?_⟩, fun h25 => ?_⟩
      · refine sec v _ t Ft rt2 (fun hd => ⟨hd, fun _ => ⟨fun b hb => ?_, fun h => absurd h n25, fun h => absurd h n27⟩⟩) (fun b hb => ⟨⟨b, hb⟩, (same n25 _ _ b).mpr (hvb b hb)⟩)
        have := (same n25 _ _ b).mp hb
        rw [hd.2]; exact this
      · refine k_addX hq (by omega) rt2 (fun b hb => (L ⟨b, hb⟩).2.2.1 h27 b (hvb b hb)) (fun s38 F38 r38 => ?_)
        refine sec v _ s38 (Ft.trans F38) r38 (fun hd => ⟨hd.1, fun _ => ⟨fun b hb => ?_, fun h => absurd h n25, fun _ => hd.2⟩⟩) (fun b hb => ⟨⟨b, hb⟩, (same n25 _ _ b).mpr (hvb b hb)⟩)
        have := (same n25 _ _ b).mp hb
        rw [hd.1.2]; exact this
      · obtain ⟨k, hk, ek⟩ := oC h25
        have hink : vp_in (nI (12 * q + k)) 36 := nI_inU (by omega) (by omega)
        have aC : ∀ R : R3, ∀ X : R2, ∀ b, aft (RCJ RJ) n l[f] f i R X b ↔ X k b := fun R X b => by
          unfold aft; rw [if_pos h25, ek, nI_ix (by omega)]
        rw [ek, nI_addU, nI_ix (n := 12 * q + k) (by omega)]
        intro P158 hP158
        have go : ∀ (y : Int64) (D5 : Prop), rdS t q l RJ n R0 D5 → (D5 → ((((C ∧ subJ (qE R0 f) (qM R0 (400 * f))) ∧ ∀ j, j < i → ciR RJ n l[f] f j R0) ∧ v = qM R0 (400 * f + i)) ∧ ((∃ b, bJ v b = true) → y = qX R0 k))) → (∀ b, bJ y b = true → (∃ b, bJ v b = true) ∧ lX l (RCJ RJ) n k b) → P158 y := by
          intro y D5 r5 hD5 hy
          apply hP158
          refine k_addE hq (by omega) r5 (fun b hb => ?_) (fun s40 F40 r40 => ?_)
          · have := ((L ⟨b, hb⟩).2.1 h25).1 b (hvb b hb)
            rw [ek, nI_ix (by omega)] at this; exact this
          intro P206 hP206
          have go2 : ∀ (w : Int64) (D6 : Prop), rdS s40 q l RJ n R0 D6 → (D6 → (D5 ∧ subJ v (qE R0 k)) ∧ ((∃ b, bJ v b = true) → w = qA R0 k)) → (∀ b, bJ w b = true → (∃ b, bJ v b = true) ∧ lA l (RCJ RJ) n k b) → P206 w := by
            intro w D6 r6 hD6 hw
            apply hP206
            refine k_addA hq (by omega) r6 (fun b hb => ?_) (fun s42 F42 r42 => ?_)
            · obtain ⟨he, hl⟩ := hw b hb
              have := ((L he).2.1 h25).2 b (by rw [ek, nI_ix (by omega)]; exact hl)
              exact this
            refine sec y _ s42 ((Ft.trans F40).trans F42) r42 (fun hd => ?_) (fun b hb => ⟨(hy b hb).1, (aC _ _ b).mpr (hy b hb).2⟩)
            obtain ⟨hd6, hsub⟩ := hd
            obtain ⟨⟨hd5, hE⟩, hwA⟩ := hD6 hd6
            obtain ⟨hb0, hyX⟩ := hD5 hd5
            refine ⟨hb0, fun he => ⟨fun b hb => ?_, fun _ => ?_, fun h => by omega⟩⟩
            · have := (aC _ _ b).mp hb
              rw [hyX he]; exact this
            · rw [ek, nI_ix (by omega)]
              refine ⟨hE, ?_⟩
              rw [← hwA he]; exact hsub
          refine ⟨fun h0 => go2 0 _ r40 (fun hd => ⟨hd, fun ⟨b, hb⟩ => absurd hb (z0J h0 b)⟩) (fun b hb => by rw [bJ_0] at hb; exact absurd hb (by decide)), fun h0 => ⟨hink, ?_⟩⟩
          have rA := r40.rdA (a := k) (by omega)
          exact go2 _ _ rA.2 (fun hd => ⟨hd.1, fun _ => hd.2⟩) (fun b hb => ⟨b0J h0, rA.1 b hb⟩)
        refine ⟨fun h0 => go 0 _ rt2 (fun hd => ⟨hd, fun ⟨b, hb⟩ => absurd hb (z0J h0 b)⟩) (fun b hb => by rw [bJ_0] at hb; exact absurd hb (by decide)), fun h0 => ⟨hink, ?_⟩⟩
        have rX := rt2.rdX (a := k) (by omega)
        exact go _ _ rX.2 (fun hd => ⟨hd.1, fun _ => hd.2⟩) (fun b hb => ⟨b0J h0, rX.1 b hb⟩)
    refine ⟨fun n26 => pl (by omega), fun h26 => ?_⟩
    refine k_isGuarded hq hok pt hf hil ?_
    cases hgd : gdd l[f] i with
    | false => exact ⟨fun hz => absurd rfl hz, fun _ => ge (Or.inr ⟨h26, hgd⟩)⟩
    | true => exact ⟨fun _ => pl (by rintro (h | ⟨_, h⟩); exact n29 h; rw [hgd] at h; exact absurd h (by decide)), fun hz => absurd hz (by decide)⟩
end
