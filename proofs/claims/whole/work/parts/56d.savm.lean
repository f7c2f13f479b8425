section
variable {s : yS} {q : Nat} {l : List Fn}
def dWm (a i : Nat) : Prop := a = 141 ∨ (a = 139 ∧ i = 5)
theorem pgM.wr {t u : yS} (h : pgM t q l) (F : frM dWm t u) : pgM u q l := h.fr (fun a i ha => F.1 a i (by unfold dWm; omega))
theorem k_write {k0 : Nat} {Q : Int32 → yS → Prop} {P14 : Int32 → Prop} (hq : q ≤ 2) (hh : (sI s 177) q = 1) (hp : pgM s q l) (hok : pgOK l)
    (H : ∀ s', frM (fun a i => dWm a i) s s' → atM s' (pP l) (pP l).length → Q (nI (pP l).length) s') (s0 : yS) (hs0 : s = s0)
    : ∀ s4 : yS, s4 = wI s0 139 5 0 → 
   W_X12_put s4 (nI 71) 1 
   (fun s5 => W_X12_put s5 (nI 70) 1 
   (fun s6 => W_X12_put s6 1 1 
   (fun s7 => vp_in (nI q) 3 ∧ 
   W_X12_put s7 (sI s7 178 (ix (nI q))) 1 
   (fun s9 => ∀ P64 : Int32 → yS → Prop, (∀ (x10 : Int32) (s11 : yS), (vp_in (nI q) 3 ∧ 
    (((sI s11 178 (ix (nI q))) ≤ x10 → Q (sI s11 139 5) s11)
    ∧ (¬ (sI s11 178 (ix (nI q))) ≤ x10 → ∀ x13 : Int32, x13 = (((nI 12) * (nI q)) + x10) → 
     vp_in x13 36 ∧ 
     W_X12_put s11 (sI s11 179 (ix x13)) 1 
     (fun s15 => vp_in x13 36 ∧ 
     W_X12_put s15 (sI s15 180 (ix x13)) 1 
     (fun s17 => vp_in x13 36 ∧ 
     W_X12_put s17 (sI s17 181 (ix x13)) (nI 2) 
     (fun s19 => vp_in x13 36 ∧ 
     W_X12_put s19 (sI s19 182 (ix x13)) 1 
     (fun s21 => vp_in x13 36 ∧ 
     W_X12_put s21 (sI s21 184 (ix x13)) (nI 2) 
     (fun s23 => ∀ P145 : Int32 → yS → Prop, (∀ (x24 : Int32) (s25 : yS), (vp_in x13 36 ∧ 
      (((sI s25 184 (ix x13)) ≤ x24 → vp_in x13 36 ∧ 
       W_X12_put s25 (sI s25 185 (ix x13)) 1 
       (fun s28 => ∀ P242 : Int32 → yS → Prop, (∀ (x29 : Int32) (s30 : yS), (vp_in x13 36 ∧ 
        ((((((nI 72) * (nI q)) + ((nI 6) * x10)) + (sI s30 185 (ix x13))) ≤ x29 → ∀ x32 : Int32, x32 = (x10 + 1) → 
         P64 x32 s30)
        ∧ (¬ ((((nI 72) * (nI q)) + ((nI 6) * x10)) + (sI s30 185 (ix x13))) ≤ x29 → vp_in x29 216 ∧ 
         W_X12_put s30 (sI s30 188 (ix x29)) (nI 2) 
         (fun s34 => vp_in x29 216 ∧ 
         W_X12_put s34 (sI s34 189 (ix x29)) (nI 2) 
         (fun s36 => vp_in x29 216 ∧ 
         W_X12_put s36 (sI s36 190 (ix x29)) (nI 2) 
         (fun s38 => vp_in x29 216 ∧ 
         ∀ P316 : Int32 → Prop, (∀ (y40 : Int32), (W_X12_put s38 y40 1 
          (fun s41 => vp_in x29 216 ∧ 
          vp_in x29 216 ∧ 
          ∀ P343 : Int32 → Prop, (∀ (y44 : Int32), (W_X12_put s41 (sI s41 192 (ix x29)) y44 
           (fun s45 => ∀ x46 : Int32, x46 = (x29 + 1) → 
           P242 x46 s45)) → P343 y44) → 
          (((sI s41 191 (ix x29)) = 0 → P343 (nI 4))
          ∧ (¬ (sI s41 191 (ix x29)) = 0 → P343 0)))) → P316 y40) → 
         (((sI s38 191 (ix x29)) = 0 → P316 1)
         ∧ (¬ (sI s38 191 (ix x29)) = 0 → P316 0)))))))) → P242 x29 s30) → 
       ∀ x47 : Int32, x47 = (((nI 72) * (nI q)) + ((nI 6) * x10)) → 
       P242 x47 s28))
      ∧ (¬ (sI s25 184 (ix x13)) ≤ x24 → vp_in ((((nI 4800) * (nI q)) + ((nI 400) * x10)) + x24) 14400 ∧ 
       ∀ x49 : Int32, x49 = (sI s25 186 (ix ((((nI 4800) * (nI q)) + ((nI 400) * x10)) + x24))) → 
       W_X12_put s25 x49 1 
       (fun s50 => vp_in ((((nI 4800) * (nI q)) + ((nI 400) * x10)) + x24) 14400 ∧ 
       W_X12_behind s50 x49 
       (fun r52 => W_X12_put s50 (sI s50 187 (ix ((((nI 4800) * (nI q)) + ((nI 400) * x10)) + x24))) r52 
       (fun s53 => ∀ x54 : Int32, x54 = (x24 + 1) → 
       P145 x54 s53)))))) → P145 x24 s25) → 
     P145 0 s23)))))))) → P64 x10 s11) → 
   P64 0 s9)))) := by
  have hwk := hok.wk
  have hln := pP_len hwk
  have h8 : (pP l).length ≤ 8192 := by rw [hln]; exact hok.2.2.2
  have h12 := hok.2.1
  subst hs0
  intro s4 e4
  have d0 : (pP l).drop 0 = pP l := List.drop_zero
  conv at d0 => rhs; unfold pP
  generalize hW : pP l = W at *
  have inq : vp_in (nI q) 3 := nI_inU (by omega) (by omega)
  have F4 : frM dWm s s4 := by subst e4; exact frM.rfl'.wI (by unfold dWm; omega)
  have A4 : atM s4 W 0 := ⟨by subst e4; rw [sI_w, if_pos ⟨rfl, rfl⟩]; rfl, fun j hj => by omega⟩
  refine k_put (k := 0) (w := 1) h8 (by omega) (by omega) d0 A4 (fun s5 F5 A5 D5 L5 => ?_)
  refine k_put (w := 1) h8 (by omega) L5 D5 A5 (fun s6 F6 A6 D6 L6 => ?_)
  refine k_put (w := 1) h8 (by omega) L6 D6 A6 (fun s7 F7 A7 D7 L7 => ?_)
  have F7' : frM dWm s s7 := ((F4.trans F5).trans F6).trans F7
  rw [nI_ix (n := q) (by omega), (hp.wr F7').1]
  refine ⟨inq, k_put (w := 1) h8 (by omega) L7 D7 A7 (fun s9 F9 A9 D9 L9 => ?_)⟩
  have F9' : frM dWm s s9 := F7'.trans F9
  intro P64 hP64
  suffices hL : ∀ (r f k : Nat) (t : yS), f + r = l.length → frM dWm s t → atM t W k → W.drop k = pFs (l.drop f) → k ≤ W.length → P64 (nI f) t from hL l.length 0 _ s9 (by omega) F9' A9 D9 L9
  intro r
  induction r with
  | zero =>
    intro f k t hf Ft At Dt Lt
    obtain rfl : f = l.length := by omega
    have pt := hp.wr Ft
    apply hP64
    rw [pt.1]
    refine ⟨inq, fun _ => ?_, fun hz => absurd ((nI_leU (by omega) (by omega)).mpr (Nat.le_refl _)) hz⟩
    rw [List.drop_length] at Dt
    have hk : k = W.length := by
      have := congrArg List.length Dt
      rw [List.length_drop] at this
      have : W.length - k = 0 := this
      omega
    rw [hk] at At
    rw [At.1]
    exact H t Ft At
  | succ r ih =>
    intro f k t hf Ft At Dt Lt
    have hfl : f < l.length := by omega
    have pt := hp.wr Ft
    have hin : vp_in (nI (12 * q + f)) 36 := nI_inU (by omega) (by omega)
    obtain ⟨k1, k2, k3⟩ := hwk.2 f hfl
    rw [List.drop_eq_getElem_cons hfl] at Dt
    have Dt : W.drop k = pF l[f] (pFs (l.drop (f + 1))) := Dt
    unfold pF at Dt
    apply hP64
    rw [pt.1]
    refine ⟨inq, fun hz => absurd ((nI_leU (by omega) (by omega)).mp hz) (by omega), fun _ => ?_⟩
    rw [nI_mul, nI_addU]
    intro x13 e13
    subst e13
    rw [nI_ix (n := 12 * q + f) (by omega), (pt.2 f hfl).1]
    refine ⟨hin, k_put (w := 1) h8 (by omega) Lt Dt At (fun s9 F9 A9 D9 L9 => ?_)⟩
    have F9' : frM dWm s s9 := Ft.trans F9
    rw [((hp.wr F9').2 f hfl).2.1]
    refine ⟨hin, k_put (w := 1) h8 (by omega) L9 D9 A9 (fun s12 F12 A12 D12 L12 => ?_)⟩
    have F12' : frM dWm s s12 := F9'.trans F12
    rw [((hp.wr F12').2 f hfl).2.2.1]
    refine ⟨hin, k_put (w := 2) h8 (by omega) L12 D12 A12 (fun s15 F15 A15 D15 L15 => ?_)⟩
    have F15' : frM dWm s s15 := F12'.trans F15
    rw [((hp.wr F15').2 f hfl).2.2.2.1]
    refine ⟨hin, k_put (w := 1) h8 (by omega) L15 D15 A15 (fun s18 F18 A18 D18 L18 => ?_)⟩
    have F18' : frM dWm s s18 := F15'.trans F18
    rw [((hp.wr F18').2 f hfl).2.2.2.2.1]
    refine ⟨hin, k_put (w := 2) h8 (by omega) L18 D18 A18 (fun s21 F21 A21 D21 L21 => ?_)⟩
    have F21' : frM dWm s s21 := F18'.trans F21
    intro P145 hP145
    generalize hx : l[f] = x at *
    rw [nI_mul, nI_mul, nI_mul, nI_mul, nI_addU, nI_addU] at hP145
    suffices hC : ∀ (r i k : Nat) (t : yS), i + r = (fC x).length → frM dWm s t → atM t W k → W.drop k = pIs ((fC x).drop i) ++ (byt (nI (fH x).length) 1 ++ (pHs (fH x) ++ pFs (l.drop (f + 1)))) → k ≤ W.length → P145 (nI i) t from hC (fC x).length 0 _ s21 (by omega) F21' A21 D21 L21
    intro r2
    induction r2 with
    | zero =>
      intro i k t hi Ft At Dt Lt
      obtain rfl : i = (fC x).length := by omega
      rw [List.drop_length] at Dt
      have Dt : W.drop k = byt (nI (fH x).length) 1 ++ (pHs (fH x) ++ pFs (l.drop (f + 1))) := Dt
      have pf := (hp.wr Ft).2 f hfl
      rw [hx] at pf
      apply hP145
      rw [pf.2.2.2.2.1, pf.2.2.2.2.2.1]
      refine ⟨hin, fun _ => ⟨hin, ?_⟩, fun hz => absurd ((nI_leU (by omega) (by omega)).mpr (Nat.le_refl _)) hz⟩
      refine k_put (w := 1) h8 (by omega) Lt Dt At (fun s28 F28 A28 D28 L28 => ?_)
      have F28' : frM dWm s s28 := Ft.trans F28
      intro P242 hP242 x47 e47
      subst e47
      suffices hH : ∀ (r j k : Nat) (t : yS), j + r = (fH x).length → frM dWm s t → atM t W k → W.drop k = pHs ((fH x).drop j) ++ pFs (l.drop (f + 1)) → k ≤ W.length → P242 (nI (72 * q + 6 * f + j)) t by
        have h0 := hH (fH x).length 0 _ s28 (by omega) F28' A28 D28 L28
        rw [Nat.add_zero (72 * q + 6 * f)] at h0; exact h0
      intro r3
      induction r3 with
      | zero =>
        intro j k t hj Ft At Dt Lt
        obtain rfl : j = (fH x).length := by omega
        rw [List.drop_length] at Dt
        have Dt : W.drop k = pFs (l.drop (f + 1)) := Dt
        have pf := (hp.wr Ft).2 f hfl
        rw [hx] at pf
        apply hP242
        rw [pf.2.2.2.2.2.1, nI_addU]
        refine ⟨hin, fun _ => ?_, fun hz => absurd ((nI_leU (by omega) (by omega)).mpr (Nat.le_refl _)) hz⟩
        intro x33 e33
        subst e33; rw [nI_s]
        exact ih (f + 1) k t (by omega) Ft At Dt Lt
      | succ r3 ih3 =>
        intro j k t hj Ft At Dt Lt
        have hjl : j < (fH x).length := by omega
        rw [List.drop_eq_getElem_cons hjl, pHs_cons] at Dt
        have pf := (hp.wr Ft).2 f hfl
        rw [hx] at pf
        apply hP242
        rw [pf.2.2.2.2.2.1, nI_addU]
        refine ⟨hin, fun hz => absurd ((nI_leU (by omega) (by omega)).mp hz) (by omega), fun _ => ?_⟩
        have ph : ∀ {u : yS}, frM dWm s u → hnM u (72 * q + 6 * f + j) (fH x)[j] := fun Fu => by
          have := (hp.wr Fu).2 f hfl
          rw [hx] at this
          exact this.2.2.2.2.2.2.2 j hjl
        have in72 : vp_in (nI (72 * q + 6 * f + j)) 216 := nI_inU (by omega) (by omega)
        rw [nI_ix (n := 72 * q + 6 * f + j) (by omega), (ph Ft).1]
        generalize (fH x)[j] = y at *
        refine ⟨in72, k_put (w := 2) h8 (by omega) Lt Dt At (fun u3 G3 B3 E3 M3 => ?_)⟩
        have G3' : frM dWm s u3 := Ft.trans G3
        rw [(ph G3').2.1]
        refine ⟨in72, k_put (w := 2) h8 (by omega) M3 E3 B3 (fun u6 G6 B6 E6 M6 => ?_)⟩
        have G6' : frM dWm s u6 := G3'.trans G6
        rw [(ph G6').2.2.1]
        refine ⟨in72, k_put (w := 2) h8 (by omega) M6 E6 B6 (fun u9 G9 B9 E9 M9 => ?_)⟩
        have G9' : frM dWm s u9 := G6'.trans G9
        refine ⟨in72, ?_⟩
        intro P316 hP316
        rw [(ph G9').2.2.2.1]
        have nx : ∀ (k2 : Nat) (u : yS), frM dWm s u → atM u W k2 → W.drop k2 = pHs ((fH x).drop (j + 1)) ++ pFs (l.drop (f + 1)) → k2 ≤ W.length → ∀ x36 : Int32, x36 = nI (72 * q + 6 * f + j) + 1 → P242 x36 u := by
          intro k2 u Fu Au Du Lu x36 e36
          subst e36; rw [nI_s, Nat.add_assoc (72 * q + 6 * f) j 1]
          exact ih3 (j + 1) k2 u (by omega) Fu Au Du Lu
        cases hy : hA y with
        | false =>
          rw [hy] at E9
          refine ⟨fun _ => hP316 _ (k_put (w := 1) h8 (by omega) M9 E9 B9 (fun u13 G13 B13 E13 M13 => ?_)), fun hz => absurd rfl hz⟩
          have G13' : frM dWm s u13 := G9'.trans G13
          rw [(ph G13').2.2.2.1, (ph G13').2.2.2.2, hy]
          refine ⟨in72, in72, fun P343 hP343 => ⟨fun _ => hP343 _ (k_put (w := 4) h8 (by omega) M13 E13 B13 (fun u17 G17 B17 E17 M17 => ?_)), fun hz => absurd rfl hz⟩⟩
          exact nx _ u17 (G13'.trans G17) B17 E17 M17
        | true =>
          rw [hy] at E9
          refine ⟨fun hz => absurd hz (by decide), fun _ => hP316 _ (k_put (w := 1) h8 (by omega) M9 E9 B9 (fun u13 G13 B13 E13 M13 => ?_))⟩
          have G13' : frM dWm s u13 := G9'.trans G13
          rw [(ph G13').2.2.2.1, (ph G13').2.2.2.2, hy]
          refine ⟨in72, in72, fun P343 hP343 => ⟨fun hz => absurd hz (by decide), fun _ => hP343 _ (k_put (w := 0) h8 (by omega) M13 E13 B13 (fun u17 G17 B17 E17 M17 => ?_))⟩⟩
          exact nx _ u17 (G13'.trans G17) B17 E17 M17
    | succ r2 ih2 =>
      intro i k t hi Ft At Dt Lt
      have hil : i < (fC x).length := by omega
      rw [List.drop_eq_getElem_cons hil, pIs_cons] at Dt
      have h29 := k3 _ (List.getElem_mem hil)
      have hw := wd_g h29
      have pf : ∀ {u : yS}, frM dWm s u → fnM u q f x := fun Fu => by
        have := (hp.wr Fu).2 f hfl
        rw [hx] at this; exact this
      have in48 : vp_in (nI (4800 * q + 400 * f + i)) 14400 := nI_inU (by omega) (by omega)
      apply hP145
      rw [(pf Ft).2.2.2.2.1]
      refine ⟨hin, fun hz => absurd ((nI_leU (by omega) (by omega)).mp hz) (by omega), fun _ => ?_⟩
      rw [nI_addU, nI_ix (n := 4800 * q + 400 * f + i) (by omega), ((pf Ft).2.2.2.2.2.2.1 i hil).1]
      refine ⟨in48, ?_⟩
      intro x49 e49
      subst e49
      refine k_put (w := 1) h8 (by omega) Lt Dt At (fun u3 G3 B3 E3 M3 => ?_)
      have G3' : frM dWm s u3 := Ft.trans G3
      rw [((pf G3').2.2.2.2.2.2.1 i hil).2]
      refine ⟨in48, k_behind h29 (k_put h8 (by omega) M3 E3 B3 (fun u6 G6 B6 E6 M6 => ?_))⟩
      intro x46 e46
      subst e46; rw [nI_s]
      exact ih2 (i + 1) _ u6 (by omega) (G3'.trans G6) B6 E6 M6
def selQ (v : Int32) : Nat := if v = 0 then 0 else 1
theorem k_saveProgram {v : Int32} {Q : Int32 → yS → Prop} (hb : (sI s 177) (selQ v) = 0 ∨ (sI s 177) (selQ v) = 1 ∧ pgM s (selQ v) l ∧ pgOK l)
    (H0 : (sI s 177) (selQ v) = 0 → Q (-1) (wI s 139 0 0))
    (H1 : (sI s 177) (selQ v) = 1 → ∀ s', frM (fun a i => dWm a i ∨ (a = 139 ∧ i = 0)) s s' → atM s' (pP l) (pP l).length → Q (nI (pP l).length) s') : W_X12_saveProgram s v Q := by
  unfold W_X12_saveProgram
  intro s1 e1 P14 hP14
  have hv : ∀ P : Int32 → Prop, P (nI (selQ v)) → ((v = 0 → P 0) ∧ (¬ v = 0 → P 1)) := fun P h => by
    unfold selQ at h
    by_cases c : v = 0
    · rw [if_pos c] at h; exact ⟨fun _ => h, fun hz => absurd c hz⟩
    · rw [if_neg c] at h; exact ⟨fun hz => absurd hz c, fun _ => h⟩
  have hs1 : selQ v ≤ 1 := by unfold selQ; split <;> omega
  generalize selQ v = q at *
  refine hv P14 (hP14 _ ?_)
  have inq : vp_in (nI q) 3 := nI_inU (by omega) (by omega)
  refine ⟨inq, ?_⟩
  have h1 : sI s1 177 (ix (nI q)) = sI s 177 q := by subst e1; rw [nI_ix (by omega), sI_w, if_neg (by omega)]
  rw [h1]
  rcases hb with hb | ⟨hb, hp, hok⟩
  · rw [hb]
    exact ⟨fun hz => absurd rfl hz, fun _ => by subst e1; exact H0 hb⟩
  · rw [hb]
    refine ⟨fun _ => ?_, fun hz => absurd hz (by decide)⟩
    have F1 : frM (fun a i => dWm a i ∨ (a = 139 ∧ i = 0)) s s1 := by subst e1; exact frM.rfl'.wI (by omega)
    have p1 : pgM s1 q l := hp.fr (fun a i ha => F1.1 a i (by unfold dWm; omega))
    have b1 : sI s1 177 q = 1 := by rw [F1.1 _ _ (by unfold dWm; omega)]; exact hb
    exact k_write (k0 := 0) (P14 := fun _ => True) (by omega) b1 p1 hok (fun s' F' A' => H1 hb s' (F1.trans (F'.mono (fun a i h => Or.inl h))) A') s1 rfl
end
