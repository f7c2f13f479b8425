/-- where the policy is read into -/
def polC (s : yS) (p : Nat) : Prop := (p = 3 ∨ p = 20) ∧ sR s 91 4 = p + 1
theorem polC.kd {s : yS} {p : Nat} (h : polC s p) : kd p = some (7, 0) := by
  rcases h.1 with rfl | rfl <;> rfl
theorem polC.fr {s s' : yS} {p : Nat} {D : Nat → Nat → Prop} (h : polC s p) (k : frM D s s') : polC s' p := ⟨h.1, (k.2.2 _ _).trans h.2⟩
def dEr (p a i : Nat) : Prop := (a = 91 ∧ i ≤ 3) ∨ (97 ≤ a ∧ a ≤ 102) ∨ (a = p ∧ (i ≤ 1 ∨ (4 ≤ i ∧ i ≤ 6))) ∨ (p + 1 ≤ a ∧ a ≤ p + 9 ∧ (a = p + 5 → i ≠ 0))
theorem dF_E {p : Nat} : ∀ a i, dF a i → dEr p a i := fun a i h => Or.inl h
theorem dT_E {p : Nat} : ∀ a i, dT a i → dEr p a i := fun a i h => by unfold dT at h; unfold dEr; omega
def dGd (p G a i : Nat) : Prop := (a = 91 ∧ (i = 2 ∨ i = 3)) ∨ (a = p ∧ i = 5) ∨ ((a = 101 ∨ a = 102) ∧ i = G) ∨ (p + 6 ≤ a ∧ a ≤ p + 9 ∧ i = G)
theorem dGd_E {p G : Nat} : ∀ a i, dGd p G a i → dEr p a i := fun a i h => by unfold dGd at h; unfold dEr; omega
theorem dT_Gd {p G : Nat} : ∀ a i, dT a i → dGd p G a i := fun a i h => Or.inl h
def gdc1 (s : yS) (p g : Nat) (d : Gd) : Prop := (sI s (p + 6)) g = nI (if gC d then 3 else gW d) ∧ (sI s (p + 7)) g = nI (gH d) ∧ (sI s (p + 8)) g = Int32.ofInt (gV d) ∧ (sI s (p + 9)) g = bI (gO d) ∧ (sI s 102) g = nI (gP d) ∧ (gC d = true → (sJ s 101) g = Int64.ofInt (cN 32 0 (gN' d)))
def gdC (s : yS) (p : Nat) (gs : List Gd) : Prop := (sI s p 5) = nI gs.length ∧ ∀ (g : Nat) (h : g < gs.length), gdc1 s p g gs[g]
theorem gdC.fr {s s' : yS} {p : Nat} {gs : List Gd} (h : gdC s p gs) (h0 : sI s' p 5 = sI s p 5) (h1 : ∀ a i, (p + 6 ≤ a ∧ a ≤ p + 9 ∨ a = 102) → i < gs.length → sI s' a i = sI s a i) (h2 : ∀ i, i < gs.length → sJ s' 101 i = sJ s 101 i) : gdC s' p gs := by
  refine ⟨h0.trans h.1, fun g hg => ?_⟩
  have := h.2 g hg
  unfold gdc1 at this ⊢
  rw [h1 _ g (by omega) hg, h1 _ g (by omega) hg, h1 _ g (by omega) hg, h1 _ g (by omega) hg, h1 _ g (by omega) hg, h2 g hg]
  exact this
theorem tkA.gd {s s' : yS} {T : Nat → Nat} {n p G : Nat} (h : tkA s T n) (hp : p = 3 ∨ p = 20) (k : frM (dGd p G) s s') : tkA s' T n :=
  h.fr (fun i => k.1 _ _ (by unfold dGd; omega)) (fun i => k.1 _ _ (by unfold dGd; omega)) (fun i => k.1 _ _ (by unfold dGd; omega)) (fun i => k.2.1 _ _ (by unfold dGd; omega))
section
variable {T : Nat → Nat} {n : Nat} {s : yS} {j p : Nat}
theorem c_readSubject {G : Nat} {Q : Int32 → yS → Prop} (h : tkA s T n) (hp : polC s p) (ha : (sI s 91 2) = nI j) (o : okJ T n j) (hG : (sI s p 5) = nI G) (hGb : G < 864)
    (Hok : ∀ c w nm pl, pSubj (tkJ T n) j = .ok (c, w, nm, pl) → okJ T n (j + 2) → ∀ s', frM (dGd p G) s s' → sI s' p 5 = nI G → (sI s' 91 2) = nI (j + 2) → (sI s' (p + 6)) G = nI (if c then 3 else w) → (sI s' 102) G = nI pl → (c = true → (sJ s' 101) G = Int64.ofInt (cN 32 0 nm)) → Q 1 s')
    (Herr : ∀ e, pSubj (tkJ T n) j = .error e → ∀ s', frM (dEr p) s s' → erC s' e → Q 0 s') : W_X4_readSubject s Q := by
  have hp3 := hp.1
  unfold W_X4_readSubject
  refine ⟨p, hp.2, hp.kd, ?_⟩
  intro x2 e2
  rw [hG] at e2; subst e2
  -- behind the word
  have main : ∀ (c : Bool), isW (tkJ T n j) 5 = !c → (c = true → isW (tkJ T n j) 6 = true) → tkK (tkJ T n j) = 6 → ∀ (r3 : Int32), (r3 = 0 ↔ c = true) → ∀ (s5 : yS), s5 = wI s 91 2 (nI (j + 1)) →
      (vp_in (sI s5 91 2) 8193 ∧ 
  vp_in (nI G) 864 ∧ ∀ s8 : yS, s8 = wI s5 102 (ix (nI G)) (sI s5 94 (ix (sI s5 91 2))) → 
  vp_in (sI s8 91 2) 8193 ∧ 
  vp_in (nI G) 864 ∧ ∀ s11 : yS, s11 = wJ s8 101 (ix (nI G)) (sJ s8 95 (ix (sI s8 91 2))) → 
  ∀ P92 : yS → Prop, (∀ (s12 : yS), (W_X4_refuse s12 
   (fun r13 s14 => zb r13 ∧ Q r13 s14)) → P92 s12) → 
  ∀ P97 : yS → Prop, (∀ (s16 : yS), (∃ p17 : Nat, sR s16 91 4 = p17 + 1 ∧ kd p17 = some (7, 0) ∧ 
   ((r3 = 0 → vp_in (nI G) 864 ∧ ∀ s19 : yS, s19 = wI s16 (p17 + 6) (ix (nI G)) (nI 3) → 
    Q 1 s19)
   ∧ (¬ r3 = 0 → vp_in (nI G) 864 ∧ ∀ s21 : yS, s21 = wI s16 (p17 + 6) (ix (nI G)) (sI s16 91 3) → 
    Q 1 s21))) → P97 s16) → 
  ((r3 = 0 → W_X4_take s11 (nI 5) 
   (fun r22 s23 => ((¬ r22 = 0 → P97 s23)
   ∧ (r22 = 0 → P92 s23))))
  ∧ (¬ r3 = 0 → W_X4_takeNumber s11 0 (nI 2) 
   (fun r24 s25 => ((¬ r24 = 0 → P97 s25)
   ∧ (r24 = 0 → P92 s25)))))) := by
    intro c hc5 hc6 k6 r3 hr3 s5 e5
    have o1 := o.s (by omega)
    have F5 : frM (dGd p G) s s5 := by subst e5; exact frM.rfl'.wI (by unfold dGd; omega)
    have a5 : (sI s5 91 2) = nI (j + 1) := by subst e5; rw [sI_w, if_pos ⟨rfl, rfl⟩]
    have A5 := h.gd hp3 F5
    obtain ⟨hj, t1, t2, t3⟩ := A5.at o1
    rw [a5, nI_ix (n := j + 1) (by omega), nI_ix (n := G) (by omega), t2]
    refine ⟨nI_inU (by omega) (by omega), nI_inU hGb (by omega), ?_⟩
    intro s8 e8
    have a8 : (sI s8 91 2) = nI (j + 1) := by subst e8; exact a5
    have t8 : (sJ s8 95) (j + 1) = vC (tkJ T n (j + 1)) := by subst e8; exact t3
    rw [a8, nI_ix (n := j + 1) (by omega), t8]
    refine ⟨nI_inU (by omega) (by omega), nI_inU hGb (by omega), ?_⟩
    intro s11 e11 P92 hP92 P97 hP97
    have F11 : frM (dGd p G) s s11 := by subst e11; subst e8; exact (F5.wI (by unfold dGd; omega)).wJ (by unfold dGd; omega)
    have a11 : (sI s11 91 2) = nI (j + 1) := by subst e11; exact a8
    have v11 : (sI s11 102) G = nI (tkP (tkJ T n (j + 1))) ∧ (sJ s11 101) G = vC (tkJ T n (j + 1)) := by
      subst e11; subst e8; refine ⟨?_, ?_⟩
      · rw [sI_wJ, sI_w, if_pos ⟨rfl, rfl⟩]
      · rw [sJ_w, if_pos ⟨rfl, rfl⟩]
    have g11 : sI s11 p 5 = nI G := by
      subst e11; subst e8; subst e5; rw [sI_wJ, sI_w, if_neg (by omega), sI_w, if_neg (by omega)]; exact hG
    have A11 := h.gd hp3 F11
    clear e11 e8 e5
    have bad : pSubj (tkJ T n) j = .error (pRef (tkJ T n (j + 1))) → ∀ s', frM dT s11 s' → (sI s' 91 2) = nI (j + 1) → P92 s' := by
      intro he s' F' a'
      apply hP92
      refine c_refuse (A11.dT F') a' o1 (fun s'' F'' a'' e'' => ⟨Or.inl rfl, Herr _ he s'' ((F11.mono dGd_E).trans ((F'.mono dT_E).trans (F''.mono dF_E))) e''⟩)
    cases c
    · have h5 : isW (tkJ T n j) 5 = true := hc5
      refine ⟨fun hz => absurd (hr3.mp hz) (by decide), fun hz => ?_⟩
      refine c_takeNumber A11 a11 o1 (fun h4 hl hh s' F' a' t' => ⟨fun _ => ?_, fun hz => absurd hz (by decide)⟩) (fun hn s' F' a' => ⟨fun hz => absurd rfl hz, fun _ => bad ?_ s' F' a'⟩)
      · have hl : 0 ≤ tkV (tkJ T n (j + 1)) := hl
        have hh : tkV (tkJ T n (j + 1)) ≤ 2 := hh
        apply hP97
        have hp' := hp.fr (F11.trans (F'.mono (dT_Gd (p := p) (G := G))))
        refine ⟨p, hp'.2, hp'.kd, fun hz2 => absurd (hr3.mp hz2) (by decide), fun _ => ⟨nI_inU hGb (by omega), ?_⟩⟩
        intro s21 e21
        rw [t'] at e21
        refine Hok false (tkV (tkJ T n (j + 1))).toNat [] (tkP (tkJ T n (j + 1))) (by unfold pSubj; rw [if_pos h5, if_pos ⟨h4, hl, hh⟩]) (o1.s (by omega)) s21 ?_ ?_ ?_ ?_ ?_ (fun hc => absurd hc (by decide))
        · subst e21; exact (F11.trans (F'.mono dT_Gd)).wI (by unfold dGd; omega)
        · subst e21; rw [sI_w, if_neg (by omega), F'.1 _ _ (by unfold dT; omega)]; exact g11
        · subst e21; rw [sI_w, if_neg (by omega)]; exact a'
        · subst e21; rw [sI_w, if_pos ⟨rfl, rfl⟩]
          show Int32.ofInt _ = nI (tkV (tkJ T n (j + 1))).toNat
          rw [← oI_nat]; congr 1; omega
        · subst e21; rw [sI_w, if_neg (by omega), F'.1 _ _ (by unfold dT; omega)]; exact v11.1
      · unfold pSubj; rw [if_pos h5, if_neg]; intro h4; exact hn h4
    · have h5 : isW (tkJ T n j) 5 = false := hc5
      have h6 := hc6 rfl
      refine ⟨fun hz => ?_, fun hz => absurd (hr3.mpr rfl) hz⟩
      refine c_take A11 a11 o1 (by omega) (fun h4 => ⟨fun _ => ?_, fun hz => absurd hz (by decide)⟩) (fun hn => ⟨fun hz => absurd rfl hz, fun _ => bad ?_ s11 frM.rfl' a11⟩)
      · apply hP97
        have F23 : frM (dGd p G) s (wI s11 91 2 (nI (j + 1 + 1))) := F11.wI (by unfold dGd; omega)
        have hp' := hp.fr F23
        refine ⟨p, hp'.2, hp'.kd, fun _ => ⟨nI_inU hGb (by omega), ?_⟩, fun hz2 => absurd (hr3.mpr rfl) hz2⟩
        intro s19 e19
        refine Hok true 0 (tkN (tkJ T n (j + 1))) (tkP (tkJ T n (j + 1))) (by unfold pSubj; rw [if_neg (by simp [h5]), if_pos h6, if_pos h4]) (o1.s (by omega)) s19 ?_ ?_ ?_ ?_ ?_ (fun _ => ?_)
        · subst e19; exact F23.wI (by unfold dGd; omega)
        · subst e19; rw [sI_w, if_neg (by omega), sI_w, if_neg (by omega)]; exact g11
        · subst e19; rw [sI_w, if_neg (by omega), sI_w, if_pos ⟨rfl, rfl⟩]
        · subst e19; rw [sI_w, if_pos ⟨rfl, rfl⟩]; rfl
        · subst e19; rw [sI_w, if_neg (by omega), sI_w, if_neg (by omega)]; exact v11.1
        · subst e19; show sJ s11 101 G = _; rw [v11.2]; unfold vC; rw [if_pos h4]
      · unfold pSubj; rw [if_neg (by simp [h5]), if_pos h6, if_neg hn]
  refine c_takeWord h ha o (by omega) (fun h5 => ?_) (fun h5 => ?_)
  · have k6 : tkK (tkJ T n j) = 6 := by unfold isW at h5; simp at h5; exact h5.1
    intro P32 hP32
    refine ⟨fun _ => hP32 _ ?_, fun hz => absurd hz (by decide)⟩
    exact main false h5 (fun hh => absurd hh (by decide)) k6 1 ⟨fun hh => absurd hh (by decide), fun hh => absurd hh (by decide)⟩ _ rfl
  · intro P32 hP32
    refine ⟨fun hz => absurd rfl hz, fun _ => ?_⟩
    refine c_takeWord h ha o (by omega) (fun h6 => ⟨fun _ => hP32 _ ?_, fun hz => absurd hz (by decide)⟩) (fun h6 => ⟨fun hz => absurd rfl hz, fun _ => ?_⟩)
    · have k6 : tkK (tkJ T n j) = 6 := by unfold isW at h6; simp at h6; exact h6.1
      exact main true h5 (fun _ => h6) k6 0 ⟨fun _ => rfl, fun _ => rfl⟩ _ rfl
    · exact c_refuse h ha o (fun s' F' a' e' => ⟨Or.inl rfl, Herr _ (by unfold pSubj; rw [if_neg (by simp [h5]), if_neg (by simp [h6])]) s' (F'.mono dF_E) e'⟩)
theorem c_readGuard {F : Nat} {gs : List Gd} {Q : Int32 → yS → Prop} (h : tkA s T n) (hp : polC s p) (ha : (sI s 91 2) = nI j) (o : okJ T n j) (hg : gdC s p gs) (hgl : gs.length < 864) (hF : n < F)
    (Hok : ∀ g j', pGuard (tkJ T n) F j = .ok (g, j') → okJ T n j' → ∀ s', frM (dGd p gs.length) s s' → (sI s' 91 2) = nI j' → gdC s' p (gs ++ [g]) → Q 1 s')
    (Herr : ∀ e, pGuard (tkJ T n) F j = .error e → ∀ s', frM (dEr p) s s' → erC s' e → Q 0 s') : W_X4_readGuard s Q := by
  have hp3 := hp.1
  obtain ⟨hn, J, hJ, hJc, hJk⟩ := h
  have h : tkA s T n := ⟨hn, J, hJ, hJc, hJk⟩
  unfold W_X4_readGuard
  intro P2 hP2
  -- refusing
  have rf : ∀ (j1 : Nat) (s' : yS), frM (dGd p gs.length) s s' → (sI s' 91 2) = nI j1 → okJ T n j1 → pGuard (tkJ T n) F j = .error (pRef (tkJ T n j1)) → W_X4_refuse s' (fun r50 s51 => zb r50 ∧ Q r50 s51) := by
    intro j1 s' F' a' o' he
    exact c_refuse (h.gd hp3 F') a' o' (fun s'' F'' a'' e'' => ⟨Or.inl rfl, Herr _ he s'' ((F'.mono dGd_E).trans (F''.mono dF_E)) e''⟩)
  suffices hL : ∀ (f k j1 : Nat) (s2 : yS), n < j1 + f → k ≤ j1 → okJ T n j1 → frM dT s s2 → (sI s2 91 2) = nI j1 → pNots (tkJ T n) F 0 j = pNots (tkJ T n) f k j1 → P2 (nI k) s2 from
    hL F 0 j s (by omega) (by omega) o frM.rfl' ha rfl
  intro f
  induction f with
  | zero => intro k j1 s2 h1 h2 h3; have := okJ_n h3; omega
  | succ f ih =>
    intro k j1 s2 hf hkj o1 F2 a2 hpn
    have hj1 := okJ_n o1
    have FG2 : frM (dGd p gs.length) s s2 := F2.mono dT_Gd
    have A2 := h.dT F2
    have hj1J : j1 ≤ J := by
      by_cases c : j1 ≤ J
      · exact c
      · have := o1 J (by omega); omega
    have cnt : (sI s2 92 3) = nI (J + 1) := by rw [F2.1 _ _ (by unfold dT; omega)]; exact hJc.1
    apply hP2
    intro P38 hP38
    rw [cnt, nI_leU (by omega) (by omega)]
    refine ⟨fun hh => absurd hh (by omega), fun _ => ?_⟩
    refine c_takeWord A2 a2 o1 (by omega) (fun hw => ⟨fun hz => absurd hz (by decide), fun _ => ?_⟩) (fun hw => ⟨fun _ => hP38 _ ?_, fun hz => absurd rfl hz⟩)
    · have h6 : tkK (tkJ T n j1) = 6 := by unfold isW at hw; simp at hw; exact hw.1
      intro x47 e47
      subst e47; rw [nI_s]
      have F3 : frM dT s (wI s2 91 2 (nI (j1 + 1))) := F2.wI ⟨rfl, by omega⟩
      have o2 := o1.s (by omega)
      refine c_take (h.dT F3) (by rw [sI_w, if_pos ⟨rfl, rfl⟩]) o2 (by omega) (fun h2 => ⟨fun _ => ?_, fun hz => absurd hz (by decide)⟩) (fun h2 => ⟨fun hz => absurd rfl hz, fun _ => ?_⟩)
      · refine ih (k + 1) (j1 + 2) _ (by omega) (by omega) (o2.s (by omega)) (F3.wI ⟨rfl, by omega⟩) (by rw [sI_w, if_pos ⟨rfl, rfl⟩]) ?_
        rw [hpn, pNots, if_pos hw, if_pos h2]
      · refine rf (j1 + 1) _ (F3.mono dT_Gd) (by rw [sI_w, if_pos ⟨rfl, rfl⟩]) o2 ?_
        unfold pGuard; rw [hpn, pNots, if_pos hw, if_neg h2]
    · rw [pNots, if_neg (by simp [hw])] at hpn
      have hgd : pGuard (tkJ T n) F j = (match pSubj (tkJ T n) j1 with
        | .error e => .error e
        | .ok (c, w, nm, pl) =>
          match pHow (tkJ T n) (j1 + 2) with
          | .error e => .error e
          | .ok h =>
            match pNum (tkJ T n) (j1 + 3) with
            | .error e => .error e
            | .ok v =>
              match pClose (tkJ T n) (k + 1) (j1 + 4) with
              | .error e => .error e
              | .ok j5 => .ok ((c, w, nm, pl, h, v, k % 2 == 1), j5)) := by
        unfold pGuard; rw [hpn]; rfl
      rw [hgd] at Hok Herr rf
      clear hgd hpn hP38 hP2 ih
      have hp2 := hp.fr F2
      have g2 : sI s2 p 5 = nI gs.length := by rw [F2.1 _ _ (by unfold dT; omega)]; exact hg.1
      refine c_readSubject A2 hp2 a2 o1 g2 hgl (fun c w nm pl hps o3 s5 F5 g5 a5 v5 w5 n5 => ?_) (fun e he s5 F5 e5 => ?_)
      rotate_left
      · rw [he] at Herr
        exact ⟨fun hz => absurd rfl hz, fun _ => Herr _ rfl s5 ((FG2.mono dGd_E).trans F5) e5⟩
      · rw [hps] at Hok Herr rf
        dsimp only at Hok Herr rf
        refine ⟨fun _ => ?_, fun hz => absurd hz (by decide)⟩
        have FG5 := FG2.trans F5
        have hp5 := hp.fr FG5
        have A5 := h.gd hp3 FG5
        refine ⟨p, hp5.2, hp5.kd, ?_⟩
        intro x7 e7
        rw [g5] at e7; subst e7
        -- behind the comparison
        have cmp : ∀ (hw : Nat), pHow (tkJ T n) (j1 + 2) = .ok hw → tkK (tkJ T n (j1 + 2)) = 6 → W_X4_takeNumber (wI s5 91 2 (nI (j1 + 2 + 1))) ((-2147483648)) ((2147483647)) 
                (fun r13 s14 => ((¬ r13 = 0 → ∃ p15 : Nat, sR s14 91 4 = p15 + 1 ∧ kd p15 = some (7, 0) ∧ 
                 vp_in (nI gs.length) 864 ∧ ∀ s17 : yS, s17 = wI s14 (p15 + 7) (ix (nI gs.length)) (nI hw) → 
                 ∃ p18 : Nat, sR s17 91 4 = p18 + 1 ∧ kd p18 = some (7, 0) ∧ 
                 vp_in (nI gs.length) 864 ∧ ∀ s20 : yS, s20 = wI s17 (p18 + 8) (ix (nI gs.length)) (sI s17 91 3) → 
                 ∃ p21 : Nat, sR s20 91 4 = p21 + 1 ∧ kd p21 = some (7, 0) ∧ 
                 ∀ P161 : Int32 → Prop, (∀ (y22 : Int32), (vp_in (nI gs.length) 864 ∧ ∀ s24 : yS, s24 = wI s20 (p21 + 9) (ix (nI gs.length)) (vp_nar .boolean y22) → 
                  ∃ p25 : Nat, sR s24 91 4 = p25 + 1 ∧ kd p25 = some (7, 0) ∧ 
                  ∀ s26 : yS, s26 = wI s24 p25 5 ((sI s24 p25 5) + 1) → 
                  ∀ P178 : Int32 → yS → Prop, (∀ (x27 : Int32) (s28 : yS), (((nI k < x27 → Q 1 s28)
                   ∧ (¬ nI k < x27 → W_X4_take s28 (nI 3) 
                    (fun r29 s30 => ((¬ r29 = 0 → ∀ x31 : Int32, x31 = (x27 + 1) → 
                     P178 x31 s30)
                    ∧ (r29 = 0 → W_X4_refuse s30 
                     (fun r32 s33 => zb r32 ∧ Q r32 s33))))))) → P178 x27 s28) → 
                  P178 0 s26) → P161 y22) → 
                 ((¬ (nI k - nI k / (nI 2) * (nI 2)) = 1 → P161 0)
                 ∧ ((nI k - nI k / (nI 2) * (nI 2)) = 1 → P161 1)))
                ∧ (r13 = 0 → W_X4_refuse s14 
                 (fun r35 s36 => zb r35 ∧ Q r35 s36)))) := by
          intro hw hph h6
          rw [hph] at Hok Herr rf
          dsimp only at Hok Herr rf
          have o4 := o3.s (by omega)
          have F12 : frM (dGd p gs.length) s (wI s5 91 2 (nI (j1 + 2 + 1))) := FG5.wI (by unfold dGd; omega)
          refine c_takeNumber (h.gd hp3 F12) (by rw [sI_w, if_pos ⟨rfl, rfl⟩]) o4 (fun h4 _ _ s14 F14 a14 t14 => ⟨fun _ => ?_, fun hz => absurd hz (by decide)⟩) (fun hn4 s14 F14 a14 => ⟨fun hz => absurd rfl hz, fun _ => ?_⟩)
          rotate_left
          · refine rf _ s14 (F12.trans (F14.mono dT_Gd)) a14 o4 ?_
            have h4 : ¬ tkK (tkJ T n (j1 + 3)) = 4 := by
              intro h4
              apply hn4
              have := (tkJ_cases T n (j1 + 3)).2.2.2.2.2.2.2.1 h4
              exact ⟨h4, this.1, this.2⟩
            unfold pNum; rw [if_neg h4]
          · have h4 : tkK (tkJ T n (j1 + 3)) = 4 := h4
            have he : pNum (tkJ T n) (j1 + 3) = .ok (tkV (tkJ T n (j1 + 3))) := by unfold pNum; rw [if_pos h4]
            rw [he] at Hok Herr rf
            dsimp only at Hok Herr rf
            have o5 := o4.s (by show 2 ≤ tkK (tkJ T n (j1 + 3)); omega)
            have FG14 := F12.trans (F14.mono (dT_Gd (p := p) (G := gs.length)))
            have hp14 := hp.fr FG14
            have t14 : (sI s14 91 3) = Int32.ofInt (tkV (tkJ T n (j1 + 3))) := t14
            have f14 : ∀ a i, a ≠ 91 → sI s14 a i = sI s5 a i := by
              intro a i h1; rw [F14.1 _ _ (by unfold dT; omega), sI_w, if_neg (by omega)]
            have f14J : ∀ a i, a ≠ 91 → sJ s14 a i = sJ s5 a i := by
              intro a i h1; rw [F14.2.1 _ _ (by unfold dT; omega)]; rfl
            refine ⟨p, hp14.2, hp14.kd, nI_inU hgl (by omega), ?_⟩
            intro s17 e17
            rw [nI_ix (n := gs.length) (by omega)] at e17
            have hp17 : polC s17 p := by subst e17; exact hp14
            refine ⟨p, hp17.2, hp17.kd, nI_inU hgl (by omega), ?_⟩
            intro s20 e20
            have t17 : (sI s17 91 3) = Int32.ofInt (tkV (tkJ T n (j1 + 3))) := by subst e17; rw [sI_w, if_neg (by omega)]; exact t14
            rw [nI_ix (n := gs.length) (by omega), t17] at e20
            have hp20 : polC s20 p := by subst e20; exact hp17
            refine ⟨p, hp20.2, hp20.kd, ?_⟩
            intro P161 hP161
            have fin : P161 (bI (k % 2 == 1)) := by
              apply hP161
              rw [bI_nar, nI_ix (n := gs.length) (by omega)]
              refine ⟨nI_inU hgl (by omega), ?_⟩
              intro s24 e24
              have hp24 : polC s24 p := by subst e24; exact hp20
              refine ⟨p, hp24.2, hp24.kd, ?_⟩
              intro s26 e26
              have g24 : sI s24 p 5 = nI gs.length := by
                subst e24; subst e20; subst e17
                rw [sI_w, if_neg (by omega), sI_w, if_neg (by omega), sI_w, if_neg (by omega), f14 _ _ (by omega)]; exact g5
              rw [g24, nI_s] at e26
              have F26 : frM (dGd p gs.length) s s26 := by
                subst e26; subst e24; subst e20; subst e17
                exact (((FG14.wI (by unfold dGd; omega)).wI (by unfold dGd; omega)).wI (by unfold dGd; omega)).wI (by unfold dGd; omega)
              have a26 : (sI s26 91 2) = nI (j1 + 4) := by
                subst e26; subst e24; subst e20; subst e17
                rw [sI_w, if_neg (by omega), sI_w, if_neg (by omega), sI_w, if_neg (by omega), sI_w, if_neg (by omega)]; exact a14
              have G26 : gdC s26 p (gs ++ [(c, w, nm, pl, hw, tkV (tkJ T n (j1 + 3)), k % 2 == 1)]) := by
                refine ⟨?_, fun g hgl2 => ?_⟩
                · subst e26; rw [sI_w, if_pos ⟨rfl, rfl⟩, List.length_append]; rfl
                · rw [List.length_append] at hgl2
                  have hgl2 : g < gs.length + 1 := hgl2
                  by_cases cg : g = gs.length
                  · subst cg
                    rw [List.getElem_append_right (by omega)]
                    simp only [Nat.sub_self, List.getElem_cons_zero]
                    unfold gdc1 gC gW gH gV gO gN' gP
                    subst e26; subst e24; subst e20; subst e17
                    dsimp only
                    refine ⟨?_, ?_, ?_, ?_, ?_, fun hc => ?_⟩
                    · rw [sI_w, if_neg (by omega), sI_w, if_neg (by omega), sI_w, if_neg (by omega), sI_w, if_neg (by omega), f14 _ _ (by omega)]; exact v5
                    · rw [sI_w, if_neg (by omega), sI_w, if_neg (by omega), sI_w, if_neg (by omega), sI_w, if_pos ⟨rfl, rfl⟩]
                    · rw [sI_w, if_neg (by omega), sI_w, if_neg (by omega), sI_w, if_pos ⟨rfl, rfl⟩]
                    · rw [sI_w, if_neg (by omega), sI_w, if_pos ⟨rfl, rfl⟩]
                    · rw [sI_w, if_neg (by omega), sI_w, if_neg (by omega), sI_w, if_neg (by omega), sI_w, if_neg (by omega), f14 _ _ (by omega)]; exact w5
                    · show sJ s14 101 gs.length = _
                      rw [f14J _ _ (by omega)]; exact n5 hc
                  · rw [List.getElem_append_left (by omega)]
                    have fI : ∀ a i, i < gs.length → (a ≠ 91 ∧ a ≠ p) → sI s26 a i = sI s a i := by
                      intro a i hi ha; exact F26.1 _ _ (by unfold dGd; omega)
                    have := hg.2 g (by omega)
                    unfold gdc1 at this ⊢
                    rw [fI _ _ (by omega) (by omega), fI _ _ (by omega) (by omega), fI _ _ (by omega) (by omega), fI _ _ (by omega) (by omega), fI _ _ (by omega) (by omega), F26.2.1 _ _ (by unfold dGd; omega)]
                    exact this
              clear e26 e24 e20 e17 hP161
              intro P178 hP178
              have hCl : ∀ (m x jj : Nat) (s28 : yS), x + m = k + 1 → frM dT s26 s28 → (sI s28 91 2) = nI jj → okJ T n jj → pClose (tkJ T n) (k + 1) (j1 + 4) = pClose (tkJ T n) m jj → P178 (nI x) s28 := by
                intro m
                induction m with
                | zero =>
                  intro x jj s28 hx F28 a28 o28 hpc
                  apply hP178
                  rw [nI_ltU (by omega) (by omega)]
                  refine ⟨fun _ => ?_, fun hh => absurd (by omega) hh⟩
                  refine Hok (c, w, nm, pl, hw, tkV (tkJ T n (j1 + 3)), k % 2 == 1) jj (by rw [hpc]; rfl) o28 s28 (F26.trans (F28.mono dT_Gd)) a28 ?_
                  exact G26.fr (F28.1 _ _ (by unfold dT; omega)) (fun a i ha _ => F28.1 _ _ (by unfold dT; omega)) (fun i _ => F28.2.1 _ _ (by unfold dT; omega))
                | succ m ih =>
                  intro x jj s28 hx F28 a28 o28 hpc
                  apply hP178
                  rw [nI_ltU (by omega) (by omega)]
                  refine ⟨fun hh => absurd hh (by omega), fun _ => ?_⟩
                  have FG28 := F26.trans (F28.mono (dT_Gd (p := p) (G := gs.length)))
                  refine c_take (h.gd hp3 FG28) a28 o28 (by omega) (fun h3 => ⟨fun _ => ?_, fun hz => absurd hz (by decide)⟩) (fun h3 => ⟨fun hz => absurd rfl hz, fun _ => ?_⟩)
                  · intro x31 e31; subst e31; rw [nI_s]
                    refine ih (x + 1) (jj + 1) _ (by omega) (F28.wI ⟨rfl, by omega⟩) (by rw [sI_w, if_pos ⟨rfl, rfl⟩]) (o28.s (by omega)) ?_
                    rw [hpc, pClose, if_pos h3]
                  · refine rf jj s28 FG28 a28 o28 ?_
                    rw [hpc, pClose, if_neg h3]
              exact hCl (k + 1) 0 (j1 + 4) s26 (by omega) frM.rfl' a26 o5 rfl
            rw [nI_mod (by omega) (by omega)]
            have m1 : nI (k % 2) = 1 ↔ k % 2 = 1 := by rw [nI_1U, nI_inj (by omega) (by omega)]
            rw [m1]
            by_cases hm : k % 2 = 1
            · refine ⟨fun hh => absurd hm hh, fun _ => ?_⟩
              rw [show (k % 2 == 1) = true by simp [hm]] at fin; exact fin
            · refine ⟨fun _ => ?_, fun hh => absurd hh hm⟩
              rw [show (k % 2 == 1) = false by simp [hm]] at fin; exact fin
        have isK : ∀ w, isW (tkJ T n (j1 + 2)) w = true → tkK (tkJ T n (j1 + 2)) = 6 := by
          intro w hw; unfold isW at hw; simp at hw; exact hw.1
        refine c_takeWord A5 a5 o3 (by omega) (fun h9 => ?_) (fun h9 => ?_)
        · intro P82 hP82
          refine ⟨fun hz => absurd hz (by decide), fun _ => hP82 _ _ ?_⟩
          intro P102 hP102
          refine ⟨fun _ => hP102 _ (cmp 0 (by unfold pHow; rw [if_pos h9]) (isK _ h9)), fun hh => absurd hh (by decide)⟩
        · intro P82 hP82
          refine ⟨fun _ => ?_, fun hz => absurd rfl hz⟩
          refine c_takeWord A5 a5 o3 (by omega) (fun h10 => ⟨fun hz => absurd hz (by decide), fun _ => hP82 _ _ ?_⟩) (fun h10 => ⟨fun _ => hP82 _ _ ?_, fun hz => absurd rfl hz⟩)
          · intro P102 hP102
            exact ⟨fun _ => hP102 _ (cmp 1 (by unfold pHow; rw [if_neg (by simp [h9]), if_pos h10]) (isK _ h10)), fun hh => absurd hh (by decide)⟩
          · intro P102 hP102
            refine ⟨fun hh => absurd rfl hh, fun _ => ?_⟩
            refine c_takeWord A5 a5 o3 (by omega) (fun h11 => ⟨fun _ => hP102 _ (cmp 2 (by unfold pHow; rw [if_neg (by simp [h9]), if_neg (by simp [h10]), if_pos h11]) (isK _ h11)), fun hz => absurd hz (by decide)⟩) (fun h11 => ⟨fun hz => absurd rfl hz, fun _ => ?_⟩)
            refine rf (j1 + 2) s5 FG5 a5 o3 ?_
            unfold pHow; rw [if_neg (by simp [h9]), if_neg (by simp [h10]), if_neg (by simp [h11])]
end
