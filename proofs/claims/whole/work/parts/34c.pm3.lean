section
variable {T : Nat → Nat} {n : Nat}
theorem txM.fr {s s' : yS} (h : txM s T n) (h1 : (sI s' 139 9) = (sI s 139 9)) (h2 : ∀ i, sI s' 143 i = sI s 143 i) : txM s' T n :=
  ⟨h.1, h1.trans h.2.1, fun k hk => (h2 k).trans (h.2.2.1 k hk), h.2.2.2⟩
theorem txM.gf {s s' : yS} (h : txM s T n) (k : frM dG s s') : txM s' T n := h.fr (k.1 _ _ (by unfold dG; omega)) (fun i => k.1 _ _ (by unfold dG; omega))
theorem dG_nx : ∀ i, 10 ≤ i → i ≤ 16 → dG 139 i := fun i h1 h2 => by unfold dG; omega
theorem k_readGuard {s : yS} {j F : Nat} {gs : List Gd} {L : List Lk} {call : Int} {Q : yS → Prop} (h : txM s T n) (hc : cuM s T n j) (hk : tkK (tkJ T n j) = 2) (ho : okJ T n j) (hg : gdM s gs) (hgl : gs.length < 900) (hl : lkM s L) (hL : L.length < 1250) (hF : n < F)
    (Hok : ∀ g j', pGuard (tkJ T n) F (j + 1) = .ok (g, j') → okJ T n j' → ∀ s', frM dG s s' → cuM s' T n j' → gdM s' (gs ++ [g]) → lkM s' (L ++ [(if gC g then 0 else 2, gs.length, call, gP g)]) → Q s')
    (Herr : ∀ e, pGuard (tkJ T n) F (j + 1) = .error e → ∀ s', frM dG s s' → erM s' n e → Q s') : W_X12_readGuard s (Int32.ofInt call) Q := by
  have hn := h.1
  unfold W_X12_readGuard
  rw [wd353, wd355, wd357, wd361, wd363, wd365]
  intro P6 hP6
  refine k_nextJ h hc (by omega) (fun s61 F61 c61 => ?_)
  have hE : ∀ (x : Int32) (s2 : yS) (e : Nat × Nat), pGuard (tkJ T n) F (j + 1) = .error e → frM dG s s2 → erM s2 n e → P6 x s2 := by
    intro x s2 e he F2 e2
    apply hP6
    intro P38 hP38
    have hP : P38 := by
      refine hP38 (k_isWordE (fun r _ => ?_))
      intro P64 hP64
      have hQ : ∀ y, P64 y := fun y => hP64 y (k_mustE e2 ⟨fun hh => absurd rfl hh, fun _ => Herr _ he _ F2 e2⟩)
      exact ⟨fun _ => hQ _, fun _ => k_isWordE (fun r _ => ⟨fun _ => hQ _, fun _ => hQ _⟩)⟩
    exact ⟨fun _ => hP, fun hh => absurd hh e2.ne⟩
  suffices hLp : ∀ (f k j1 : Nat) (s2 : yS), n < j1 + f → k ≤ j1 → okJ T n j1 → nxF s s2 → cuM s2 T n j1 → pNots (tkJ T n) F 0 (j + 1) = pNots (tkJ T n) f k j1 → P6 (nI k) s2 from
    hLp F 0 (j + 1) s61 (by omega) (by omega) (ho.s (by omega)) F61 c61 rfl
  intro f
  induction f with
  | zero => intro k j1 s2 h1 h2 h3; have := okJ_n h3; omega
  | succ f ih =>
    intro k j1 s2 hf hkj ho1 F2 c2 hpn
    have tx2 := F2.txM h
    have hj1 := okJ_n ho1
    have FG2 : frM dG s s2 := F2.fr dG_nx
    by_cases hk1 : tkK (tkJ T n j1) = 1
    · refine hE _ s2 _ ?_ FG2 (c2.bad hk1)
      unfold pGuard; rw [hpn, pNots, if_neg (by unfold isW; simp [hk1])]
      dsimp only; unfold pSubj; rw [if_neg (by unfold isW; simp [hk1]), if_neg (by unfold isW; simp [hk1])]
    have hb := c2.2.2.2.1 hk1
    apply hP6
    intro P38 hP38
    refine ⟨fun hh => absurd hb.1 hh, fun _ => ?_⟩
    refine k_isWord c2 (by omega) (fun r _ hr => ?_)
    have hr := hr hk1
    refine ⟨fun hz => hP38 ?_, fun hz x58 e58 => ?_⟩
    rotate_left
    · -- not
      have hw : isW (tkJ T n j1) 7 = true := by rw [hr] at hz; exact if1 hz
      have h6 : tkK (tkJ T n j1) = 6 := by unfold isW at hw; simp at hw; exact hw.1
      subst e58; rw [nI_s]
      refine k_nextJ tx2 c2 hk1 (fun s59 F59 c59 => ?_)
      refine k_expect (F59.txM tx2) c59 (Or.inl ⟨rfl, rfl⟩) (fun h2 s60 F60 c60 => ?_) (fun h2 s60 F60 e60 => ?_)
      · refine ih (k + 1) (j1 + 2) s60 (by omega) (by omega) ((ho1.s (by omega)).s (by omega)) ((F2.trans F59).trans F60) c60 ?_
        rw [hpn, pNots, if_pos hw, if_pos h2]
      · refine hE _ s60 _ ?_ (((F2.trans F59).trans F60).fr dG_nx) e60
        unfold pGuard; rw [hpn, pNots, if_pos hw, if_neg h2]
    · -- behind the nots
      have hw : isW (tkJ T n j1) 7 = false := by rw [hr] at hz; exact if0 hz
      rw [pNots, if_neg (by simp [hw])] at hpn
      clear hP38 hP6 hE ih hz hr
      have hgd : pGuard (tkJ T n) F (j + 1) = (match pSubj (tkJ T n) j1 with
        | .error e => .error e
        | .ok (c, w, nm, pl) =>
          match pHow (tkJ T n) (j1 + 2) with
          | .error e => .error e
          | .ok h =>
            match pNum (tkJ T n) (j1 + 3) with
            | .error e => .error e
            | .ok v =>
              match pClose (tkJ T n) (k + 1) (j1 + 4) with
              | .error e => .error e
              | .ok j5 => .ok ((c, w, nm, pl, h, v, k % 2 == 1), j5)) := by
        unfold pGuard; rw [hpn]; rfl
      rw [hgd] at Hok Herr
      clear hgd hpn
      have G2 := hg.nx F2
      have L2 := hl.nx F2
      refine k_isWord c2 (by omega) (fun r3 _ hr3 => ?_)
      have hr3 := hr3 hk1
      intro P64 hP64
      have hs0 : isW (tkJ T n j1) 5 = false → isW (tkJ T n j1) 6 = false → P64 0 := by
        intro h5 h6
        apply hP64
        refine k_mustJ tx2 c2 (fun hh => absurd rfl hh) (fun _ s' F' e' => ⟨fun hh => absurd rfl hh, fun _ => Herr _ ?_ s' (FG2.trans (F'.fr dG_nx)) e'⟩)
        unfold pSubj; rw [if_neg (by simp [h5]), if_neg (by simp [h6])]
      have hs1 : (isW (tkJ T n j1) 5 = true ∨ isW (tkJ T n j1) 6 = true) → P64 1 := by
        intro h56
        have k6 : tkK (tkJ T n j1) = 6 := by rcases h56 with hw | hw <;> (unfold isW at hw; simp at hw; exact hw.1)
        have ho2 := ho1.s (by omega)
        apply hP64
        refine k_mustJ tx2 c2 (fun _ _ => ⟨fun _ => ?_, fun hh => absurd hh (by decide)⟩) (fun hh => hh.elim (fun hh => absurd hh (by decide)) (fun hh => absurd hh hk1))
        refine k_isWord c2 (by omega) (fun r7 _ hr7 => ?_)
        have hr7 : r7 = bI (isW (tkJ T n j1) 6) := hr7 hk1
        have h5c : isW (tkJ T n j1) 5 = !isW (tkJ T n j1) 6 := by
          rcases h56 with hw | hw
          · rw [hw]; unfold isW at hw ⊢; simp at hw ⊢; omega
          · rw [hw]; unfold isW at hw ⊢; simp at hw ⊢; omega
        clear hP64 hs0 h56
        generalize hcB : isW (tkJ T n j1) 6 = cB at *
        rw [G2.1, nI_ix (by omega), hr7, bI_nar]
        refine ⟨nI_inU (by omega) (by omega), ?_⟩
        intro s9 e9 P107 hP107
        have hnot : P107 (bI (k % 2 == 1)) := by
          apply hP107
          have g9 : (sI s9 139 41) = nI gs.length := by subst e9; exact G2.1
          rw [g9, nI_ix (by omega), bI_nar]
          refine ⟨nI_inU (by omega) (by omega), ?_⟩
          intro s12 e12
          have FG12 : frM dG s s12 := by subst e12; subst e9; exact (FG2.wI (by unfold dG; omega)).wI (by unfold dG; omega)
          have c12 : cuM s12 T n j1 := c2.fr (fun i hi => by subst e12; subst e9; rw [sI_w, if_neg (by omega), sI_w, if_neg (by omega)]) (fun i hi => by subst e12; subst e9; rfl)
          have G12 : gdM s12 gs := G2.fr (by subst e12; subst e9; rfl) (fun a i ha hi => by subst e12; subst e9; rw [sI_w, if_neg (by omega), sI_w, if_neg (by omega)]) (fun i hi => by subst e12; subst e9; rfl)
          have L12 : lkM s12 L := L2.fr (by subst e12; subst e9; rfl) (fun i hi => by subst e12; subst e9; rw [sI_w, if_neg (by omega), sI_w, if_neg (by omega)])
          have v12 : (sI s12 158) gs.length = bI cB ∧ (sI s12 163) gs.length = bI (k % 2 == 1) := by subst e12; subst e9; simp [sI_w]
          clear e12 e9 hP107
          have tx12 := h.gf FG12
          refine k_nextJ tx12 c12 hk1 (fun s13 F13 c13 => ?_)
          have FG13 := FG12.trans (F13.fr dG_nx)
          have G13 := G12.nx F13
          have L13 := L12.nx F13
          have v13 : (sI s13 158) gs.length = bI cB ∧ (sI s13 163) gs.length = bI (k % 2 == 1) := by rw [F13.a _ _ (by omega), F13.a _ _ (by omega)]; exact v12
          have tx13 := h.gf FG13
          rw [G13.1, nI_ix (by omega), v13.1]
          refine ⟨nI_inU (by omega) (by omega), ?_⟩
          intro P195 hP195
          -- behind the subject
          have h195 : ∀ (w : Nat) (nm : List Nat), pSubj (tkJ T n) j1 = .ok (cB, w, nm, tkP (tkJ T n (j1 + 1))) → tkK (tkJ T n (j1 + 1)) ≠ 1 → 2 ≤ tkK (tkJ T n (j1 + 1)) → (cB = true → w = 0 ∧ (sJ s13 139 13) = Int64.ofInt (c27 0 nm)) → (cB = false → ((sJ s13 139 14)).toInt32 = nI w) → P195 s13 := by
            intro w nm hps hk2 hk2' hcn hcv
            rw [hps] at Hok Herr
            dsimp only at Hok Herr
            apply hP195
            rw [G13.1, nI_ix (by omega)]
            refine ⟨nI_inU (by omega) (by omega), ?_⟩
            intro s17 e17
            have g17 : (sI s17 139 41) = nI gs.length := by subst e17; exact G13.1
            have o17 : (sI s17 158) gs.length = bI cB := by subst e17; exact v13.1
            rw [g17, nI_ix (by omega), o17]
            refine ⟨nI_inU (by omega) (by omega), ?_⟩
            intro P237 hP237
            have hw19 : P237 (nI w) := by
              apply hP237
              refine ⟨nI_inU (by omega) (by omega), ?_⟩
              intro s21 e21
              have FG21 : frM dG s s21 := by subst e21; subst e17; exact (FG13.wJ (by unfold dG; omega)).wI (by unfold dG; omega)
              have c21 : cuM s21 T n (j1 + 1) := c13.fr (fun i hi => by subst e21; subst e17; rw [sI_w, if_neg (by omega), sI_wJ]) (fun i hi => by subst e21; subst e17; rw [sJ_wI, sJ_w, if_neg (by omega)])
              have G21 : gdM s21 gs := G13.fr (by subst e21; subst e17; rfl) (fun a i ha hi => by subst e21; subst e17; rw [sI_w, if_neg (by omega), sI_wJ]) (fun i hi => by subst e21; subst e17; rw [sJ_wI, sJ_w, if_neg (by omega)])
              have L21 : lkM s21 L := L13.fr (by subst e21; subst e17; rfl) (fun i hi => by subst e21; subst e17; rw [sI_w, if_neg (by omega), sI_wJ])
              have v21 : (sI s21 158) gs.length = bI cB ∧ (sI s21 163) gs.length = bI (k % 2 == 1) ∧ (sI s21 159) gs.length = nI w ∧ (sJ s21 160) gs.length = (sJ s13 139 13) := by
                subst e21; subst e17; refine ⟨?_, ?_, ?_, ?_⟩
                · rw [sI_w, if_neg (by omega), sI_wJ]; exact v13.1
                · rw [sI_w, if_neg (by omega), sI_wJ]; exact v13.2
                · rw [sI_w, if_pos ⟨rfl, rfl⟩]
                · rw [sJ_wI, sJ_w, if_pos ⟨rfl, rfl⟩]
              clear e21 e17 hP237 hP195
              rw [G21.1, nI_ix (by omega), v21.1]
              refine ⟨nI_inU (by omega) (by omega), ?_⟩
              intro P256 hP256
              have h256 : P256 (nI (if cB then 0 else 2)) := by
                apply hP256
                refine k_look L21 hL c21.2.1 (fun s24 L24 f24 fJ24 fR24 => ?_)
                have FG24 : frM dG s s24 := FG21.trans ⟨fun a i hd => f24 a i (by unfold dG at hd; omega) (by unfold dG at hd; omega), fun a i _ => fJ24 a i, fR24⟩
                have c24 : cuM s24 T n (j1 + 1) := c21.fr (fun i hi => f24 _ _ (by omega) (by omega)) (fun i hi => fJ24 _ _)
                have G24 : gdM s24 gs := G21.fr (f24 _ _ (by omega) (by omega)) (fun a i ha hi => f24 _ _ (by omega) (by omega)) (fun i hi => fJ24 _ _)
                have v24 : (sI s24 158) gs.length = bI cB ∧ (sI s24 163) gs.length = bI (k % 2 == 1) ∧ (sI s24 159) gs.length = nI w ∧ (sJ s24 160) gs.length = (sJ s13 139 13) := by
                  rw [f24 _ _ (by omega) (by omega), f24 _ _ (by omega) (by omega), f24 _ _ (by omega) (by omega), fJ24]; exact v21
                clear f24 fJ24 fR24 v21 G21 c21 FG21 L21 hP256
                refine k_nextJ (h.gf FG24) c24 hk2 (fun s25 F25 c25 => ?_)
                have FG25 := FG24.trans (F25.fr dG_nx)
                have G25 := G24.nx F25
                have L25 := L24.nx F25
                have v25 : (sI s25 158) gs.length = bI cB ∧ (sI s25 163) gs.length = bI (k % 2 == 1) ∧ (sI s25 159) gs.length = nI w ∧ (sJ s25 160) gs.length = (sJ s13 139 13) := by
                  rw [F25.a _ _ (by omega), F25.a _ _ (by omega), F25.a _ _ (by omega), F25.aJ _ _ (by omega)]; exact v24
                have tx25 := h.gf FG25
                have ho3 := ho2.s hk2'
                clear v24 G24 L24 c24 FG24
                refine k_isWord c25 (by omega) (fun r26 hr26b hr26 => ?_)
                intro P304 hP304
                by_cases hk3 : tkK (tkJ T n (j1 + 1 + 1)) = 1
                · have he : pHow (tkJ T n) (j1 + 2) = .error (pRef (tkJ T n (j1 + 2))) := by
                    unfold pHow; rw [if_neg (by unfold isW; simp [hk3]), if_neg (by unfold isW; simp [hk3]), if_neg (by unfold isW; simp [hk3])]
                  rw [he] at Herr
                  have hQ : ∀ y, P304 y := fun y => hP304 y (k_mustE (c25.bad hk3) ⟨fun hh => absurd rfl hh, fun _ => Herr _ rfl _ FG25 (c25.bad hk3)⟩)
                  exact ⟨fun _ => hQ _, fun _ => k_isWordE (fun r _ => ⟨fun _ => hQ _, fun _ => k_isWordE (fun r _ => ⟨fun _ => hQ _, fun _ => hQ _⟩)⟩)⟩
                have hr26 := hr26 hk3
                have hno : isW (tkJ T n (j1 + 2)) 9 = false → isW (tkJ T n (j1 + 2)) 10 = false → isW (tkJ T n (j1 + 2)) 11 = false → P304 0 := by
                  intro h1 h2 h3
                  have he : pHow (tkJ T n) (j1 + 2) = .error (pRef (tkJ T n (j1 + 2))) := by
                    unfold pHow; rw [if_neg (by simp [h1]), if_neg (by simp [h2]), if_neg (by simp [h3])]
                  rw [he] at Herr
                  apply hP304
                  exact k_mustJ tx25 c25 (fun hh => absurd rfl hh) (fun _ s' F' e' => ⟨fun hh => absurd rfl hh, fun _ => Herr _ rfl s' (FG25.trans (F'.fr dG_nx)) e'⟩)
                have hyes : ∀ hw : Nat, pHow (tkJ T n) (j1 + 2) = .ok hw → hw = (if isW (tkJ T n (j1 + 2)) 9 = true then 0 else if isW (tkJ T n (j1 + 2)) 10 = true then 1 else 2) → tkK (tkJ T n (j1 + 2)) = 6 → P304 1 := by
                  intro hw hph hwe h6
                  rw [hph] at Hok Herr
                  dsimp only at Hok Herr
                  have ho4 := ho3.s (by show 2 ≤ tkK (tkJ T n (j1 + 2)); omega)
                  apply hP304
                  refine k_mustJ tx25 c25 (fun _ _ => ⟨fun _ => ?_, fun hh => absurd hh (by decide)⟩) (fun hh => hh.elim (fun hh => absurd hh (by decide)) (fun hh => absurd hh hk3))
                  refine k_isWord c25 (by omega) (fun r30 _ hr30 => ?_)
                  have hr30 := hr30 hk3
                  intro P348 hP348
                  have h348 : P348 (nI hw) := by
                    apply hP348
                    rw [G25.1, nI_ix (by omega)]
                    refine ⟨nI_inU (by omega) (by omega), ?_⟩
                    intro s33 e33
                    have FG33 : frM dG s s33 := by subst e33; exact FG25.wI (by unfold dG; omega)
                    have c33 : cuM s33 T n (j1 + 1 + 1) := c25.fr (fun i hi => by subst e33; rw [sI_w, if_neg (by omega)]) (fun i hi => by subst e33; rfl)
                    have G33 : gdM s33 gs := G25.fr (by subst e33; rfl) (fun a i ha hi => by subst e33; rw [sI_w, if_neg (by omega)]) (fun i hi => by subst e33; rfl)
                    have L33 : lkM s33 (L ++ [(if cB then 0 else 2, gs.length, call, tkP (tkJ T n (j1 + 1)))]) := L25.fr (by subst e33; rfl) (fun i hi => by subst e33; rw [sI_w, if_neg (by omega)])
                    have v33 : (sI s33 158) gs.length = bI cB ∧ (sI s33 163) gs.length = bI (k % 2 == 1) ∧ (sI s33 159) gs.length = nI w ∧ (sJ s33 160) gs.length = (sJ s13 139 13) ∧ (sI s33 161) gs.length = nI hw := by
                      subst e33; rw [sI_w, if_neg (by omega), sI_w, if_neg (by omega), sI_w, if_neg (by omega), sJ_wI, sI_w, if_pos ⟨rfl, rfl⟩]
                      exact ⟨v25.1, v25.2.1, v25.2.2.1, v25.2.2.2, rfl⟩
                    clear e33 hP348 hP304 hno v25 G25 L25
                    refine k_nextJ (h.gf FG33) c33 hk3 (fun s34 F34 c34 => ?_)
                    have FG34 := FG33.trans (F34.fr dG_nx)
                    have G34 := G33.nx F34
                    have L34 := L33.nx F34
                    have v34 : (sI s34 158) gs.length = bI cB ∧ (sI s34 163) gs.length = bI (k % 2 == 1) ∧ (sI s34 159) gs.length = nI w ∧ (sJ s34 160) gs.length = (sJ s13 139 13) ∧ (sI s34 161) gs.length = nI hw := by
                      rw [F34.a _ _ (by omega), F34.a _ _ (by omega), F34.a _ _ (by omega), F34.aJ _ _ (by omega), F34.a _ _ (by omega)]; exact v33
                    have tx34 := h.gf FG34
                    intro P367 hP367
                    by_cases hk4 : tkK (tkJ T n (j1 + 1 + 1 + 1)) = 1
                    · have he : pNum (tkJ T n) (j1 + 3) = .error (pRef (tkJ T n (j1 + 3))) := by
                        unfold pNum; rw [if_neg (by rw [hk4]; omega)]
                      rw [he] at Herr
                      have hQ : ∀ y, P367 y := fun y => hP367 y (k_mustE (c34.bad hk4) ⟨fun hh => absurd rfl hh, fun _ => Herr _ rfl _ FG34 (c34.bad hk4)⟩)
                      exact ⟨fun _ => hQ _, fun _ => hQ _⟩
                    rw [c34.t3 hk4]
                    refine ⟨fun h3 => hP367 _ ?_, fun h3 => hP367 _ ?_⟩
                    · have he : pNum (tkJ T n) (j1 + 3) = .error (pRef (tkJ T n (j1 + 3))) := by
                        unfold pNum; rw [if_neg h3]
                      rw [he] at Herr
                      exact k_mustJ tx34 c34 (fun hh => absurd rfl hh) (fun _ s' F' e' => ⟨fun hh => absurd rfl hh, fun _ => Herr _ rfl s' (FG34.trans (F'.fr dG_nx)) e'⟩)
                    · have he : pNum (tkJ T n) (j1 + 3) = .ok (tkV (tkJ T n (j1 + 3))) := by
                        unfold pNum; rw [if_pos h3]
                      rw [he] at Hok Herr
                      dsimp only at Hok Herr
                      have h4 := (c34.2.2.2.2.2.2.2.1 h3).2
                      have hvb := (tkJ_cases T n (j1 + 3)).2.2.2.2.2.2.2.1 h3
                      have ho5 := ho4.s (by show 2 ≤ tkK (tkJ T n (j1 + 3)); have : tkK (tkJ T n (j1 + 3)) = 4 := h3; omega)
                      refine k_mustJ tx34 c34 (fun _ _ => ⟨fun _ => ?_, fun hh => absurd hh (by decide)⟩) (fun hh => hh.elim (fun hh => absurd hh (by decide)) (fun hh => absurd hh hk4))
                      rw [G34.1, nI_ix (by omega), h4, oI32 hvb.1 hvb.2]
                      refine ⟨nI_inU (by omega) (by omega), ?_⟩
                      intro s39 e39 s40 e40
                      have g39 : (sI s39 139 41) = nI gs.length := by subst e39; exact G34.1
                      rw [g39, nI_s] at e40
                      have FG40 : frM dG s s40 := by subst e40; subst e39; exact (FG34.wI (by unfold dG; omega)).wI (by unfold dG; omega)
                      have c40 : cuM s40 T n (j1 + 1 + 1 + 1) := c34.fr (fun i hi => by subst e40; subst e39; rw [sI_w, if_neg (by omega), sI_w, if_neg (by omega)]) (fun i hi => by subst e40; subst e39; rfl)
                      have G40 : gdM s40 (gs ++ [(cB, w, nm, tkP (tkJ T n (j1 + 1)), hw, tkV (tkJ T n (j1 + 3)), k % 2 == 1)]) := by
                        refine ⟨?_, fun g hgl2 => ?_⟩
                        · subst e40; rw [sI_w, if_pos ⟨rfl, rfl⟩, List.length_append]; rfl
                        · rw [List.length_append] at hgl2
                          have hgl2 : g < gs.length + 1 := hgl2
                          by_cases cg : g = gs.length
                          · subst cg
                            rw [List.getElem_append_right (by omega)]
                            simp only [Nat.sub_self, List.getElem_cons_zero]
                            unfold gd1 gC gW gH gV gO gN'
                            subst e40; subst e39
                            dsimp only
                            simp only [sI_w, sJ_wI]
                            simp
                            refine ⟨v34.1, v34.2.2.1, v34.2.2.2.2, v34.2.1, fun hct => ?_⟩
                            rw [v34.2.2.2.1]; exact (hcn hct).2
                          · have := G34.2 g (by omega)
                            rw [List.getElem_append_left (by omega)]
                            unfold gd1 at this ⊢
                            subst e40; subst e39
                            simp only [sI_w, sJ_wI]
                            rw [if_neg (by omega), if_neg (by omega), if_neg (by omega), if_neg (by omega), if_neg (by omega), if_neg (by omega), if_neg (by omega), if_neg (by omega), if_neg (by omega), if_neg (by omega)]
                            exact this
                      have L40 : lkM s40 (L ++ [(if cB then 0 else 2, gs.length, call, tkP (tkJ T n (j1 + 1)))]) := L34.fr (by subst e40; subst e39; rfl) (fun i hi => by subst e40; subst e39; rw [sI_w, if_neg (by omega), sI_w, if_neg (by omega)])
                      clear e40 e39 hP367
                      refine k_nextJ (h.gf FG40) c40 hk4 (fun s41 F41 c41 => ?_)
                      have FG41 := FG40.trans (F41.fr dG_nx)
                      have G41 := G40.nx F41
                      have L41 := L40.nx F41
                      intro P404 hP404
                      have hEr : ∀ (m x : Nat) (s43 : yS) (e : Nat × Nat), x + m = k + 1 → frM dG s s43 → erM s43 n e → pClose (tkJ T n) (k + 1) (j1 + 4) = .error e → P404 (nI x) s43 := by
                        intro m
                        induction m with
                        | zero =>
                          intro x s43 e hx F43 e43 hp
                          apply hP404
                          rw [nI_ltU (by omega) (by omega)]
                          refine ⟨fun _ => Herr e (by rw [hp]) s43 F43 e43, fun hh => absurd (by omega) hh⟩
                        | succ m ih =>
                          intro x s43 e hx F43 e43 hp
                          apply hP404
                          rw [nI_ltU (by omega) (by omega)]
                          refine ⟨fun hh => absurd hh (by omega), fun _ => k_expectE e43 ?_⟩
                          intro x45 e45; subst e45; rw [nI_s]
                          exact ih (x + 1) s43 e (by omega) F43 e43 hp
                      have hCl : ∀ (m x jj : Nat) (s43 : yS), x + m = k + 1 → nxF s41 s43 → cuM s43 T n jj → okJ T n jj → pClose (tkJ T n) (k + 1) (j1 + 4) = pClose (tkJ T n) m jj → P404 (nI x) s43 := by
                        intro m
                        induction m with
                        | zero =>
                          intro x jj s43 hx F43 c43 o43 hp
                          apply hP404
                          rw [nI_ltU (by omega) (by omega)]
                          refine ⟨fun _ => ?_, fun hh => absurd (by omega) hh⟩
                          refine Hok (cB, w, nm, tkP (tkJ T n (j1 + 1)), hw, tkV (tkJ T n (j1 + 3)), k % 2 == 1) jj (by rw [hp]; rfl) o43 s43 (FG41.trans (F43.fr dG_nx)) c43 (G41.nx F43) (L41.nx F43)
                        | succ m ih =>
                          intro x jj s43 hx F43 c43 o43 hp
                          apply hP404
                          rw [nI_ltU (by omega) (by omega)]
                          refine ⟨fun hh => absurd hh (by omega), fun _ => ?_⟩
                          refine k_expect (F43.txM (h.gf FG41)) c43 (Or.inr ⟨rfl, rfl⟩) (fun h3 s44 F44 c44 => ?_) (fun h3 s44 F44 e44 => ?_)
                          · intro x45 e45; subst e45; rw [nI_s]
                            refine ih (x + 1) (jj + 1) s44 (by omega) (F43.trans F44) c44 (o43.s (by omega)) ?_
                            rw [hp, pClose, if_pos h3]
                          · intro x45 e45; subst e45; rw [nI_s]
                            refine hEr m (x + 1) s44 _ (by omega) (FG41.trans ((F43.trans F44).fr dG_nx)) e44 ?_
                            rw [hp, pClose, if_neg h3]
                      exact hCl (k + 1) 0 (j1 + 4) s41 (by omega) nxF.rfl' c41 ho5 rfl
                  refine ⟨fun hz => ?_, fun hz => ?_⟩
                  · have h9 : isW (tkJ T n (j1 + 2)) 9 = false := by rw [hr30] at hz; exact if0 hz
                    refine k_isWord c25 (by omega) (fun r46 _ hr46 => ?_)
                    have hr46 := hr46 hk3
                    refine ⟨fun hz2 => ?_, fun hz2 => ?_⟩
                    · have h10 : isW (tkJ T n (j1 + 2)) 10 = false := by rw [hr46] at hz2; exact if0 hz2
                      rw [if_neg (by simp [h9]), if_neg (by simp [h10])] at hwe
                      rw [← hwe]; exact h348
                    · have h10 : isW (tkJ T n (j1 + 2)) 10 = true := by rw [hr46] at hz2; exact if1 hz2
                      rw [if_neg (by simp [h9]), if_pos h10] at hwe
                      rw [nI_1U, ← hwe]; exact h348
                  · have h9 : isW (tkJ T n (j1 + 2)) 9 = true := by rw [hr30] at hz; exact if1 hz
                    rw [if_pos h9] at hwe
                    rw [nI_0U, ← hwe]; exact h348
                have isK : ∀ w, isW (tkJ T n (j1 + 2)) w = true → tkK (tkJ T n (j1 + 2)) = 6 := by
                  intro w hw; unfold isW at hw; simp at hw; exact hw.1
                refine ⟨fun hz => ?_, fun hz => ?_⟩
                · have h9 : isW (tkJ T n (j1 + 2)) 9 = true := by rw [hr26] at hz; exact if1 hz
                  exact hyes 0 (by unfold pHow; rw [if_pos h9]) (by rw [if_pos h9]) (isK _ h9)
                · have h9 : isW (tkJ T n (j1 + 2)) 9 = false := by rw [hr26] at hz; exact if0 hz
                  refine k_isWord c25 (by omega) (fun r47 _ hr47 => ?_)
                  have hr47 := hr47 hk3
                  refine ⟨fun hz2 => ?_, fun hz2 => ?_⟩
                  · have h10 : isW (tkJ T n (j1 + 2)) 10 = true := by rw [hr47] at hz2; exact if1 hz2
                    exact hyes 1 (by unfold pHow; rw [if_neg (by simp [h9]), if_pos h10]) (by rw [if_neg (by simp [h9]), if_pos h10]) (isK _ h10)
                  · have h10 : isW (tkJ T n (j1 + 2)) 10 = false := by rw [hr47] at hz2; exact if0 hz2
                    refine k_isWord c25 (by omega) (fun r48 _ hr48 => ?_)
                    have hr48 := hr48 hk3
                    refine ⟨fun hz3 => hno h9 h10 (by rw [hr48] at hz3; exact if0 hz3), fun hz3 => ?_⟩
                    have h11 : isW (tkJ T n (j1 + 2)) 11 = true := by rw [hr48] at hz3; exact if1 hz3
                    exact hyes 2 (by unfold pHow; rw [if_neg (by simp [h9]), if_neg (by simp [h10]), if_pos h11]) (by rw [if_neg (by simp [h9]), if_neg (by simp [h10])]) (isK _ h11)
              cases cB
              · exact ⟨fun _ => h256, fun hh => absurd rfl hh⟩
              · exact ⟨fun hh => absurd hh (by decide), fun _ => h256⟩
            have n17 : (sJ s17 139 14) = (sJ s13 139 14) := by subst e17; rfl
            cases cB
            · refine ⟨fun _ => ?_, fun hh => absurd rfl hh⟩
              rw [n17, hcv rfl]; exact hw19
            · refine ⟨fun hh => absurd hh (by decide), fun _ => ?_⟩
              rw [(hcn rfl).1] at hw19; exact hw19
          have hc2 := tkJ_cases T n (j1 + 1)
          dsimp only at hc2
          cases cB
          · refine ⟨fun _ => ?_, fun hh => absurd rfl hh⟩
            have h5 : isW (tkJ T n j1) 5 = true := by rw [h5c]; rfl
            intro P188 hP188
            have bad : ¬ (tkK (tkJ T n (j1 + 1)) = 4 ∧ 0 ≤ tkV (tkJ T n (j1 + 1)) ∧ tkV (tkJ T n (j1 + 1)) ≤ 2) → ∀ y, (y = 0 ∨ tkK (tkJ T n (j1 + 1)) = 1) → P188 y := by
              intro hb y hy
              have he : pSubj (tkJ T n) j1 = .error (pRef (tkJ T n (j1 + 1))) := by unfold pSubj; rw [if_pos h5, if_neg hb]
              rw [he] at Herr
              apply hP188
              refine k_mustJ tx13 c13 (fun h1 h2 => ?_) (fun _ s' F' e' => ⟨fun hh => absurd rfl hh, fun _ => Herr _ rfl s' (FG13.trans (F'.fr dG_nx)) e'⟩)
              rcases hy with hy | hy
              · exact absurd hy h1
              · exact absurd hy h2
            by_cases hk2 : tkK (tkJ T n (j1 + 1)) = 1
            · have hb := bad (by omega)
              exact ⟨fun _ => hb _ (Or.inr hk2), fun _ => ⟨fun _ => hb _ (Or.inr hk2), fun _ => ⟨fun _ => hb _ (Or.inr hk2), fun _ => hb _ (Or.inr hk2)⟩⟩⟩
            rw [c13.t3 hk2]
            refine ⟨fun h3 => bad (by omega) _ (Or.inl rfl), fun h3 => ?_⟩
            have h4 := (c13.2.2.2.2.2.2.2.1 h3).2
            have hvb := hc2.2.2.2.2.2.2.2.1 h3
            rw [h4, lgc_lt0, lgc_ge0, oJ_toInt (by omega) (by omega), show ((0 : Int64)).toInt = 0 from rfl, show ((3 : Int64)).toInt = 3 from rfl]
            refine ⟨fun hx => bad (by omega) _ (Or.inl rfl), fun hx => ⟨fun hy => bad (by omega) _ (Or.inl rfl), fun hy => hP188 _ ?_⟩⟩
            refine k_mustJ tx13 c13 (fun _ _ => ⟨fun _ => ?_, fun hh => absurd hh (by decide)⟩) (fun hh => hh.elim (fun hh => absurd hh (by decide)) (fun hh => absurd hh hk2))
            refine h195 (tkV (tkJ T n (j1 + 1))).toNat [] (by unfold pSubj; rw [if_pos h5, if_pos (by omega)]) hk2 (by omega) (fun hh => absurd hh (by decide)) (fun _ => ?_)
            rw [h4, oI32 (by omega) (by omega), ← oI_nat]; congr 1; omega
          · refine ⟨fun hh => absurd hh (by decide), fun _ => ?_⟩
            have h5 : isW (tkJ T n j1) 5 = false := by rw [h5c]; rfl
            intro P145 hP145
            have bad : ¬ tkK (tkJ T n (j1 + 1)) = 5 → ∀ y, (y = 0 ∨ tkK (tkJ T n (j1 + 1)) = 1) → P145 y := by
              intro hb y hy
              have he : pSubj (tkJ T n) j1 = .error (pRef (tkJ T n (j1 + 1))) := by unfold pSubj; rw [if_neg (by simp [h5]), if_pos hcB, if_neg hb]
              rw [he] at Herr
              apply hP145
              refine k_mustJ tx13 c13 (fun h1 h2 => ?_) (fun _ s' F' e' => ⟨fun hh => absurd rfl hh, fun _ => Herr _ rfl s' (FG13.trans (F'.fr dG_nx)) e'⟩)
              rcases hy with hy | hy
              · exact absurd hy h1
              · exact absurd hy h2
            by_cases hk2 : tkK (tkJ T n (j1 + 1)) = 1
            · have hb := bad (by omega)
              exact ⟨fun _ => hb _ (Or.inr hk2), fun _ => k_isReserved c13 (fun r _ _ => ⟨fun _ => hb _ (Or.inr hk2), fun _ => hb _ (Or.inr hk2)⟩)⟩
            rw [c13.t2 hk2]
            refine ⟨fun h3 => bad (by omega) _ (Or.inl rfl), fun h3 => ?_⟩
            refine k_isReserved c13 (fun r _ hr => ?_)
            have hr := hr hk2
            refine ⟨fun hz => bad ?_ _ (Or.inl rfl), fun hz => hP145 _ ?_⟩
            · intro h5'; rw [if_neg (by omega)] at hr; exact hz hr
            · have h5' : tkK (tkJ T n (j1 + 1)) = 5 := by
                rcases h3 with h3 | h3
                · exact h3
                · rw [if_pos h3] at hr; rw [hr] at hz; exact absurd hz (by decide)
              refine k_mustJ tx13 c13 (fun _ _ => ⟨fun _ => ?_, fun hh => absurd hh (by decide)⟩) (fun hh => hh.elim (fun hh => absurd hh (by decide)) (fun hh => absurd hh hk2))
              exact h195 0 (tkN (tkJ T n (j1 + 1))) (by unfold pSubj; rw [if_neg (by simp [h5]), if_pos hcB, if_pos h5']) hk2 (by omega) (fun _ => ⟨rfl, (c13.2.2.2.2.2.2.2.2 (Or.inl h5')).2⟩) (fun hh => absurd hh (by decide))
        rw [nI_mod (by omega) (by omega), nI_1U, nI_inj (by omega) (by omega)]
        by_cases hm : k % 2 = 1
        · refine ⟨fun hh => absurd hm hh, fun _ => ?_⟩
          rw [show (k % 2 == 1) = true by simp [hm]] at hnot; exact hnot
        · refine ⟨fun _ => ?_, fun hh => absurd hh hm⟩
          rw [show (k % 2 == 1) = false by simp [hm]] at hnot; exact hnot
      refine ⟨fun hz => hs1 (Or.inl (by rw [hr3] at hz; exact if1 hz)), fun hz => ?_⟩
      refine k_isWord c2 (by omega) (fun r56 _ hr56 => ?_)
      have hr56 := hr56 hk1
      exact ⟨fun hz2 => hs0 (by rw [hr3] at hz; exact if0 hz) (by rw [hr56] at hz2; exact if0 hz2), fun hz2 => hs1 (Or.inr (by rw [hr56] at hz2; exact if1 hz2))⟩
end
