section
variable {s : yS} {B : Nat → Nat} {nb g : Nat}
theorem fnC.fr {s' : yS} {f : Nat} {x : Fn} (h : fnC s g f x) (h1 : ∀ a, g + 1 ≤ a → a ≤ g + 6 → sI s' a f = sI s a f) (h2 : ∀ a i, a = g + 7 ∨ a = g + 8 ∨ a = g + 11 → i < (fC x).length → sI s' a (f * 400 + i) = sI s a (f * 400 + i)) (h3 : ∀ a i, g + 13 ≤ a → a ≤ g + 17 → i < (fH x).length → sI s' a (f * 6 + i) = sI s a (f * 6 + i)) : fnC s' g f x := by
  obtain ⟨q1, q2, q3, q4, q5, q6, q7, q8, q9⟩ := h
  exact ⟨(h1 _ (by omega) (by omega)).trans q1, (h1 _ (by omega) (by omega)).trans q2, (h1 _ (by omega) (by omega)).trans q3, (h1 _ (by omega) (by omega)).trans q4, (h1 _ (by omega) (by omega)).trans q5, (h1 _ (by omega) (by omega)).trans q6, fun i hi => ⟨(h2 _ _ (by omega) hi).trans (q7 i hi).1, (h2 _ _ (by omega) hi).trans (q7 i hi).2⟩, fun i hi => (q8 i hi).fr (fun a ha hb => h3 a i ha hb hi), fun i hi => (h2 _ _ (by omega) hi).trans (q9 i hi)⟩
theorem beg_bC {k : Nat} (hk : k < 3) : ∃ b, b < 256 ∧ g_beg.getD k 0 = bC b ∧ g_beg.getD k 0 = nI b := by
  have : ∀ k ∈ List.range 3, g_beg.getD k 0 = bC ([71, 70, 1].getD k 0) ∧ g_beg.getD k 0 = nI ([71, 70, 1].getD k 0) ∧ [71, 70, 1].getD k 0 < 256 := by decide
  have h := this k (List.mem_range.mpr hk)
  exact ⟨_, h.2.2, h.1, h.2.1⟩
theorem c_readBegin {Q : Int32 → yS → Prop} (h : txC s B nb) (hr : sR s 113 2 = 2) (hc : (sI s 113 3) = nI nb)
    (Hok : bdB B nb 3 0 = .ok () → 3 ≤ nb → ∀ s', s' = wI s 113 4 (nI 3) → Q 1 s')
    (Herr : ∀ e, bdB B nb 3 0 = .error e → ∀ s', frM dTe s s' → rbC2 s' e → Q 0 s') : W_X6_readBegin s Q := by
  have hnb := h.1
  generalize hR : bdB B nb 3 0 = R at Hok Herr
  unfold W_X6_readBegin
  intro P2 hP2
  suffices hL : ∀ (r k : Nat), k + r = 3 → k ≤ nb → R = bdB B nb r k → P2 (nI k) from hL 3 0 (by omega) (by omega) hR.symm
  intro r
  induction r with
  | zero =>
    intro k hk hkn RR
    have hk3 : k = 3 := by omega
    subst hk3
    apply hP2
    rw [nI_leU (by omega) (by omega)]
    refine ⟨fun _ => ?_, fun hh => absurd (by omega) hh⟩
    intro s2 e2
    exact Hok RR (by omega) s2 e2
  | succ r ih =>
    intro k hk hkn RR
    rw [bdB] at RR
    apply hP2
    rw [nI_leU (by omega) (by omega), hc, nI_ltU (by omega) (by omega)]
    refine ⟨fun hh => absurd hh (by omega), fun _ => ⟨fun hlt => ⟨1, hr, rfl, nI_inU (by omega) (by omega), nI_inU (by omega) (by omega), ?_⟩, fun hge => ?_⟩⟩
    · rw [if_neg (by omega)] at RR
      rw [nI_ix (n := k) (by omega), h.2.1 k hlt]
      obtain ⟨b, hb, e1, e2⟩ := beg_bC (k := k) (by omega)
      have hBk := h.2.2 k
      refine ⟨fun he => ?_, fun hne => ?_⟩
      · intro x6 e6; subst e6; rw [nI_s]
        rw [e1] at he
        have hbk := bC_inj hBk hb he
        rw [if_pos (by rw [e2, hbk])] at RR
        exact ih (k + 1) (by omega) (by omega) RR
      · refine c_refuseN (v1 := 2) (fun s8 F8 b8 => ⟨Or.inl rfl, Herr (2, k) ?_ s8 F8 b8⟩)
        rw [RR, if_neg]
        intro hh
        rw [e2, nI_inj (by omega) (by omega)] at hh
        exact hne (by rw [e1, hh])
    · refine c_refuseN (v1 := 1) (fun s8 F8 b8 => ⟨Or.inl rfl, Herr (1, nb) ?_ s8 F8 b8⟩)
      rw [RR, if_pos (by omega)]
def dRd (g a i : Nat) : Prop := (a = 113 ∧ i ≤ 5) ∨ (a = g ∧ (i = 0 ∨ i = 13)) ∨ (g + 1 ≤ a ∧ a ≤ g + 17 ∧ a ≠ g + 9 ∧ a ≠ g + 10 ∧ a ≠ g + 12)
def frD (g : Nat) (s s' : yS) : Prop := (∀ a i, ¬ dRd g a i → sI s' a i = sI s a i) ∧ (∀ a i, ¬ dRd g a i → sJ s' a i = sJ s a i) ∧ ∀ a i, ¬ (a = 113 ∧ (i = 2 ∨ i = 6)) → sR s' a i = sR s a i
theorem c_read {Q : Int32 → yS → Prop} (hg : gOK g) (h : txC s B nb)
    (Hok : ∀ l, bdP B nb = .ok l → pgOK l → ∀ s', frD g s s' → pgC s' g l → sI s' g 13 = 0 → (sI s' 113 0) = -1 → Q 0 s')
    (Herr : ∀ e, bdP B nb = .error e → 1 ≤ e.1 → e.1 ≤ 8 → ∀ s', frD g s s' → sI s' g 13 = 0 → (sI s' 113 0) = nI e.2 → Q (nI e.1) s') : W_X6_read s 1 8192 (nI nb) g Q := by
  have hgv : g = 37 ∨ g = 55 ∨ g = 73 := hg
  have hnb := h.1
  have hok := fun l => bdP_ok (B := B) (nb := nb) (l := l) hnb
  have herr := fun e => bdP_err (B := B) (nb := nb) (e := e)
  have hres := bdP_bnd (B := B) (nb := nb)
  generalize bdP B nb = R at hres Hok Herr hok herr
  unfold W_X6_read
  intro s1 e1 s2 e2 s3 e3 s4 e4 s5 e5
  have r5 : sR s5 113 2 = 2 ∧ sR s5 113 6 = g + 1 := by
    refine ⟨?_, ?_⟩
    · subst e5; rw [sR_w, if_neg (by omega)]; subst e4; subst e3; subst e2; subst e1; show sR (wR s 113 2 (1 + 1)) 113 2 = 2; rw [sR_w, if_pos ⟨rfl, rfl⟩]
    · subst e5; rw [sR_w, if_pos ⟨rfl, rfl⟩]
  refine ⟨g, r5.2, hg.kd, ?_⟩
  unfold W_X5_empty
  intro u1 g1 u2 g2
  have F7 : ∀ a i, ¬ (a = 113 ∧ (i = 0 ∨ i = 1 ∨ i = 3)) → ¬ (a = g ∧ (i = 0 ∨ i = 13)) → sI u2 a i = sI s a i := fun a i h1 h2 => by
    subst g2; rw [sI_w, if_neg (by omega)]; subst g1; rw [sI_w, if_neg (by omega)]; subst e5
    show sI s4 a i = _
    subst e4; rw [sI_w, if_neg (by omega)]; subst e3; rw [sI_w, if_neg (by omega)]; subst e2; rw [sI_w, if_neg (by omega)]; subst e1; rfl
  have J7 : ∀ a i, sJ u2 a i = sJ s a i := fun a i => by subst g2; subst g1; subst e5; subst e4; subst e3; subst e2; subst e1; rfl
  have K7 : ∀ a i, sR u2 a i = sR s5 a i := fun a i => by subst g2; subst g1; rfl
  have K7' : ∀ a i, ¬ (a = 113 ∧ (i = 2 ∨ i = 6)) → sR u2 a i = sR s a i := fun a i h1 => by
    rw [K7]; subst e5; rw [sR_w, if_neg (by omega)]; subst e4; subst e3; subst e2; subst e1; show sR (wR s 113 2 (1 + 1)) a i = _; rw [sR_w, if_neg (by omega)]
  have c7 : sI u2 113 3 = nI nb := by
    subst g2; rw [sI_w, if_neg (by omega)]; subst g1; rw [sI_w, if_neg (by omega)]; subst e5
    show sI s4 113 3 = _
    subst e4; rw [sI_w, if_neg (by omega)]; subst e3; rw [sI_w, if_neg (by omega)]; subst e2; rw [sI_w, if_pos ⟨rfl, rfl⟩]
  have z7 : sI u2 113 1 = 0 ∧ sI u2 113 0 = -1 := by
    refine ⟨?_, ?_⟩
    · subst g2; rw [sI_w, if_neg (by omega)]; subst g1; rw [sI_w, if_neg (by omega)]; subst e5
      show sI s4 113 1 = _
      subst e4; rw [sI_w, if_neg (by omega)]; subst e3; rw [sI_w, if_pos ⟨rfl, rfl⟩]
    · subst g2; rw [sI_w, if_neg (by omega)]; subst g1; rw [sI_w, if_neg (by omega)]; subst e5
      show sI s4 113 0 = _
      subst e4; rw [sI_w, if_pos ⟨rfl, rfl⟩]
  have m7 : sI u2 g 13 = 0 := by subst g2; rw [sI_w, if_pos ⟨rfl, rfl⟩]
  have x7 : txC u2 B nb := h.fr (fun k => F7 _ _ (by omega) (by omega))
  have r7 : sR u2 113 2 = 2 ∧ sR u2 113 6 = g + 1 := ⟨(K7 _ _).trans r5.1, (K7 _ _).trans r5.2⟩
  clear g2 g1 e5 e4 e3 e2 e1 r5
  -- a fault ends it
  have bad : ∀ (e : Nat × Nat) (D : Nat → Nat → Prop) (s9 : yS), R = .error e → frM D u2 s9 → (∀ a i, D a i → dRd g a i ∧ ¬ (a = g ∧ i = 13)) → rbC2 s9 e → Q (sI s9 113 1) s9 := by
    intro e D s9 he F9 hD b9
    have heb := herr e he
    rw [b9.1]
    refine Herr e he heb.1 heb.2 s9 ⟨fun a i hn => ?_, fun a i hn => (F9.2.1 a i (fun hd => hn (hD a i hd).1)).trans (J7 a i), fun a i hn => (F9.2.2 a i).trans (K7' a i hn)⟩ ?_ b9.2
    · rw [F9.1 a i (fun hd => hn (hD a i hd).1)]
      exact F7 a i (fun hh => hn (by unfold dRd; omega)) (fun hh => hn (by unfold dRd; omega))
    · rw [F9.1 g 13 (fun hd => (hD g 13 hd).2 ⟨rfl, rfl⟩)]; exact m7
  refine c_readBegin x7 r7.1 c7 (fun hb h3 s9 e9 => ?_) (fun e he s9 F9 b9 => ⟨fun _ => ?_, fun hh => absurd rfl hh⟩)
  · rw [hb] at hres
    have hres : R = bnd (bdN B nb 1 1 (nI 12) 3) (fun a => bnd (bdFs B nb (ix a) (ix a) [] 4) (fun x => if x.2 < nb then .error (4, x.2) else .ok x.1)) := hres
    have F9 : frM dTk u2 s9 := by subst e9; exact frM.rfl'.wI (by unfold dTk; omega)
    have g9 : rgC s9 B nb g 3 := ⟨x7.fr (fun k => F9.1 _ _ (by unfold dTk; omega)), (F9.2.2 _ _).trans r7.1, (F9.1 _ _ (by unfold dTk; omega)).trans c7, by subst e9; rw [sI_w, if_pos ⟨rfl, rfl⟩], h3, (F9.2.2 _ _).trans r7.2⟩
    clear e9
    refine ⟨fun hh => absurd hh (by decide), fun _ => ?_⟩
    refine c_takeN (w := 1) (lo := 1) (by omega) g9 (fun va hva s11 F11 g11 t11 => ?_) (fun e he s11 F11 b11 => ⟨fun hh => absurd rfl hh, fun _ => ?_⟩)
    · rw [hva] at hres
      have hres : R = bnd (bdFs B nb (ix va) (ix va) [] 4) (fun x => if x.2 < nb then .error (4, x.2) else .ok x.1) := hres
      have han := bdN_nat (lo := 1) (hi := 12) (by omega) (by omega) hva
      obtain ⟨n, en, hn1, hn2⟩ : ∃ n, va = nI n ∧ 1 ≤ n ∧ n ≤ 12 := ⟨ix va, han.1, han.2.1, han.2.2⟩
      subst en
      rw [nI_ix (by omega)] at hres
      refine ⟨fun _ => ⟨g, g11.2.2.2.2.2, hg.kd, ?_⟩, fun hh => absurd hh (by decide)⟩
      rw [t11]
      intro s13 e13
      have F13 : frM (fun a i => dTk a i ∨ (a = g ∧ i = 0)) u2 s13 := by subst e13; exact ((F9.trans F11).mono (fun a i h => Or.inl h)).wI (Or.inr ⟨rfl, rfl⟩)
      have g13 : rgC s13 B nb g 4 := g11.fr (fun a i ha => by subst e13; rw [sI_w, if_neg (by omega)]) (fun i => by subst e13; rfl)
      have v13 : sI s13 g 0 = nI n := by subst e13; rw [sI_w, if_pos ⟨rfl, rfl⟩]
      clear e13 g11 t11 g9 F9 F11
      intro P72 hP72
      -- all that reading a program may change
      have toD : ∀ f, f < 12 → ∀ a i, (dTe a i ∨ dTk a i ∨ (a = g ∧ i = 0) ∨ dHe g f a i ∨ dCd g f a i ∨ dHs g f a i) → dRd g a i ∧ ¬ (a = g ∧ i = 13) := by
        intro f hf a i hh
        unfold dTe dTk dHe dCd dHs dTg dTk at hh
        unfold dRd
        omega
      have badL : ∀ (e : Nat × Nat) (D : Nat → Nat → Prop) (x15 : Int32) (s16 : yS), R = .error e → frM D u2 s16 → (∀ a i, D a i → dRd g a i ∧ ¬ (a = g ∧ i = 13)) → rbC2 s16 e → P72 0 x15 s16 := by
        intro e D x15 s16 he F16 hD b16
        apply hP72
        intro P129 hP129
        have : P129 := hP129 ⟨fun _ => bad e D s16 he F16 hD b16, fun hz => absurd rfl hz⟩
        exact ⟨fun _ => this, fun hz => absurd rfl hz⟩
      suffices hL : ∀ (q f : Nat) (lst : List Fn) (jj : Nat) (s16 : yS), f + q = n → lst.length = f → frM (fun a i => dRd g a i ∧ ¬ (a = g ∧ i = 13) ∧ ¬ (a = 113 ∧ (i = 0 ∨ i = 1))) u2 s16 → rgC s16 B nb g jj → sI s16 g 0 = nI n → fsOK n lst → (∀ (k : Nat) (h : k < lst.length), fnC s16 g k lst[k]) → R = bnd (bdFs B nb n q lst jj) (fun x => if x.2 < nb then .error (4, x.2) else .ok x.1) → P72 1 (nI f) s16 from
        hL n 0 [] 4 s13 (by omega) rfl (F13.mono (fun a i h => by unfold dTk at h; unfold dRd; omega)) g13 v13 (fun f hf => by simp at hf) (fun k hk => by simp at hk) hres
      intro q
      induction q with
      | zero =>
        intro f lst jj s16 hf hll F16 g16 v16 ok16 m16 RRi
        have RRe : R = if jj < nb then .error (4, jj) else .ok lst := RRi
        apply hP72
        intro P129 hP129
        have : P129 := by
          apply hP129
          refine ⟨fun hz => absurd hz (by decide), fun _ => ?_⟩
          have hj := g16.2.2.2.2.1
          rw [g16.2.2.1, g16.2.2.2.1, nI_leU (by omega) (by omega)]
          refine ⟨fun hle => ?_, fun hlt => ?_⟩
          · rw [if_neg (by omega)] at RRe
            have z16 : sI s16 113 1 = 0 := (F16.1 _ _ (by unfold dRd; omega)).trans z7.1
            rw [z16]
            refine Hok lst RRe (hok lst RRe) s16 ⟨fun a i hn => ?_, fun a i hn => (F16.2.1 a i (fun hd => hn hd.1)).trans (J7 a i), fun a i hn => (F16.2.2 a i).trans (K7' a i hn)⟩ ⟨by rw [v16, show lst.length = n by omega], m16⟩ ((F16.1 _ _ (by unfold dRd; omega)).trans m7) ((F16.1 _ _ (by unfold dRd; omega)).trans z7.2)
            rw [F16.1 a i (fun hd => hn hd.1)]
            exact F7 a i (fun hh => hn (by unfold dRd; omega)) (fun hh => hn (by unfold dRd; omega))
          · rw [if_pos (by omega)] at RRe
            refine c_refuseN (v1 := 4) (fun s18 F18 b18 => ?_)
            exact bad (4, jj) (fun a i => dRd g a i ∧ ¬ (a = g ∧ i = 13)) s18 RRe ((F16.mono (fun a i h => ⟨h.1, h.2.1⟩)).trans (F18.mono (fun a i h => ⟨by unfold dRd; omega, by omega⟩))) (fun a i h => h) b18
        refine ⟨fun hz => absurd hz (by decide), fun _ => ⟨g, g16.2.2.2.2.2, hg.kd, ?_⟩⟩
        rw [v16, nI_leU (by omega) (by omega)]
        exact ⟨fun _ => this, fun hz => absurd (by omega) hz⟩
      | succ q ih =>
        intro f lst jj s16 hf hll F16 g16 v16 ok16 m16 RRi
        rw [bdFs_bnd, bnd_assoc, hll, bdF_D, bnd_assoc] at RRi
        have hbF : bdF B nb f n jj = bnd (bdD B nb f jj) _ := bdF_D
        apply hP72
        intro P129 hP129
        refine ⟨fun hz => absurd hz (by decide), fun _ => ⟨g, g16.2.2.2.2.2, hg.kd, ?_⟩⟩
        rw [v16, nI_leU (by omega) (by omega)]
        refine ⟨fun hz => absurd hz (by omega), fun _ => ?_⟩
        have wk : ∀ {D : Nat → Nat → Prop} {u t : yS}, frM D u t → (∀ a i, D a i → dTe a i ∨ dTk a i ∨ (a = g ∧ i = 0) ∨ dHe g f a i ∨ dCd g f a i ∨ dHs g f a i) → frM (fun a i => dRd g a i ∧ ¬ (a = g ∧ i = 13)) u t := fun h hd => h.mono (fun a i h => toD f (by omega) a i (hd a i h))
        have wk2 : ∀ {D : Nat → Nat → Prop} {u t : yS}, frM D u t → (∀ a i, D a i → dTk a i ∨ dHe g f a i ∨ dCd g f a i ∨ dHs g f a i) → frM (fun a i => dRd g a i ∧ ¬ (a = g ∧ i = 13) ∧ ¬ (a = 113 ∧ (i = 0 ∨ i = 1))) u t := fun h hd => h.mono (fun a i h => by
          have := hd a i h
          have h2 := toD f (by omega) a i (by rcases this with h | h | h | h <;> simp [h])
          refine ⟨h2.1, h2.2, ?_⟩
          unfold dTk dHe dCd dHs dTg dTk at this
          omega)
        have F16b : frM (fun a i => dRd g a i ∧ ¬ (a = g ∧ i = 13)) u2 s16 := F16.mono (fun a i h => ⟨h.1, h.2.1⟩)
        refine c_readHead hg (by omega) g16 (fun p l b r z hD hp hb hr hl12 hz1 hz2 s21 F21 g21 vp21 vl21 vb21 vr21 vz21 a21 => ?_) (fun e he s21 F21 b21 => ?_)
        · rw [hD] at RRi hbF
          have hbF : bdF B nb f n jj = bnd (bdC B nb (ix (nI l)) (ix (nI z)) n (ix (nI z)) [] (jj + 7)) _ := hbF
          have RRi : R = bnd (bnd (bdC B nb (ix (nI l)) (ix (nI z)) n (ix (nI z)) [] (jj + 7)) _) _ := RRi
          rw [nI_ix (by omega), nI_ix (by omega)] at RRi hbF
          rw [bnd_assoc] at RRi
          intro P121 hP121
          have no : ∀ (e : Nat × Nat) (t : yS), R = .error e → frM (fun a i => dRd g a i ∧ ¬ (a = g ∧ i = 13)) u2 t → rbC2 t e → P121 0 t := fun e t he Ft bt => hP121 0 t (fun x24 e24 => badL e _ x24 t he Ft (fun a i h => h) bt)
          refine ⟨fun hh => absurd hh (by decide), fun _ => ?_⟩
          have n21 : sI s21 g 0 = nI n := by rw [F21.1 _ _ (by unfold dHe dTk; omega)]; exact v16
          refine c_readCode hg (by omega) hl12 hz1 hz2 g21 vl21 vz21 n21 a21 (fun cl j' hC s26 F26 g26 o26 a26 => ?_) (fun e he s26 F26 b26 => ?_)
          · rw [hC] at RRi hbF
            have hbF : bdF B nb f n jj = bnd (bdN B nb 1 0 (nI 6) j') _ := hbF
            have RRi : R = bnd (bnd (bdN B nb 1 0 (nI 6) j') _) _ := RRi
            rw [bnd_assoc] at RRi
            refine ⟨fun hh => absurd hh (by decide), fun _ => ?_⟩
            have z26 : sI s26 (g + 5) f = nI z := by rw [F26.1 _ _ (by unfold dCd dTk; omega)]; exact vz21
            have cl400 : cl.length = z := by
              have := bdC_ok hl12 hz1 hz2 hn1 hn2 z [] cl (jj + 7) j' hC (by simp) g21.2.2.2.2.1
              rw [this.2.1]; simp
            refine c_readHandlers (l := cl) hg (by omega) hz1 hz2 g26 z26 a26 (fun k hs j'' hk hH s28 F28 g28 v28 h28 a28 => ?_) (fun e he s28 F28 b28 => ?_) (fun k e hk he s28 F28 b28 => ?_)
            · rw [hk] at RRi hbF
              have hbF : bdF B nb f n jj = bnd (bdHs B nb z (ix k) [] (j' + 1)) _ := hbF
              have RRi : R = bnd (bnd (bdHs B nb z (ix k) [] (j' + 1)) _) _ := RRi
              rw [hH] at RRi hbF
              have hbF : bdF B nb f n jj = .ok ((ix (nI p), l, ix (nI b), ix (nI r), cl, hs), j'') := hbF
              rw [nI_ix (by omega), nI_ix (by omega), nI_ix (by omega)] at hbF
              have RRi : R = bnd (bdFs B nb n q (lst ++ [(ix (nI p), l, ix (nI b), ix (nI r), cl, hs)]) j'') _ := RRi
              rw [nI_ix (by omega), nI_ix (by omega), nI_ix (by omega)] at RRi
              refine ⟨fun hh => absurd hh (by decide), fun _ => ?_⟩
              apply hP121
              intro x24 e24; subst e24; rw [nI_s]
              have hxo := (bdF_ok hn1 hn2 hbF).1
              have Fall : frM (fun a i => dRd g a i ∧ ¬ (a = g ∧ i = 13) ∧ ¬ (a = 113 ∧ (i = 0 ∨ i = 1))) s16 s28 := (wk2 F21 (fun a i h => Or.inr (Or.inl h))).trans ((wk2 F26 (fun a i h => Or.inr (Or.inr (Or.inl h)))).trans (wk2 F28 (fun a i h => Or.inr (Or.inr (Or.inr h)))))
              refine ih (f + 1) (lst ++ [(p, l, b, r, cl, hs)]) j'' s28 (by omega) (by rw [List.length_append, hll]; rfl) (F16.trans Fall) g28 (by rw [F28.1 _ _ (by unfold dHs dTg dTk; omega), F26.1 _ _ (by unfold dCd dTk; omega)]; exact n21) (fun k hk => ?_) (fun k hk => ?_) RRi
              · by_cases ck : k = f
                · subst ck; rw [List.getElem_append_right (by omega)]; simp only [hll, Nat.sub_self, List.getElem_cons_zero]; exact hxo
                · have hk' : k < lst.length := by rw [List.length_append] at hk; simp at hk; omega
                  rw [List.getElem_append_left hk']; exact ok16 k hk'
              · by_cases ck : k = f
                · subst ck; rw [List.getElem_append_right (by omega)]; simp only [hll, Nat.sub_self, List.getElem_cons_zero]
                  have K : ∀ a, g + 1 ≤ a → a ≤ g + 5 → sI s28 a k = sI s21 a k := fun a h1 h2 => by rw [F28.1 _ _ (by unfold dHs dTg dTk; omega)]; exact F26.1 _ _ (by unfold dCd dTk; omega)
                  refine ⟨(K _ (by omega) (by omega)).trans vp21, (K _ (by omega) (by omega)).trans vl21, (K _ (by omega) (by omega)).trans vb21, (K _ (by omega) (by omega)).trans vr21, ?_, v28, fun i hi => ?_, h28, ?_⟩
                  · show sI s28 (g + 5) k = nI cl.length
                    rw [cl400]; exact (K _ (by omega) (by omega)).trans vz21
                  · have := o26 i hi
                    exact ⟨(F28.1 _ _ (by unfold dHs dTg dTk; omega)).trans this.1, (F28.1 _ _ (by unfold dHs dTg dTk; omega)).trans this.2⟩
                  · show aimS s28 g k cl.length cl hs
                    rw [cl400]; exact a28
                · have hk' : k < lst.length := by rw [List.length_append] at hk; simp at hk; omega
                  rw [List.getElem_append_left hk']
                  have hkk := ok16 k hk'
                  have hc400 := hkk.2.2.2.2.2.2.2.2.1
                  have hh6 := hkk.2.2.2.2.2.2.2.2.2.1
                  refine (m16 k hk').fr (fun a h1 h2 => ?_) (fun a i ha hi => ?_) (fun a i h1 h2 hi => ?_)
                  · rw [F28.1 _ _ (by unfold dHs dTg dTk; omega), F26.1 _ _ (by unfold dCd dTk; omega), F21.1 _ _ (by unfold dHe dTk; omega)]
                  · rw [F28.1 _ _ (by unfold dHs dTg dTk; omega), F26.1 _ _ (by unfold dCd dTk; omega), F21.1 _ _ (by unfold dHe dTk; omega)]
                  · rw [F28.1 _ _ (by unfold dHs dTg dTk; omega), F26.1 _ _ (by unfold dCd dTk; omega), F21.1 _ _ (by unfold dHe dTk; omega)]
            · rw [he] at RRi
              refine ⟨fun _ => ?_, fun hh => absurd rfl hh⟩
              exact no e s28 RRi (F16b.trans ((wk F21 (fun a i h => by simp [h])).trans ((wk F26 (fun a i h => by simp [h])).trans (wk F28 (fun a i h => by rcases h with h | h <;> simp [h]))))) b28
            · rw [hk] at RRi
              have RRi : R = bnd (bnd (bdHs B nb z (ix k) [] (j' + 1)) _) _ := RRi
              rw [he] at RRi
              refine ⟨fun _ => ?_, fun hh => absurd rfl hh⟩
              exact no e s28 RRi (F16b.trans ((wk F21 (fun a i h => by simp [h])).trans ((wk F26 (fun a i h => by simp [h])).trans (wk F28 (fun a i h => by rcases h with h | h <;> simp [h]))))) b28
          · rw [he] at RRi
            refine ⟨fun _ => ?_, fun hh => absurd rfl hh⟩
            exact no e s26 RRi (F16b.trans ((wk F21 (fun a i h => by simp [h])).trans (wk F26 (fun a i h => by unfold dCe at h; rcases h with h | h <;> simp [h])))) b26
        · rw [he] at RRi
          intro P121 hP121
          refine ⟨fun _ => ?_, fun hh => absurd rfl hh⟩
          exact hP121 0 s21 (fun x24 e24 => badL e _ x24 s21 RRi (F16b.trans (wk F21 (fun a i h => by rcases h with h | h <;> simp [h]))) (fun a i h => h) b21)
    · rw [he] at hres
      exact bad e (fun a i => dTk a i ∨ dTe a i) s11 hres ((F9.mono (fun a i h => Or.inl h)).trans (F11.mono (fun a i h => Or.inr h))) (fun a i h => by unfold dTk dTe at h; unfold dRd; omega) b11
  · rw [he] at hres
    exact bad e dTe s9 hres F9 (fun a i h => by unfold dTe at h; unfold dRd; omega) b9
end
