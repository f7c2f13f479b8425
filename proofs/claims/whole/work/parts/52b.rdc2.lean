theorem wid_none {o lc n all : Nat} (ho : o ≤ 29) : (g_wid.getD o 0 ≤ 0 ↔ opW o lc n all = none) := by
  have key : ∀ o ∈ List.range 30, (g_wid.getD o 0 ≤ 0 ↔ ¬ (o = 0 ∨ (o = 4 ∨ o = 5) ∨ (17 < o ∧ o < 21) ∨ o = 25 ∨ (o = 26 ∨ o = 29))) := by decide
  rw [key o (List.mem_range.mpr (by omega))]
  unfold opW
  constructor
  · intro h; rw [if_neg (by omega), if_neg (by omega), if_neg (by omega), if_neg (by omega), if_neg (by omega)]
  · intro h hh
    split at h
    · exact absurd h (by simp)
    · split at h
      · exact absurd h (by simp)
      · split at h
        · exact absurd h (by simp)
        · split at h
          · exact absurd h (by simp)
          · split at h
            · exact absurd h (by simp)
            · omega
theorem aimL_snocI (l : List (Nat × Int32)) (hs : List Hn) (y : Nat × Int32) (i : Nat) : aimL (l ++ [y]) hs i = (decide (17 < y.1 ∧ y.1 < 21 ∧ y.2 = nI i) || aimL l hs i) := by
  unfold aimL
  rw [List.any_append, List.any_cons, List.any_nil, Bool.or_false]
  cases l.any (fun y => decide (17 < y.1 ∧ y.1 < 21 ∧ y.2 = nI i)) <;> cases decide (17 < y.1 ∧ y.1 < 21 ∧ y.2 = nI i) <;> rfl
theorem aimL_snocH (l : List (Nat × Int32)) (hs : List Hn) (h : Hn) (i : Nat) : aimL l (hs ++ [h]) i = (decide (hG h = i) || aimL l hs i) := by
  unfold aimL
  rw [List.any_append, List.any_cons, List.any_nil, Bool.or_false]
  cases l.any (fun y => decide (17 < y.1 ∧ y.1 < 21 ∧ y.2 = nI i)) <;> cases hs.any (fun h => decide (hG h = i)) <;> cases decide (hG h = i) <;> rfl
section
variable {s : yS} {B : Nat → Nat} {nb g : Nat}
def dCd (g f a i : Nat) : Prop := dTk a i ∨ ((a = g + 7 ∨ a = g + 8 ∨ a = g + 11) ∧ f * 400 ≤ i ∧ i < f * 400 + 400)
def dCe (g f a i : Nat) : Prop := dTe a i ∨ dCd g f a i
theorem c_readCode {f lc n all j : Nat} {Q : Int32 → yS → Prop} (hg : gOK g) (hf : f < 12) (hlc : lc ≤ 12) (hn : 1 ≤ n) (hn2 : n ≤ 400) (h : rgC s B nb g j) (hl : (sI s (g + 2)) f = nI lc) (hz : (sI s (g + 5)) f = nI n) (ha : (sI s g 0) = nI all) (hai : aimS s g f n [] [])
    (Hok : ∀ l j', bdC B nb lc n all n [] j = .ok (l, j') → ∀ s', frM (dCd g f) s s' → rgC s' B nb g j' → (∀ (i : Nat) (hi : i < l.length), (sI s' (g + 7)) (f * 400 + i) = nI l[i].1 ∧ (sI s' (g + 8)) (f * 400 + i) = l[i].2) → aimS s' g f n l [] → Q 1 s')
    (Herr : ∀ e, bdC B nb lc n all n [] j = .error e → ∀ s', frM (dCe g f) s s' → rbC2 s' e → Q 0 s') : W_X6_readCode s (nI f) Q := by
  have hgv : g = 37 ∨ g = 55 ∨ g = 73 := hg
  unfold W_X6_readCode
  intro P6 hP6 x20 e20
  rw [nI_mul] at e20
  subst e20
  generalize hR : bdC B nb lc n all n [] j = R at Hok Herr
  suffices hL : ∀ (q i : Nat) (lst : List (Nat × Int32)) (jj : Nat) (s2 : yS), i + q = n → lst.length = i → frM (dCd g f) s s2 → rgC s2 B nb g jj → (∀ (k : Nat) (hk : k < lst.length), (sI s2 (g + 7)) (f * 400 + k) = nI lst[k].1 ∧ (sI s2 (g + 8)) (f * 400 + k) = lst[k].2) → aimS s2 g f n lst [] → R = bdC B nb lc n all q lst jj → P6 (nI (f * 400 + i)) s2 by
    have h0 := hL n 0 [] j s (by omega) rfl frM.rfl' h (fun k hk => by simp at hk) hai hR.symm
    rw [Nat.add_zero] at h0; exact h0
  intro q
  induction q with
  | zero =>
    intro i lst jj s2 hi hll F2 g2 o2 a2 RRi
    apply hP6
    have z2 : sI s2 (g + 5) f = nI n := (F2.1 _ _ (by unfold dCd dTk; omega)).trans hz
    refine ⟨g, g2.2.2.2.2.2, hg.kd, nI_inU (by omega) (by omega), ?_⟩
    rw [nI_ix (n := f) (by omega), z2, nI_mul, nI_addU, nI_leU (by omega) (by omega)]
    refine ⟨fun _ => ?_, fun hh => absurd (by omega) hh⟩
    rw [bdC] at RRi
    exact Hok lst jj RRi s2 F2 g2 o2 a2
  | succ q ih =>
    intro i lst jj s2 hi hll F2 g2 o2 a2 RRi
    rw [bdC_bnd] at RRi
    apply hP6
    have z2 : sI s2 (g + 5) f = nI n := (F2.1 _ _ (by unfold dCd dTk; omega)).trans hz
    have l2 : sI s2 (g + 2) f = nI lc := (F2.1 _ _ (by unfold dCd dTk; omega)).trans hl
    have n2 : sI s2 g 0 = nI all := (F2.1 _ _ (by unfold dCd dTk; omega)).trans ha
    refine ⟨g, g2.2.2.2.2.2, hg.kd, nI_inU (by omega) (by omega), ?_⟩
    rw [nI_ix (n := f) (by omega), z2, nI_mul, nI_addU, nI_leU (by omega) (by omega)]
    refine ⟨fun hh => absurd hh (by omega), fun _ => ?_⟩
    refine c_takeN (w := 1) (lo := 0) (by omega) g2 (fun o ho s6 F6 g6 t6 => ?_) (fun e he s6 F6 b6 => ?_)
    · have hon := bdN_nat (lo := 0) (hi := 29) (by omega) (by omega) ho
      obtain ⟨o', eo, ho29⟩ : ∃ o', o = nI o' ∧ o' ≤ 29 := ⟨ix o, hon.1, hon.2.2⟩
      subst eo
      refine ⟨fun _ => ?_, fun hh => absurd hh (by decide)⟩
      intro x7 e7 s8 e8
      rw [t6] at e7
      subst e7
      have F8 : frM dTk s2 s8 := by subst e8; exact F6.wI (by unfold dTk; omega)
      have g8 : rgC s8 B nb g (jj + 1) := g6.fr (fun a i ha => by subst e8; rw [sI_w, if_neg (by omega)]) (fun i => by subst e8; rfl)
      have t8 : sI s8 113 5 = 0 := by subst e8; rw [sI_w, if_pos ⟨rfl, rfl⟩]
      clear e8
      refine ⟨nI_inU (by omega) (by omega), ?_⟩
      rw [nI_ix (n := o') (by omega), wid_none (lc := lc) (n := n) (all := all) ho29]
      intro P67 hP67
      have hI : bdI B nb lc n all jj = (match opW o' lc n all with
        | none => .ok ((o', 0), jj + 1)
        | some x => match bdN B nb x.1 x.2.1 x.2.2 (jj + 1) with
          | .error e => .error e
          | .ok v => .ok ((o', v), jj + 1 + x.1)) := by
        unfold bdI; rw [ho]; dsimp only; rw [nI_ix (by omega)]; rfl
      -- the instruction is kept
      have nxt : ∀ (v : Int32) (jn : Nat) (s10 : yS), bdI B nb lc n all jj = .ok ((o', v), jn) → frM (dTg g f) s2 s10 → rgC s10 B nb g jn → (sI s10 113 5) = v → (∀ i, i < n → (sI s10 (g + 11)) (f * 400 + i) = if 17 < o' ∧ o' < 21 ∧ v = nI i then 1 else (sI s2 (g + 11)) (f * 400 + i)) → P67 s10 := by
        intro v jn s10 hv F10 g10 t10 a10
        apply hP67
        refine ⟨g, g10.2.2.2.2.2, hg.kd, nI_inU (by omega) (by omega), ?_⟩
        rw [nI_ix (n := f * 400 + i) (by omega)]
        intro s13 e13
        have r13 : sR s13 113 6 = g + 1 := by subst e13; exact g10.2.2.2.2.2
        have t13 : sI s13 113 5 = v := by subst e13; rw [sI_w, if_neg (by omega)]; exact t10
        refine ⟨g, r13, hg.kd, nI_inU (by omega) (by omega), ?_⟩
        rw [t13]
        intro s16 e16 x17 e17
        subst e17; rw [nI_s, Nat.add_assoc]
        rw [hv] at RRi
        have F16 : frM (dCd g f) s2 s16 := by
          subst e16; subst e13
          exact ((F10.mono (fun a i h => h.elim Or.inl (fun h => Or.inr ⟨by omega, h.2.1, h.2.2⟩))).wI (Or.inr ⟨by omega, by omega, by omega⟩)).wI (Or.inr ⟨by omega, by omega, by omega⟩)
        refine ih (i + 1) (lst ++ [(o', v)]) jn s16 (by omega) (by rw [List.length_append, hll]; rfl) (F2.trans F16) (g10.fr (fun a i ha => by subst e16; rw [sI_w, if_neg (by omega)]; subst e13; rw [sI_w, if_neg (by omega)]) (fun i => by subst e16; subst e13; rfl)) (fun k hk => ?_) (fun k hk => ?_) RRi
        · by_cases ck : k = i
          · subst ck
            rw [List.getElem_append_right (by omega)]
            simp only [hll, Nat.sub_self, List.getElem_cons_zero]
            refine ⟨?_, ?_⟩
            · subst e16; rw [sI_w, if_neg (by omega)]; subst e13; rw [sI_w, if_pos ⟨rfl, rfl⟩]
            · subst e16; rw [sI_w, if_pos ⟨rfl, rfl⟩]
          · have hk' : k < lst.length := by rw [List.length_append] at hk; simp at hk; omega
            rw [List.getElem_append_left hk']
            have := o2 k hk'
            refine ⟨?_, ?_⟩
            · subst e16; rw [sI_w, if_neg (by omega)]; subst e13; rw [sI_w, if_neg (by omega), F10.1 _ _ (by unfold dTg dTk; omega)]; exact this.1
            · subst e16; rw [sI_w, if_neg (by omega)]; subst e13; rw [sI_w, if_neg (by omega), F10.1 _ _ (by unfold dTg dTk; omega)]; exact this.2
        · rw [aimL_snocI]
          have e1 : sI s16 (g + 11) (f * 400 + k) = sI s10 (g + 11) (f * 400 + k) := by subst e16; rw [sI_w, if_neg (by omega)]; subst e13; rw [sI_w, if_neg (by omega)]
          rw [e1, a10 k hk, a2 k hk]
          by_cases c : 17 < o' ∧ o' < 21 ∧ v = nI k
          · rw [if_pos c, decide_eq_true c]; rfl
          · rw [if_neg c, decide_eq_false c]; rfl
      refine ⟨fun hno => ?_, fun hsome => ?_⟩
      · rw [hno] at hI
        refine nxt 0 (jj + 1) s8 hI (F8.mono (fun a i h => Or.inl h)) g8 t8 (fun k hk => ?_)
        have : ¬ (17 < o' ∧ o' < 21) := by
          intro hh; unfold opW at hno; rw [if_neg (by omega), if_neg (by omega), if_pos hh] at hno; exact absurd hno (by simp)
        rw [if_neg (by omega)]; exact F8.1 _ _ (by unfold dTk; omega)
      · obtain ⟨w, hw⟩ : ∃ w, opW o' lc n all = some w := by
          cases hw : opW o' lc n all with
          | none => exact absurd hw hsome
          | some w => exact ⟨w, rfl⟩
        rw [hw] at hI
        dsimp only at hI
        refine c_readOperand hg hf ho29 hw hlc hn hn2 g8 (by rw [F8.1 _ _ (by unfold dTk; omega)]; exact l2) (by rw [F8.1 _ _ (by unfold dTk; omega)]; exact z2) (by rw [F8.1 _ _ (by unfold dTk; omega)]; exact n2) (fun v hv s19 F19 g19 t19 a19 => ?_) (fun e he s19 F19 b19 => ?_)
        · refine ⟨fun _ => ?_, fun hh => absurd hh (by decide)⟩
          rw [hv] at hI
          refine nxt v _ s19 hI ((F8.mono (fun a i h => Or.inl h)).trans F19) g19 t19 (fun k hk => ?_)
          rw [a19 k hk, F8.1 _ _ (by unfold dTk; omega)]
        · refine ⟨fun hh => absurd rfl hh, fun _ => ?_⟩
          rw [he] at hI
          rw [hI] at RRi
          exact Herr e RRi s19 ((F2.mono (fun a i h => Or.inr h)).trans ((F8.mono (fun a i h => Or.inr (Or.inl h))).trans (F19.mono (fun a i h => Or.inl h)))) b19
    · refine ⟨fun hh => absurd rfl hh, fun _ => ?_⟩
      have hI : bdI B nb lc n all jj = .error e := by unfold bdI; rw [he]
      rw [hI] at RRi
      exact Herr e RRi s6 ((F2.mono (fun a i h => Or.inr h)).trans (F6.mono (fun a i h => Or.inl h))) b6
def hnC (s : yS) (g k : Nat) (h : Hn) : Prop := (sI s (g + 13)) k = nI (hF h) ∧ (sI s (g + 14)) k = nI (hT h) ∧ (sI s (g + 15)) k = nI (hG h) ∧ (sI s (g + 16)) k = bI (hA h) ∧ (sI s (g + 17)) k = hC h
theorem hnC.fr {s' : yS} {k : Nat} {h : Hn} (x : hnC s g k h) (h1 : ∀ a, g + 13 ≤ a → a ≤ g + 17 → sI s' a k = sI s a k) : hnC s' g k h :=
  ⟨(h1 _ (by omega) (by omega)).trans x.1, (h1 _ (by omega) (by omega)).trans x.2.1, (h1 _ (by omega) (by omega)).trans x.2.2.1, (h1 _ (by omega) (by omega)).trans x.2.2.2.1, (h1 _ (by omega) (by omega)).trans x.2.2.2.2⟩
def dHn (g f k a i : Nat) : Prop := dTg g f a i ∨ (g + 13 ≤ a ∧ a ≤ g + 17 ∧ i = k)
theorem c_readHandler {f k n j : Nat} {Q : Int32 → yS → Prop} (hg : gOK g) (hf : f < 12) (hk : k < 72) (hn : 1 ≤ n) (hn2 : n ≤ 400) (h : rgC s B nb g j) (hz : (sI s (g + 5)) f = nI n)
    (Hok : ∀ x j', bdH B nb n j = .ok (x, j') → ∀ s', frM (dHn g f k) s s' → rgC s' B nb g j' → hnC s' g k x → (∀ i, i < n → (sI s' (g + 11)) (f * 400 + i) = if hG x = i then 1 else (sI s (g + 11)) (f * 400 + i)) → Q 1 s')
    (Herr : ∀ e, bdH B nb n j = .error e → ∀ s', frM (fun a i => dTe a i ∨ dHn g f k a i) s s' → rbC2 s' e → Q 0 s') : W_X6_readHandler s (nI f) (nI k) Q := by
  have hgv : g = 37 ∨ g = 55 ∨ g = 73 := hg
  have hres := bdH_bnd (B := B) (nb := nb) (n := n) (j := j)
  generalize bdH B nb n j = R at hres Hok Herr
  have hinf : vp_in (nI f) 12 := nI_inU (by omega) (by omega)
  have hink : vp_in (nI k) 72 := nI_inU (by omega) (by omega)
  unfold W_X6_readHandler
  rw [nI_ix (n := f) (by omega), nI_ix (n := k) (by omega)]
  refine ⟨g, h.2.2.2.2.2, hg.kd, hinf, ?_⟩
  rw [hz]
  refine c_takeN (w := 2) (lo := 0) (by omega) h (fun va hva s4 F4 g4 t4 => ?_) (fun e he s4 F4 b4 => ⟨fun hh => absurd rfl hh, fun _ => ?_⟩)
  · rw [hva] at hres
    have hres : R = bnd (bdN B nb 2 (va + 1) (nI n) (j + 2)) _ := hres
    have hva' := hva
    rw [nI_p hn] at hva'
    have hvn := bdN_nat (lo := 0) (by omega) (by omega) hva'
    refine ⟨fun _ => ⟨g, g4.2.2.2.2.2, hg.kd, hink, ?_⟩, fun hh => absurd hh (by decide)⟩
    rw [t4]
    intro s7 e7
    have F7 : frM (dHn g f k) s s7 := by subst e7; exact (F4.mono (fun a i h => Or.inl (Or.inl h))).wI (Or.inr ⟨by omega, by omega, rfl⟩)
    have g7 : rgC s7 B nb g (j + 2) := g4.fr (fun a i ha => by subst e7; rw [sI_w, if_neg (by omega)]) (fun i => by subst e7; rfl)
    have t7 : sI s7 113 5 = va := by subst e7; rw [sI_w, if_neg (by omega)]; exact t4
    have v7 : sI s7 (g + 13) k = va := by subst e7; rw [sI_w, if_pos ⟨rfl, rfl⟩]
    have a7 : ∀ i, sI s7 (g + 11) i = sI s (g + 11) i := fun i => by subst e7; rw [sI_w, if_neg (by omega)]; exact F4.1 _ _ (by unfold dTk; omega)
    clear e7 g4 t4
    have z7 : sI s7 (g + 5) f = nI n := (F7.1 _ _ (by unfold dHn dTg dTk; omega)).trans hz
    refine ⟨g, g7.2.2.2.2.2, hg.kd, hinf, ?_⟩
    rw [t7, z7]
    refine c_takeN (w := 2) (by omega) g7 (fun vb hvb s11 F11 g11 t11 => ?_) (fun e he s11 F11 b11 => ⟨fun hh => absurd rfl hh, fun _ => ?_⟩)
    · rw [hvb] at hres
      have hres : R = bnd (bdN B nb 2 0 (nI n - 1) (j + 4)) _ := hres
      have hvb' := hvb
      rw [hvn.1, nI_s] at hvb'
      have hbn := bdN_nat (by omega) (by omega) hvb'
      refine ⟨fun _ => ⟨g, g11.2.2.2.2.2, hg.kd, hink, ?_⟩, fun hh => absurd hh (by decide)⟩
      rw [t11]
      intro s14 e14
      have F14 : frM (dHn g f k) s s14 := by subst e14; exact (F7.trans (F11.mono (fun a i h => Or.inl (Or.inl h)))).wI (Or.inr ⟨by omega, by omega, rfl⟩)
      have g14 : rgC s14 B nb g (j + 4) := g11.fr (fun a i ha => by subst e14; rw [sI_w, if_neg (by omega)]) (fun i => by subst e14; rfl)
      have v14 : sI s14 (g + 13) k = va ∧ sI s14 (g + 14) k = vb := by
        refine ⟨?_, ?_⟩
        · subst e14; rw [sI_w, if_neg (by omega), F11.1 _ _ (by unfold dTk; omega)]; exact v7
        · subst e14; rw [sI_w, if_pos ⟨rfl, rfl⟩]
      have a14 : ∀ i, sI s14 (g + 11) i = sI s (g + 11) i := fun i => by subst e14; rw [sI_w, if_neg (by omega), F11.1 _ _ (by unfold dTk; omega)]; exact a7 i
      clear e14 g11 t11 g7 t7 v7 a7 z7
      have z14 : sI s14 (g + 5) f = nI n := (F14.1 _ _ (by unfold dHn dTg dTk; omega)).trans hz
      refine c_takeTarget hg hf hn hn2 g14 z14 (fun vc hvc hlt s16 F16 g16 t16 a16 => ?_) (fun e he s16 F16 b16 => ⟨fun hh => absurd rfl hh, fun _ => ?_⟩)
      · rw [hvc] at hres
        have hres : R = bnd (bdN B nb 1 0 1 (j + 6)) (fun kk => if kk = 0 then .ok ((ix va, ix vb, ix (nI vc), true, 0), j + 7) else bnd (bdN B nb 4 (-2147483648) 2147483647 (j + 7)) (fun v => .ok ((ix va, ix vb, ix (nI vc), false, v), j + 11))) := hres
        rw [nI_ix (by omega)] at hres
        refine ⟨fun _ => ⟨g, g16.2.2.2.2.2, hg.kd, hink, ?_⟩, fun hh => absurd hh (by decide)⟩
        rw [t16]
        intro s19 e19
        have F19 : frM (dHn g f k) s s19 := by subst e19; exact (F14.trans (F16.mono (fun a i h => Or.inl h))).wI (Or.inr ⟨by omega, by omega, rfl⟩)
        have g19 : rgC s19 B nb g (j + 6) := g16.fr (fun a i ha => by subst e19; rw [sI_w, if_neg (by omega)]) (fun i => by subst e19; rfl)
        have v19 : sI s19 (g + 13) k = va ∧ sI s19 (g + 14) k = vb ∧ sI s19 (g + 15) k = nI vc := by
          refine ⟨?_, ?_, ?_⟩
          · subst e19; rw [sI_w, if_neg (by omega), F16.1 _ _ (by unfold dTg dTk; omega)]; exact v14.1
          · subst e19; rw [sI_w, if_neg (by omega), F16.1 _ _ (by unfold dTg dTk; omega)]; exact v14.2
          · subst e19; rw [sI_w, if_pos ⟨rfl, rfl⟩]
        have a19 : ∀ i, i < n → sI s19 (g + 11) (f * 400 + i) = if vc = i then 1 else sI s (g + 11) (f * 400 + i) := fun i hi => by
          subst e19; rw [sI_w, if_neg (by omega), a16 i hi, a14]
          by_cases c : i = vc
          · rw [if_pos c, if_pos c.symm]
          · rw [if_neg c, if_neg (fun h => c h.symm)]
        clear e19 g16 t16 a16 g14 v14 a14 z14
        refine c_takeN (w := 1) (lo := 0) (hi := 1) (by omega) g19 (fun vk hvk s21 F21 g21 t21 => ?_) (fun e he s21 F21 b21 => ⟨fun hh => absurd rfl hh, fun _ => ?_⟩)
        · rw [hvk] at hres
          have hres : R = if vk = 0 then .ok ((ix va, ix vb, vc, true, 0), j + 7) else bnd (bdN B nb 4 (-2147483648) 2147483647 (j + 7)) (fun v => .ok ((ix va, ix vb, vc, false, v), j + 11)) := hres
          refine ⟨fun _ => ⟨g, g21.2.2.2.2.2, hg.kd, ?_⟩, fun hh => absurd hh (by decide)⟩
          rw [t21]
          intro P128 hP128
          have F21' : frM (dHn g f k) s s21 := F19.trans (F21.mono (fun a i h => Or.inl (Or.inl h)))
          have go : ∀ bo : Bool, (vk = 0 ↔ bo = true) → P128 (bI bo) := by
            intro bo hbo
            apply hP128
            refine ⟨hink, ?_⟩
            have hnb : vp_nar .boolean (bI bo) = bI bo := by cases bo <;> rfl
            rw [hnb]
            intro s25 e25
            have r25 : sR s25 113 6 = g + 1 := by subst e25; exact g21.2.2.2.2.2
            refine ⟨g, r25, hg.kd, hink, ?_⟩
            intro s28 e28
            have F28 : frM (dHn g f k) s s28 := by subst e28; subst e25; exact (F21'.wI (Or.inr ⟨by omega, by omega, rfl⟩)).wI (Or.inr ⟨by omega, by omega, rfl⟩)
            have g28 : rgC s28 B nb g (j + 7) := g21.fr (fun a i ha => by subst e28; rw [sI_w, if_neg (by omega)]; subst e25; rw [sI_w, if_neg (by omega)]) (fun i => by subst e28; subst e25; rfl)
            have K28 : ∀ a i, a = g + 13 ∨ a = g + 14 ∨ a = g + 15 ∨ a = g + 11 → sI s28 a i = sI s19 a i := fun a i ha => by
              subst e28; rw [sI_w, if_neg (by omega)]; subst e25; rw [sI_w, if_neg (by omega)]; exact F21.1 _ _ (by unfold dTk; omega)
            have b28 : sI s28 (g + 16) k = bI bo := by subst e28; rw [sI_w, if_neg (by omega)]; subst e25; rw [sI_w, if_pos ⟨rfl, rfl⟩]
            have c28 : sI s28 (g + 17) k = 0 := by subst e28; rw [sI_w, if_pos ⟨rfl, rfl⟩]
            clear e28 e25
            refine ⟨g, g28.2.2.2.2.2, hg.kd, hink, ?_⟩
            rw [b28]
            cases bo with
            | true =>
              refine ⟨fun hz => absurd hz (by decide), fun _ => ?_⟩
              rw [if_pos (hbo.mpr rfl)] at hres
              refine Hok _ _ hres s28 F28 g28 ⟨?_, ?_, ?_, b28, c28⟩ (fun i hi => ?_)
              · rw [K28 _ _ (by omega), v19.1]; exact hvn.1
              · rw [K28 _ _ (by omega), v19.2.1]; exact hbn.1
              · rw [K28 _ _ (by omega), v19.2.2]; rfl
              · rw [K28 _ _ (by omega)]; exact a19 i hi
            | false =>
              refine ⟨fun _ => ?_, fun hz => absurd rfl hz⟩
              rw [if_neg (fun h0 => absurd (hbo.mp h0) (by decide))] at hres
              refine c_takeN (w := 4) (by omega) g28 (fun v hv s32 F32 g32 t32 => ?_) (fun e he s32 F32 b32 => ⟨fun hh => absurd rfl hh, fun _ => ?_⟩)
              · rw [hv] at hres
                refine ⟨fun _ => ⟨g, g32.2.2.2.2.2, hg.kd, hink, ?_⟩, fun hh => absurd hh (by decide)⟩
                rw [t32]
                intro s35 e35
                have K35 : ∀ a i, a = g + 13 ∨ a = g + 14 ∨ a = g + 15 ∨ a = g + 16 ∨ a = g + 11 → sI s35 a i = sI s28 a i := fun a i ha => by subst e35; rw [sI_w, if_neg (by omega)]; exact F32.1 _ _ (by unfold dTk; omega)
                refine Hok _ _ hres s35 (by subst e35; exact (F28.trans (F32.mono (fun a i h => Or.inl (Or.inl h)))).wI (Or.inr ⟨by omega, by omega, rfl⟩)) (g32.fr (fun a i ha => by subst e35; rw [sI_w, if_neg (by omega)]) (fun i => by subst e35; rfl)) ⟨?_, ?_, ?_, ?_, ?_⟩ (fun i hi => ?_)
                · rw [K35 _ _ (by omega), K28 _ _ (by omega), v19.1]; exact hvn.1
                · rw [K35 _ _ (by omega), K28 _ _ (by omega), v19.2.1]; exact hbn.1
                · rw [K35 _ _ (by omega), K28 _ _ (by omega), v19.2.2]; rfl
                · rw [K35 _ _ (by omega), b28]; rfl
                · subst e35; rw [sI_w, if_pos ⟨rfl, rfl⟩]; rfl
                · rw [K35 _ _ (by omega), K28 _ _ (by omega)]; exact a19 i hi
              · rw [he] at hres
                exact Herr e hres s32 ((F28.mono (fun a i h => Or.inr h)).trans (F32.mono (fun a i h => Or.inl h))) b32
          exact ⟨fun hne => go false ⟨fun h0 => absurd h0 hne, fun hh => absurd hh (by decide)⟩, fun he => go true ⟨fun _ => rfl, fun _ => he⟩⟩
        · rw [he] at hres
          exact Herr e hres s21 ((F19.mono (fun a i h => Or.inr h)).trans (F21.mono (fun a i h => Or.inl h))) b21
      · rw [he] at hres
        exact Herr e hres s16 ((F14.mono (fun a i h => Or.inr h)).trans (F16.mono (fun a i h => Or.inl h))) b16
    · rw [he] at hres
      exact Herr e hres s11 ((F7.mono (fun a i h => Or.inr h)).trans (F11.mono (fun a i h => Or.inl h))) b11
  · rw [he] at hres
    exact Herr e hres s4 (F4.mono (fun a i h => Or.inl h)) b4
end
