section
variable {s : yS} {B : Nat → Nat} {nb g : Nat}
def fnC (s : yS) (g f : Nat) (x : Fn) : Prop := (sI s (g + 1)) f = nI (fP x) ∧ (sI s (g + 2)) f = nI (fL x) ∧ (sI s (g + 3)) f = nI (fB x) ∧ (sI s (g + 4)) f = nI (fR x) ∧ (sI s (g + 5)) f = nI (fC x).length ∧ (sI s (g + 6)) f = nI (fH x).length
  ∧ (∀ (i : Nat) (h : i < (fC x).length), (sI s (g + 7)) (f * 400 + i) = nI (fC x)[i].1 ∧ (sI s (g + 8)) (f * 400 + i) = (fC x)[i].2) ∧ (∀ (i : Nat) (h : i < (fH x).length), hnC s g (f * 6 + i) (fH x)[i]) ∧ aimS s g f (fC x).length (fC x) (fH x)
def pgC (s : yS) (g : Nat) (l : List Fn) : Prop := (sI s g 0) = nI l.length ∧ ∀ (f : Nat) (h : f < l.length), fnC s g f l[f]
def dHs (g f a i : Nat) : Prop := dTg g f a i ∨ (a = g + 6 ∧ i = f) ∨ (g + 13 ≤ a ∧ a ≤ g + 17 ∧ f * 6 ≤ i ∧ i < f * 6 + 6)
theorem c_readHandlers {f n j : Nat} {l : List (Nat × Int32)} {Q : Int32 → yS → Prop} (hg : gOK g) (hf : f < 12) (hn : 1 ≤ n) (hn2 : n ≤ 400) (h : rgC s B nb g j) (hz : (sI s (g + 5)) f = nI n) (hai : aimS s g f n l [])
    (Hok : ∀ k hs j', bdN B nb 1 0 (nI 6) j = .ok k → bdHs B nb n (ix k) [] (j + 1) = .ok (hs, j') → ∀ s', frM (dHs g f) s s' → rgC s' B nb g j' → (sI s' (g + 6)) f = nI hs.length → (∀ (i : Nat) (h : i < hs.length), hnC s' g (f * 6 + i) hs[i]) → aimS s' g f n l hs → Q 1 s')
    (Herr1 : ∀ e, bdN B nb 1 0 (nI 6) j = .error e → ∀ s', frM (fun a i => dTe a i ∨ dHs g f a i) s s' → rbC2 s' e → Q 0 s')
    (Herr2 : ∀ k e, bdN B nb 1 0 (nI 6) j = .ok k → bdHs B nb n (ix k) [] (j + 1) = .error e → ∀ s', frM (fun a i => dTe a i ∨ dHs g f a i) s s' → rbC2 s' e → Q 0 s') : W_X6_readHandlers s (nI f) Q := by
  have hgv : g = 37 ∨ g = 55 ∨ g = 73 := hg
  have hinf : vp_in (nI f) 12 := nI_inU (by omega) (by omega)
  unfold W_X6_readHandlers
  refine c_takeN (w := 1) (lo := 0) (by omega) h (fun k hk s2 F2 g2 t2 => ?_) (fun e he s2 F2 b2 => ⟨fun hh => absurd rfl hh, fun _ => Herr1 e he s2 (F2.mono (fun a i h => Or.inl h)) b2⟩)
  have hkn := bdN_nat (lo := 0) (hi := 6) (by omega) (by omega) hk
  refine ⟨fun _ => ⟨g, g2.2.2.2.2.2, hg.kd, hinf, ?_⟩, fun hh => absurd hh (by decide)⟩
  rw [nI_ix (n := f) (by omega), t2]
  intro s5 e5
  have F5 : frM (dHs g f) s s5 := by subst e5; exact (F2.mono (fun a i h => Or.inl (Or.inl h))).wI (Or.inr (Or.inl ⟨rfl, rfl⟩))
  have g5 : rgC s5 B nb g (j + 1) := g2.fr (fun a i ha => by subst e5; rw [sI_w, if_neg (by omega)]) (fun i => by subst e5; rfl)
  have v5 : sI s5 (g + 6) f = k := by subst e5; rw [sI_w, if_pos ⟨rfl, rfl⟩]
  have a5 : aimS s5 g f n l [] := fun i hi => by subst e5; rw [sI_w, if_neg (by omega), F2.1 _ _ (by unfold dTk; omega)]; exact hai i hi
  clear e5 g2 t2
  have Hok := fun hs j' => Hok k hs j' hk
  have Herr2 := fun e => Herr2 k e hk
  generalize hR : bdHs B nb n (ix k) [] (j + 1) = R at Hok Herr2
  intro P28 hP28
  suffices hL : ∀ (q i : Nat) (lst : List Hn) (jj : Nat) (s7 : yS), i + q = ix k → lst.length = i → frM (dHs g f) s s7 → rgC s7 B nb g jj → sI s7 (g + 6) f = k → (∀ (i : Nat) (h : i < lst.length), hnC s7 g (f * 6 + i) lst[i]) → aimS s7 g f n l lst → R = bdHs B nb n q lst jj → P28 (nI i) s7 from
    hL (ix k) 0 [] (j + 1) s5 (by omega) rfl F5 g5 v5 (fun i hi => by simp at hi) a5 hR.symm
  intro q
  induction q with
  | zero =>
    intro i lst jj s7 hi hll F7 g7 v7 h7 a7 RRi
    apply hP28
    refine ⟨g, g7.2.2.2.2.2, hg.kd, hinf, ?_⟩
    rw [v7]
    rw [bdHs] at RRi
    have : Q 1 s7 := Hok lst jj RRi s7 F7 g7 (by rw [v7, show lst.length = ix k by omega]; exact hkn.1) h7 a7
    refine ⟨fun _ => this, fun hh => absurd ?_ hh⟩
    rw [hkn.1, nI_leU (by omega) (by omega)]; omega
  | succ q ih =>
    intro i lst jj s7 hi hll F7 g7 v7 h7 a7 RRi
    rw [bdHs_bnd] at RRi
    apply hP28
    have z7 : sI s7 (g + 5) f = nI n := (F7.1 _ _ (by unfold dHs dTg dTk; omega)).trans hz
    refine ⟨g, g7.2.2.2.2.2, hg.kd, hinf, ?_⟩
    rw [v7, nI_mul, nI_addU]
    refine ⟨fun hh => absurd hh ?_, fun _ => ?_⟩
    · rw [hkn.1, nI_leU (by omega) (by omega)]; omega
    · refine c_readHandler hg hf (by omega) hn hn2 g7 z7 (fun x j' hx s11 F11 g11 h11 a11 => ?_) (fun e he s11 F11 b11 => ?_)
      · refine ⟨fun _ => ?_, fun hh => absurd hh (by decide)⟩
        intro x12 e12; subst e12; rw [nI_s]
        rw [hx] at RRi
        refine ih (i + 1) (lst ++ [x]) j' s11 (by omega) (by rw [List.length_append, hll]; rfl) (F7.trans (F11.mono (fun a i' h => h.elim Or.inl (fun h => Or.inr (Or.inr ⟨h.1, h.2.1, by omega, by omega⟩))))) g11 (by rw [F11.1 _ _ (by unfold dHn dTg dTk; omega)]; exact v7) (fun k' hk' => ?_) (fun k' hk' => ?_) RRi
        · by_cases ck : k' = i
          · subst ck; rw [List.getElem_append_right (by omega)]; simp only [hll, Nat.sub_self, List.getElem_cons_zero]; exact h11
          · have hk2 : k' < lst.length := by rw [List.length_append] at hk'; simp at hk'; omega
            rw [List.getElem_append_left hk2]
            exact (h7 k' hk2).fr (fun a h1 h2 => F11.1 _ _ (by unfold dHn dTg dTk; omega))
        · rw [aimL_snocH, a11 k' hk', a7 k' hk']
          by_cases c : hG x = k'
          · rw [if_pos c, decide_eq_true c]; rfl
          · rw [if_neg c, decide_eq_false c]; rfl
      · refine ⟨fun hh => absurd rfl hh, fun _ => ?_⟩
        rw [he] at RRi
        exact Herr2 e RRi s11 ((F7.mono (fun a i h => Or.inr h)).trans (F11.mono (fun a i' h => h.elim Or.inl (fun h => Or.inr (h.elim Or.inl (fun h => Or.inr (Or.inr ⟨h.1, h.2.1, by omega, by omega⟩))))))) b11
theorem c_setSize {f n : Nat} {Q : yS → Prop} (hg : gOK g) (hf : f < 12) (hn2 : n ≤ 400) (H : ∀ s', frM (fun a i => (a = g + 5 ∧ i = f) ∨ (a = g + 11 ∧ f * 400 ≤ i ∧ i < f * 400 + 400)) s s' → (sI s' (g + 5)) f = nI n → aimS s' g f n [] [] → Q s') : W_X5_setSize s g (nI f) (nI n) Q := by
  have hgv : g = 37 ∨ g = 55 ∨ g = 73 := hg
  unfold W_X5_setSize
  rw [nI_ix (n := f) (by omega)]
  refine ⟨nI_inU (by omega) (by omega), ?_⟩
  intro s2 e2 P9 hP9
  have F2 : frM (fun a i => (a = g + 5 ∧ i = f) ∨ (a = g + 11 ∧ f * 400 ≤ i ∧ i < f * 400 + 400)) s s2 := by subst e2; exact frM.rfl'.wI (Or.inl ⟨rfl, rfl⟩)
  have v2 : sI s2 (g + 5) f = nI n := by subst e2; rw [sI_w, if_pos ⟨rfl, rfl⟩]
  clear e2
  suffices hL : ∀ (r k : Nat) (s4 : yS), k + r = n → frM (fun a i => (a = g + 5 ∧ i = f) ∨ (a = g + 11 ∧ f * 400 ≤ i ∧ i < f * 400 + 400)) s s4 → sI s4 (g + 5) f = nI n → (∀ i, i < k → sI s4 (g + 11) (f * 400 + i) = 0) → P9 (nI k) s4 from hL n 0 s2 (by omega) F2 v2 (fun i hi => by omega)
  intro r
  induction r with
  | zero =>
    intro k s4 hk F4 v4 z4
    apply hP9
    rw [nI_leU (by omega) (by omega)]
    exact ⟨fun _ => H s4 F4 v4 (fun i hi => z4 i (by omega)), fun hh => absurd (by omega) hh⟩
  | succ r ih =>
    intro k s4 hk F4 v4 z4
    apply hP9
    rw [nI_leU (by omega) (by omega), nI_mul, nI_addU, nI_ix (n := f * 400 + k) (by omega)]
    refine ⟨fun hh => absurd hh (by omega), fun _ => ⟨nI_inU (by omega) (by omega), ?_⟩⟩
    intro s6 e6 x7 e7
    subst e7; rw [nI_s]
    refine ih (k + 1) s6 (by omega) (by subst e6; exact F4.wI (Or.inr ⟨rfl, by omega, by omega⟩)) (by subst e6; rw [sI_w, if_neg (by omega)]; exact v4) (fun i hi => ?_)
    subst e6
    by_cases c : i = k
    · subst c; rw [sI_w, if_pos ⟨rfl, rfl⟩]; rfl
    · rw [sI_w, if_neg (by omega)]; exact z4 i (by omega)
def dHe (g f a i : Nat) : Prop := dTk a i ∨ (g + 1 ≤ a ∧ a ≤ g + 5 ∧ i = f) ∨ (a = g + 11 ∧ f * 400 ≤ i ∧ i < f * 400 + 400)
/-- the head, as the text says it -/
def bdD (B : Nat → Nat) (nb f j : Nat) : PE (Int32 × Int32 × Int32 × Int32 × Int32) := bnd (bdN B nb 1 0 (if f = 0 then 0 else nI 4) j) (fun p => bnd (bdN B nb 1 p (nI 12) (j + 1)) (fun l => bnd (bdN B nb 2 0 ((1 <<< (l &&& 31)) - 1) (j + 2)) (fun b => bnd (bdN B nb 1 0 (if f = 0 then 1 else nI 2) (j + 4)) (fun r => bnd (bdN B nb 2 1 (nI 400) (j + 5)) (fun n => .ok (p, l, b, r, n))))))
theorem bdF_D {f all j : Nat} : bdF B nb f all j = bnd (bdD B nb f j) (fun x => bnd (bdC B nb (ix x.2.1) (ix x.2.2.2.2) all (ix x.2.2.2.2) [] (j + 7)) (fun c => bnd (bdN B nb 1 0 (nI 6) c.2) (fun h => bnd (bdHs B nb (ix x.2.2.2.2) (ix h) [] (c.2 + 1)) (fun y => .ok ((ix x.1, ix x.2.1, ix x.2.2.1, ix x.2.2.2.1, c.1, y.1), y.2))))) := by
  rw [bdF_bnd]; unfold bdD
  rw [bnd_assoc]; congr 1; funext p
  rw [bnd_assoc]; congr 1; funext l
  rw [bnd_assoc]; congr 1; funext b
  rw [bnd_assoc]; congr 1; funext r
  rw [bnd_assoc]; rfl
theorem c_readHead {f j : Nat} {Q : Int32 → yS → Prop} (hg : gOK g) (hf : f < 12) (h : rgC s B nb g j)
    (Hok : ∀ p l b r n, bdD B nb f j = .ok (nI p, nI l, nI b, nI r, nI n) → p < 2147483648 → b < 2147483648 → r < 2147483648 → l ≤ 12 → 1 ≤ n → n ≤ 400 → ∀ s', frM (dHe g f) s s' → rgC s' B nb g (j + 7) → (sI s' (g + 1)) f = nI p → (sI s' (g + 2)) f = nI l → (sI s' (g + 3)) f = nI b → (sI s' (g + 4)) f = nI r → (sI s' (g + 5)) f = nI n → aimS s' g f n [] [] → Q 1 s')
    (Herr : ∀ e, bdD B nb f j = .error e → ∀ s', frM (fun a i => dTe a i ∨ dHe g f a i) s s' → rbC2 s' e → Q 0 s') : W_X6_readHead s (nI f) Q := by
  have hgv : g = 37 ∨ g = 55 ∨ g = 73 := hg
  have hinf : vp_in (nI f) 12 := nI_inU (by omega) (by omega)
  have f0 : nI f = 0 ↔ f = 0 := nI_inj (b := 0) (by omega) (by omega)
  have hres : bdD B nb f j = bnd (bdN B nb 1 0 (if f = 0 then 0 else nI 4) j) _ := rfl
  generalize bdD B nb f j = R at hres Hok Herr
  unfold W_X6_readHead
  rw [nI_ix (n := f) (by omega), f0]
  intro P12 hP12
  suffices h12 : P12 (if f = 0 then 0 else nI 4) by
    by_cases c : f = 0
    · rw [if_pos c] at h12; exact ⟨fun hh => absurd c hh, fun _ => h12⟩
    · rw [if_neg c] at h12; exact ⟨fun _ => h12, fun hh => absurd hh c⟩
  apply hP12
  refine c_takeN (w := 1) (lo := 0) (by omega) h (fun vp hvp s3 F3 g3 t3 => ?_) (fun e he s3 F3 b3 => ⟨fun hh => absurd rfl hh, fun _ => ?_⟩)
  · rw [hvp] at hres
    have hres : R = bnd (bdN B nb 1 vp (nI 12) (j + 1)) _ := hres
    obtain ⟨p, ep, hp4⟩ : ∃ p, vp = nI p ∧ p ≤ 4 := by
      by_cases c : f = 0
      · rw [if_pos c] at hvp
        have := bdN_nat (lo := 0) (hi := 0) (by omega) (by omega) hvp
        exact ⟨ix vp, this.1, by omega⟩
      · rw [if_neg c] at hvp
        have := bdN_nat (lo := 0) (hi := 4) (by omega) (by omega) hvp
        exact ⟨ix vp, this.1, by omega⟩
    subst ep
    refine ⟨fun _ => ⟨g, g3.2.2.2.2.2, hg.kd, hinf, ?_⟩, fun hh => absurd hh (by decide)⟩
    rw [t3]
    intro s6 e6
    have F6 : frM (dHe g f) s s6 := by subst e6; exact (F3.mono (fun a i h => Or.inl h)).wI (Or.inr (Or.inl ⟨by omega, by omega, rfl⟩))
    have g6 : rgC s6 B nb g (j + 1) := g3.fr (fun a i ha => by subst e6; rw [sI_w, if_neg (by omega)]) (fun i => by subst e6; rfl)
    have v6 : sI s6 (g + 1) f = nI p := by subst e6; rw [sI_w, if_pos ⟨rfl, rfl⟩]
    clear e6 g3 t3
    refine ⟨g, g6.2.2.2.2.2, hg.kd, hinf, ?_⟩
    rw [v6]
    refine c_takeN (w := 1) (by omega) g6 (fun vl hvl s10 F10 g10 t10 => ?_) (fun e he s10 F10 b10 => ⟨fun hh => absurd rfl hh, fun _ => ?_⟩)
    · rw [hvl] at hres
      have hres : R = bnd (bdN B nb 2 0 ((1 <<< (vl &&& 31)) - 1) (j + 2)) _ := hres
      have hln := bdN_nat (by omega) (by omega) hvl
      obtain ⟨l, el, hl12⟩ : ∃ l, vl = nI l ∧ l ≤ 12 := ⟨ix vl, hln.1, hln.2.2⟩
      subst el
      refine ⟨fun _ => ⟨g, g10.2.2.2.2.2, hg.kd, hinf, ?_⟩, fun hh => absurd hh (by decide)⟩
      rw [t10]
      intro s13 e13
      have F13 : frM (dHe g f) s s13 := by subst e13; exact (F6.trans (F10.mono (fun a i h => Or.inl h))).wI (Or.inr (Or.inl ⟨by omega, by omega, rfl⟩))
      have g13 : rgC s13 B nb g (j + 2) := g10.fr (fun a i ha => by subst e13; rw [sI_w, if_neg (by omega)]) (fun i => by subst e13; rfl)
      have v13 : sI s13 (g + 1) f = nI p ∧ sI s13 (g + 2) f = nI l := by
        refine ⟨?_, ?_⟩
        · subst e13; rw [sI_w, if_neg (by omega), F10.1 _ _ (by unfold dTk; omega)]; exact v6
        · subst e13; rw [sI_w, if_pos ⟨rfl, rfl⟩]
      clear e13 g10 t10 g6 v6
      refine ⟨g, g13.2.2.2.2.2, hg.kd, hinf, ?_⟩
      rw [v13.2]
      refine c_takeN (w := 2) (lo := 0) (by omega) g13 (fun vb hvb s17 F17 g17 t17 => ?_) (fun e he s17 F17 b17 => ⟨fun hh => absurd rfl hh, fun _ => ?_⟩)
      · rw [hvb] at hres
        have hres : R = bnd (bdN B nb 1 0 (if f = 0 then 1 else nI 2) (j + 4)) _ := hres
        have hpow : 2 ^ l ≤ 4096 := by
          have : 2 ^ l ≤ 2 ^ 12 := Nat.pow_le_pow_right (by omega) hl12
          omega
        have hvb' := hvb
        rw [shl_m1 hl12] at hvb'
        have hbn := bdN_nat (lo := 0) (by omega) (by omega) hvb'
        obtain ⟨b, eb, hb12⟩ : ∃ b, vb = nI b ∧ b < 4096 := ⟨ix vb, hbn.1, by omega⟩
        subst eb
        refine ⟨fun _ => ⟨g, g17.2.2.2.2.2, hg.kd, hinf, ?_⟩, fun hh => absurd hh (by decide)⟩
        rw [t17]
        intro s20 e20
        have F20 : frM (dHe g f) s s20 := by subst e20; exact (F13.trans (F17.mono (fun a i h => Or.inl h))).wI (Or.inr (Or.inl ⟨by omega, by omega, rfl⟩))
        have g20 : rgC s20 B nb g (j + 4) := g17.fr (fun a i ha => by subst e20; rw [sI_w, if_neg (by omega)]) (fun i => by subst e20; rfl)
        have v20 : sI s20 (g + 1) f = nI p ∧ sI s20 (g + 2) f = nI l ∧ sI s20 (g + 3) f = nI b := by
          refine ⟨?_, ?_, ?_⟩
          · subst e20; rw [sI_w, if_neg (by omega), F17.1 _ _ (by unfold dTk; omega)]; exact v13.1
          · subst e20; rw [sI_w, if_neg (by omega), F17.1 _ _ (by unfold dTk; omega)]; exact v13.2
          · subst e20; rw [sI_w, if_pos ⟨rfl, rfl⟩]
        clear e20 g17 t17 g13 v13
        intro P116 hP116
        suffices h116 : P116 (if f = 0 then 1 else nI 2) by
          by_cases c : f = 0
          · rw [if_pos c] at h116; exact ⟨fun hh => absurd c hh, fun _ => h116⟩
          · rw [if_neg c] at h116; exact ⟨fun _ => h116, fun hh => absurd hh c⟩
        apply hP116
        refine c_takeN (w := 1) (lo := 0) (by omega) g20 (fun vr hvr s23 F23 g23 t23 => ?_) (fun e he s23 F23 b23 => ⟨fun hh => absurd rfl hh, fun _ => ?_⟩)
        · rw [hvr] at hres
          have hres : R = bnd (bdN B nb 2 1 (nI 400) (j + 5)) _ := hres
          obtain ⟨r, er, hr2⟩ : ∃ r, vr = nI r ∧ r ≤ 2 := by
            by_cases c : f = 0
            · rw [if_pos c] at hvr
              have := bdN_nat (lo := 0) (hi := 1) (by omega) (by omega) hvr
              exact ⟨ix vr, this.1, by omega⟩
            · rw [if_neg c] at hvr
              have := bdN_nat (lo := 0) (hi := 2) (by omega) (by omega) hvr
              exact ⟨ix vr, this.1, by omega⟩
          subst er
          refine ⟨fun _ => ⟨g, g23.2.2.2.2.2, hg.kd, hinf, ?_⟩, fun hh => absurd hh (by decide)⟩
          rw [t23]
          intro s26 e26
          have F26 : frM (dHe g f) s s26 := by subst e26; exact (F20.trans (F23.mono (fun a i h => Or.inl h))).wI (Or.inr (Or.inl ⟨by omega, by omega, rfl⟩))
          have g26 : rgC s26 B nb g (j + 5) := g23.fr (fun a i ha => by subst e26; rw [sI_w, if_neg (by omega)]) (fun i => by subst e26; rfl)
          have K26 : ∀ a, a = g + 1 ∨ a = g + 2 ∨ a = g + 3 → sI s26 a f = sI s20 a f := fun a ha => by subst e26; rw [sI_w, if_neg (by omega)]; exact F23.1 _ _ (by unfold dTk; omega)
          have v26 : sI s26 (g + 4) f = nI r := by subst e26; rw [sI_w, if_pos ⟨rfl, rfl⟩]
          clear e26 g23 t23 g20
          refine c_takeN (w := 2) (lo := 1) (by omega) g26 (fun vn hvn s28 F28 g28 t28 => ?_) (fun e he s28 F28 b28 => ⟨fun hh => absurd rfl hh, fun _ => ?_⟩)
          · rw [hvn] at hres
            have hres : R = .ok (nI p, nI l, nI b, nI r, vn) := hres
            have hnn := bdN_nat (lo := 1) (hi := 400) (by omega) (by omega) hvn
            obtain ⟨n, en, hn1, hn2⟩ : ∃ n, vn = nI n ∧ 1 ≤ n ∧ n ≤ 400 := ⟨ix vn, hnn.1, hnn.2.1, hnn.2.2⟩
            subst en
            refine ⟨fun _ => ⟨g, g28.2.2.2.2.2, hg.kd, ?_⟩, fun hh => absurd hh (by decide)⟩
            rw [t28]
            refine c_setSize hg hf hn2 (fun s30 F30 v30 a30 => ?_)
            have K30 : ∀ a, g + 1 ≤ a → a ≤ g + 4 → sI s30 a f = sI s26 a f := fun a h1 h2 => by rw [F30.1 _ _ (by omega)]; exact F28.1 _ _ (by unfold dTk; omega)
            refine Hok p l b r n hres (by omega) (by omega) (by omega) hl12 hn1 hn2 s30 (F26.trans ((F28.mono (fun a i h => Or.inl h)).trans (F30.mono (fun a i h => h.elim (fun h => Or.inr (Or.inl ⟨by omega, by omega, h.2⟩)) (fun h => Or.inr (Or.inr h)))))) (g28.fr (fun a i ha => F30.1 _ _ (by omega)) (fun i => F30.2.2 _ _)) ?_ ?_ ?_ ?_ v30 a30
            · rw [K30 _ (by omega) (by omega), K26 _ (by omega)]; exact v20.1
            · rw [K30 _ (by omega) (by omega), K26 _ (by omega)]; exact v20.2.1
            · rw [K30 _ (by omega) (by omega), K26 _ (by omega)]; exact v20.2.2
            · rw [K30 _ (by omega) (by omega)]; exact v26
          · rw [he] at hres
            exact Herr e hres s28 ((F26.mono (fun a i h => Or.inr h)).trans (F28.mono (fun a i h => Or.inl h))) b28
        · rw [he] at hres
          exact Herr e hres s23 ((F20.mono (fun a i h => Or.inr h)).trans (F23.mono (fun a i h => Or.inl h))) b23
      · rw [he] at hres
        exact Herr e hres s17 ((F13.mono (fun a i h => Or.inr h)).trans (F17.mono (fun a i h => Or.inl h))) b17
    · rw [he] at hres
      exact Herr e hres s10 ((F6.mono (fun a i h => Or.inr h)).trans (F10.mono (fun a i h => Or.inl h))) b10
  · rw [he] at hres
    exact Herr e hres s3 (F3.mono (fun a i h => Or.inl h)) b3
end
