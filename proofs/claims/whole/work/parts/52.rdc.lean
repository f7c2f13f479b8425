/-! ===== PURE: the other one reads a program ===== -/
theorem bC_255 {b : Nat} (h : b < 256) : bC b &&& nI 255 = nI b := by
  have : ∀ b ∈ List.range 256, bC b &&& nI 255 = nI b := by decide +kernel
  exact this b (List.mem_range.mpr h)
theorem bC_inj {a b : Nat} (ha : a < 256) (hb : b < 256) (h : bC a = bC b) : a = b := by
  have h1 := bC_255 ha
  rw [h, bC_255 hb, nI_inj (by omega) (by omega)] at h1
  exact h1.symm
section
variable {s : yS} {B : Nat → Nat} {nb g : Nat}
def gOK (g : Nat) : Prop := g = 37 ∨ g = 55 ∨ g = 73
theorem gOK.kd {g : Nat} (h : gOK g) : kd g = some (9, 0) := by rcases h with h | h | h <;> (subst h; rfl)
def rgC (s : yS) (B : Nat → Nat) (nb g j : Nat) : Prop := txC s B nb ∧ sR s 113 2 = 2 ∧ (sI s 113 3) = nI nb ∧ (sI s 113 4) = nI j ∧ j ≤ nb ∧ sR s 113 6 = g + 1
def rbC2 (s : yS) (e : Nat × Nat) : Prop := (sI s 113 1) = nI e.1 ∧ (sI s 113 0) = nI e.2
theorem txC.fr {s' : yS} {T : Nat → Nat} {n : Nat} (h : txC s T n) (h1 : ∀ k, sI s' 1 k = sI s 1 k) : txC s' T n := ⟨h.1, fun k hk => (h1 k).trans (h.2.1 k hk), h.2.2⟩
theorem rgC.fr {s' : yS} {j : Nat} (h : rgC s B nb g j) (h1 : ∀ a i, (a = 113 ∧ (i = 3 ∨ i = 4)) ∨ a = 1 → sI s' a i = sI s a i) (h2 : ∀ i, sR s' 113 i = sR s 113 i) : rgC s' B nb g j :=
  ⟨h.1.fr (fun k => h1 _ _ (by omega)), (h2 _).trans h.2.1, (h1 _ _ (by omega)).trans h.2.2.1, (h1 _ _ (by omega)).trans h.2.2.2.1, h.2.2.2.2.1, (h2 _).trans h.2.2.2.2.2⟩
theorem c_refuseN {v1 v2 : Nat} {Q : Int32 → yS → Prop} (H : ∀ s', frM (fun a i => a = 113 ∧ (i = 0 ∨ i = 1)) s s' → rbC2 s' (v1, v2) → Q 0 s') : W_X6_refuse s (nI v1) (nI v2) Q := by
  unfold W_X6_refuse
  intro s1 e1 s2 e2
  refine H s2 ?_ ⟨?_, ?_⟩
  · subst e2; subst e1; exact (frM.rfl'.wI (by omega)).wI (by omega)
  · subst e2; rw [sI_w, if_neg (by omega)]; subst e1; rw [sI_w, if_pos ⟨rfl, rfl⟩]
  · subst e2; rw [sI_w, if_pos ⟨rfl, rfl⟩]
def dTk (a i : Nat) : Prop := a = 113 ∧ (i = 4 ∨ i = 5)
def dTe (a i : Nat) : Prop := a = 113 ∧ (i = 0 ∨ i = 1)
theorem c_takeN {w j : Nat} {lo hi : Int32} {Q : Int32 → yS → Prop} (hw : w ≤ 4) (h : rgC s B nb g j)
    (Hok : ∀ v, bdN B nb w lo hi j = .ok v → ∀ s', frM dTk s s' → rgC s' B nb g (j + w) → (sI s' 113 5) = v → Q 1 s')
    (Herr : ∀ e, bdN B nb w lo hi j = .error e → ∀ s', frM dTe s s' → rbC2 s' e → Q 0 s') : W_X6_take s (nI w) lo hi Q := by
  obtain ⟨hx, hr, hc, ha, hj, hg⟩ := id h
  have hnb := hx.1
  unfold W_X6_take
  rw [ha, hc, nI_addU, nI_leU (by omega) (by omega)]
  refine ⟨fun hle => ?_, fun hgt => ?_⟩
  · intro P29 hP29
    suffices hL : ∀ (r k : Nat), k + r = w → P29 (vB B j k) (nI k) from hL w 0 (by omega)
    intro r
    induction r with
    | zero =>
      intro k hk
      have hkw : k = w := by omega
      subst hkw
      apply hP29
      rw [nI_leU (by omega) (by omega)]
      refine ⟨fun _ => ?_, fun hh => absurd (by omega) hh⟩
      intro P77 hP77
      have no : (vB B j k < lo ∨ ¬ vB B j k ≤ hi) → P77 := by
        intro hh
        apply hP77
        refine c_refuseN (v1 := 3) (fun s4 F4 b4 => ⟨Or.inl rfl, Herr (3, j) ?_ s4 F4 b4⟩)
        unfold bdN; rw [if_neg (by omega), if_pos hh]
      refine ⟨fun hl => no (Or.inl hl), fun hl => ⟨fun hh => ?_, fun hh => no (Or.inr hh)⟩⟩
      intro s6 e6
      have a6 : sI s6 113 4 = nI j := by subst e6; rw [sI_w, if_neg (by omega)]; exact ha
      rw [a6, nI_addU]
      intro s7 e7
      refine Hok (vB B j k) ?_ s7 ?_ ?_ ?_
      · unfold bdN; rw [if_neg (by omega), if_neg (fun h => h.elim hl (fun h => h hh))]
      · subst e7; subst e6; exact (frM.rfl'.wI (by unfold dTk; omega)).wI (by unfold dTk; omega)
      · refine ⟨hx.fr (fun k => ?_), ?_, ?_, ?_, hle, ?_⟩
        · subst e7; rw [sI_w, if_neg (by omega)]; subst e6; rw [sI_w, if_neg (by omega)]
        · subst e7; subst e6; exact hr
        · subst e7; rw [sI_w, if_neg (by omega)]; subst e6; rw [sI_w, if_neg (by omega)]; exact hc
        · subst e7; rw [sI_w, if_pos ⟨rfl, rfl⟩]
        · subst e7; subst e6; exact hg
      · subst e7; rw [sI_w, if_neg (by omega)]; subst e6; rw [sI_w, if_pos ⟨rfl, rfl⟩]
    | succ r ih =>
      intro k hk
      apply hP29
      rw [nI_leU (by omega) (by omega)]
      refine ⟨fun hh => absurd hh (by omega), fun _ => ⟨1, hr, rfl, ?_⟩⟩
      rw [nI_addU, nI_ix (n := j + k) (by omega), hx.2.1 (j + k) (by omega), bC_255 (hx.2.2 _)]
      refine ⟨nI_inU (by omega) (by omega), ?_⟩
      intro x10 e10 x11 e11
      subst e11; rw [nI_s]; subst e10
      exact ih (k + 1) (by omega)
  · refine c_refuseN (v1 := 1) (fun s4 F4 b4 => ⟨Or.inl rfl, Herr (1, nb) ?_ s4 F4 b4⟩)
    unfold bdN; rw [if_pos (by omega)]
/-- where jumps and handlers go -/
def aimL (l : List (Nat × Int32)) (hs : List Hn) (i : Nat) : Bool := l.any (fun y => decide (17 < y.1 ∧ y.1 < 21 ∧ y.2 = nI i)) || hs.any (fun h => decide (hG h = i))
def aimS (s : yS) (g f n : Nat) (l : List (Nat × Int32)) (hs : List Hn) : Prop := ∀ i, i < n → (sI s (g + 11)) (f * 400 + i) = bI (aimL l hs i)
def dTg (g f a i : Nat) : Prop := dTk a i ∨ (a = g + 11 ∧ f * 400 ≤ i ∧ i < f * 400 + 400)
theorem c_takeTarget {f n j : Nat} {Q : Int32 → yS → Prop} (hg : gOK g) (hf : f < 12) (hn : 1 ≤ n) (hn2 : n ≤ 400) (h : rgC s B nb g j) (hz : (sI s (g + 5)) f = nI n)
    (Hok : ∀ v, bdN B nb 2 0 (nI n - 1) j = .ok (nI v) → v < n → ∀ s', frM (dTg g f) s s' → rgC s' B nb g (j + 2) → (sI s' 113 5) = nI v → (∀ i, i < n → (sI s' (g + 11)) (f * 400 + i) = if i = v then 1 else (sI s (g + 11)) (f * 400 + i)) → Q 1 s')
    (Herr : ∀ e, bdN B nb 2 0 (nI n - 1) j = .error e → ∀ s', frM dTe s s' → rbC2 s' e → Q 0 s') : W_X6_takeTarget s (nI f) Q := by
  unfold W_X6_takeTarget
  refine ⟨g, h.2.2.2.2.2, hg.kd, nI_inU (by omega) (by omega), ?_⟩
  rw [nI_ix (n := f) (by omega), hz]
  refine c_takeN (w := 2) (lo := 0) (by omega) h (fun v hv s4 F4 g4 t4 => ?_) (fun e he s4 F4 b4 => ?_)
  · have hv' := hv
    rw [nI_p hn] at hv'
    have hvn := bdN_nat (lo := 0) (by omega) (by omega) hv'
    obtain ⟨v', ev, hlt⟩ : ∃ v', v = nI v' ∧ v' < n := ⟨ix v, hvn.1, by omega⟩
    subst ev
    refine ⟨fun _ => ⟨g, g4.2.2.2.2.2, hg.kd, ?_⟩, fun hh => absurd hh (by decide)⟩
    rw [t4, nI_mul, nI_addU, nI_ix (n := f * 400 + v') (by omega)]
    refine ⟨nI_inU (by omega) (by omega), ?_⟩
    intro s7 e7
    refine Hok v' hv hlt s7 ?_ ?_ ?_ (fun i hi => ?_)
    · subst e7; exact (F4.mono (fun a i h => Or.inl h)).wI (Or.inr ⟨rfl, by omega, by omega⟩)
    · exact g4.fr (fun a i ha => by subst e7; unfold gOK at hg; rw [sI_w, if_neg (by omega)]) (fun i => by subst e7; rfl)
    · subst e7; unfold gOK at hg; rw [sI_w, if_neg (by omega)]; exact t4
    · subst e7; unfold gOK at hg
      by_cases c : i = v'
      · subst c; rw [if_pos rfl, sI_w, if_pos ⟨rfl, rfl⟩]; rfl
      · rw [if_neg c, sI_w, if_neg (by omega)]; exact F4.1 _ _ (by unfold dTk; omega)
  · exact ⟨fun hh => absurd rfl hh, fun _ => Herr e he s4 F4 b4⟩
theorem c_readOperand {f o lc n all j : Nat} {Q : Int32 → yS → Prop} {w : Nat × Int32 × Int32} (hg : gOK g) (hf : f < 12) (ho : o ≤ 29) (hop : opW o lc n all = some w) (hlc : lc ≤ 12) (hn : 1 ≤ n) (hn2 : n ≤ 400) (h : rgC s B nb g j) (hl : (sI s (g + 2)) f = nI lc) (hz : (sI s (g + 5)) f = nI n) (ha : (sI s g 0) = nI all)
    (Hok : ∀ v, bdN B nb w.1 w.2.1 w.2.2 j = .ok v → ∀ s', frM (dTg g f) s s' → rgC s' B nb g (j + w.1) → (sI s' 113 5) = v → (∀ i, i < n → (sI s' (g + 11)) (f * 400 + i) = if 17 < o ∧ o < 21 ∧ v = nI i then 1 else (sI s (g + 11)) (f * 400 + i)) → Q 1 s')
    (Herr : ∀ e, bdN B nb w.1 w.2.1 w.2.2 j = .error e → ∀ s', frM dTe s s' → rbC2 s' e → Q 0 s') : W_X6_readOperand s (nI f) (nI o) Q := by
  have hc : ∀ k, k ≤ 29 → (nI o = nI k ↔ o = k) := fun k hk => nI_inj (by omega) (by omega)
  have hc0 : nI o = 0 ↔ o = 0 := hc 0 (by omega)
  have hin : vp_in (nI f) 12 := nI_inU (by omega) (by omega)
  have go : ∀ (k : Nat) (lo hi : Int32), k ≤ 4 → w = (k, lo, hi) → ¬ (17 < o ∧ o < 21) → W_X6_take s (nI k) lo hi (fun r t => zb r ∧ Q r t) := by
    intro k lo hi hk hw hno
    subst hw
    refine c_takeN hk h (fun v hv s4 F4 g4 t4 => ⟨Or.inr rfl, Hok v hv s4 (F4.mono (fun a i h => Or.inl h)) g4 t4 (fun i hi => ?_)⟩) (fun e he s4 F4 b4 => ⟨Or.inl rfl, Herr e he s4 F4 b4⟩)
    unfold gOK at hg
    rw [if_neg (by omega)]; exact F4.1 _ _ (by unfold dTk; omega)
  unfold W_X6_readOperand
  rw [hc0, hc 4 (by omega), hc 5 (by omega), hc 25 (by omega), hc 26 (by omega), hc 29 (by omega), nI_ix (n := f) (by omega)]
  unfold opW at hop
  refine ⟨fun h0 => ?_, fun h0 => ⟨fun h4 => ⟨g, h.2.2.2.2.2, hg.kd, hin, ?_⟩, fun h4 => ⟨fun h5 => ⟨g, h.2.2.2.2.2, hg.kd, hin, ?_⟩, fun h5 => ⟨fun h25 => ⟨g, h.2.2.2.2.2, hg.kd, ?_⟩, fun h25 => ⟨fun h26 => ?_, fun h26 => ⟨fun h29 => ?_, fun h29 => ?_⟩⟩⟩⟩⟩⟩
  · rw [if_pos h0] at hop; exact go 4 _ _ (by omega) (by cases hop; rfl) (by omega)
  · rw [if_neg h0, if_pos (Or.inl h4)] at hop; rw [hl]; exact go 1 _ _ (by omega) (by cases hop; rfl) (by omega)
  · rw [if_neg h0, if_pos (Or.inr h5)] at hop; rw [hl]; exact go 1 _ _ (by omega) (by cases hop; rfl) (by omega)
  · rw [if_neg h0, if_neg (by omega), if_neg (by omega), if_pos h25] at hop; rw [ha]; exact go 1 _ _ (by omega) (by cases hop; rfl) (by omega)
  · rw [if_neg h0, if_neg (by omega), if_neg (by omega), if_neg h25, if_pos (Or.inl h26)] at hop; exact go 1 _ _ (by omega) (by cases hop; rfl) (by omega)
  · rw [if_neg h0, if_neg (by omega), if_neg (by omega), if_neg h25, if_pos (Or.inr h29)] at hop; exact go 1 _ _ (by omega) (by cases hop; rfl) (by omega)
  · by_cases hj : 17 < o ∧ o < 21
    · rw [if_neg h0, if_neg (by omega), if_pos hj] at hop
      cases hop
      refine c_takeTarget hg hf hn hn2 h hz (fun v hv hlt s4 F4 g4 t4 a4 => ⟨Or.inr rfl, Hok _ hv s4 F4 g4 t4 (fun i hi => ?_)⟩) (fun e he s4 F4 b4 => ⟨Or.inl rfl, Herr e he s4 F4 b4⟩)
      rw [a4 i hi]
      by_cases c : i = v
      · rw [if_pos c, if_pos ⟨hj.1, hj.2, by rw [c]⟩]
      · rw [if_neg c, if_neg (fun hh => c ((nI_inj (by omega) (by omega)).mp hh.2.2).symm)]
    · rw [if_neg h0, if_neg (by omega), if_neg hj, if_neg h25, if_neg (by omega)] at hop
      exact absurd hop (by simp)
end
