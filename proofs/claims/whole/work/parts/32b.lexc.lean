/-! ===== the klass's tokens ===== -/
theorem or5 {c d : Nat} (hd : d < 32) (hc : c < 36028797018963968) : ((Int64.ofInt (c : Int)) <<< ((nI 5).toInt64 &&& 63)) ||| (Int64.ofInt (d : Int)) = Int64.ofInt ((32 * c + d : Nat) : Int) := by
  have e5 : ((nI 5).toInt64 &&& 63) = 5 := by decide
  rw [e5]
  apply Int64.toBitVec_inj.mp
  rw [Int64.toBitVec_or, Int64.toBitVec_shiftLeft]
  simp only [Int64.toBitVec_ofInt, BitVec.ofInt_natCast]
  have e6 : (Int64.toBitVec 5).smod 64 = 5#64 := by decide
  rw [e6]
  apply BitVec.eq_of_toNat_eq
  rw [BitVec.toNat_or, BitVec.shiftLeft_eq', BitVec.toNat_shiftLeft]
  simp only [BitVec.toNat_ofNat]
  rw [Nat.mod_eq_of_lt (a := c) (by omega), Nat.mod_eq_of_lt (a := d) (by omega), Nat.mod_eq_of_lt (a := 32 * c + d) (by omega), Nat.mod_eq_of_lt (a := 5) (by omega)]
  rw [Nat.shiftLeft_eq, Nat.mod_eq_of_lt (by omega), ← Nat.shiftLeft_eq, ← Nat.shiftLeft_add_eq_or_of_lt (by omega), Nat.shiftLeft_eq]
  omega
/-- a byte of the klass -/
def bC (b : Nat) : Int32 := (nI b).toInt8.toInt32
theorem bC_toInt {b : Nat} (hb : b < 256) : (bC b).toInt = if b < 128 then (b : Int) else (b : Int) - 256 := by
  unfold bC
  rw [Int8.toInt_toInt32, Int32.toInt_toInt8, nI_toIntU (by omega), Int.bmod_def]
  split <;> split <;> omega
theorem bC_eq {b k : Nat} (hb : b < 256) (hk : k < 128) : bC b = nI k ↔ b = k := by
  rw [← Int32.toInt_inj, bC_toInt hb, nI_toIntU (by omega)]; split <;> omega
theorem bC_lt {b k : Nat} (hb : b < 256) (hk : k < 128) : bC b < nI k ↔ b < k ∨ 128 ≤ b := by
  rw [Int32.lt_iff_toInt_lt, bC_toInt hb, nI_toIntU (by omega)]; split <;> omega
theorem lt_bC {b k : Nat} (hb : b < 256) (hk : k < 128) : nI k < bC b ↔ k < b ∧ b < 128 := by
  rw [Int32.lt_iff_toInt_lt, bC_toInt hb, nI_toIntU (by omega)]; split <;> omega
theorem bC_nI {b : Nat} (hb : b < 128) : bC b = nI b := by rw [bC_eq (by omega) hb]
/-- the klass's text is T, n long -/
def txC (s : yS) (T : Nat → Nat) (n : Nat) : Prop := n ≤ 8192 ∧ (∀ k, k < n → (sI s 1) k = bC (T k)) ∧ ∀ k, T k < 256
section
variable {s : yS} {T : Nat → Nat} {n : Nat}
theorem k8_isDigit {b : Nat} {Q : Int32 → Prop} (hb : b < 256) (H : Q (if isDg b then 1 else 0)) : W_X8_isDigit s (bC b) Q := by
  unfold W_X8_isDigit; unfold isDg at H
  rw [bC_lt hb (by omega), lt_bC hb (by omega)]
  refine ⟨fun e => ?_, fun e => ⟨fun e2 => ?_, fun e2 => ?_⟩⟩
  · rwa [if_neg (by simp; omega)] at H
  · rwa [if_neg (by simp; omega)] at H
  · rwa [if_pos (by simp; omega)] at H
theorem k8_isLetter {b : Nat} {Q : Int32 → Prop} (hb : b < 256) (H : Q (if isSm b then 1 else 0)) : W_X8_isLetter s (bC b) Q := by
  unfold W_X8_isLetter; unfold isSm at H
  rw [bC_lt hb (by omega), lt_bC hb (by omega)]
  refine ⟨fun e => ?_, fun e => ⟨fun e2 => ?_, fun e2 => ?_⟩⟩
  · rwa [if_neg (by simp; omega)] at H
  · rwa [if_neg (by simp; omega)] at H
  · rwa [if_pos (by simp; omega)] at H
theorem if1 {c : Bool} (h : ¬ (if c = true then (1 : Int32) else 0) = 0) : c = true := by
  cases c
  · exact absurd rfl h
  · rfl
theorem if0 {c : Bool} (h : (if c = true then (1 : Int32) else 0) = 0) : c = false := by
  cases c
  · rfl
  · exact absurd h (by decide)
theorem k8_runEnd {p : Nat} {Q : Int32 → Prop} (h : txC s T n) (hp : p ≤ n) (H : Q (nI (runT T (n - p) p))) : W_X8_runEnd s 1 8192 (nI p) (nI n) Q := by
  have hn := h.1
  unfold W_X8_runEnd
  intro P2 hP2
  generalize hm : n - p = m at H
  induction m generalizing p with
  | zero =>
    apply hP2
    rw [nI_leU (by omega) (by omega)]
    exact ⟨fun _ => H, fun hh => absurd (by omega) hh⟩
  | succ m ih =>
    have hT := h.2.2 p
    apply hP2
    rw [nI_leU (by omega) (by omega)]
    refine ⟨fun hh => absurd hh (by omega), fun _ => ⟨nI_inU (by omega) (by omega), ?_⟩⟩
    rw [nI_ix (by omega), h.2.1 p (by omega)]
    refine k8_isLetter hT ?_
    intro P33 hP33
    have go : isWd (T p) = true → P33 := by
      intro c
      apply hP33
      intro x4 e4; subst e4; rw [nI_s]
      rw [runT, if_pos c] at H
      exact ih (by omega) (by omega) H
    refine ⟨fun hh => go (by unfold isWd; simp [if1 hh]), fun hh => ⟨nI_inU (by omega) (by omega), k8_isDigit hT ⟨fun h2 => go (by unfold isWd; simp [if1 h2]), fun h2 => ⟨nI_inU (by omega) (by omega), ?_⟩⟩⟩⟩
    rw [bC_eq hT (by omega)]
    refine ⟨fun h3 => ?_, fun h3 => go (by unfold isWd; simp [h3])⟩
    rw [runT, if_neg (by unfold isWd; simp [if0 hh, if0 h2, h3])] at H
    exact H
/-- the value that the klass keeps of a token -/
def vC (t : Tok) : Int64 := if tkK t = 5 then Int64.ofInt (cN 32 0 (tkN t)) else Int64.ofInt (tkV t)
/-- the klass's words -/
def wdC (s : yS) : Prop := ∀ w, w < 12 → (sJ s 96) w = Int64.ofInt (cN 32 0 (wdL.getD w []))
def gN (T : Nat → Nat) (p e : Nat) (x3 : Int64) (m k : Nat) : Prop := ∃ c : Nat, x3 = Int64.ofInt (c : Int) ∧ c < 32 ^ (k - p) ∧ e - p ≤ 12 ∧ cN 32 c (slT T m k) = cN 32 0 (slT T (e - p) p) ∧ ((slT T (e - p) p).all isSm = (slT T m k).all isSm)
theorem k8_addName {p e : Nat} {Q : yS → Prop} (h : txC s T n) (hw : wdC s) (h1 : p < e) (h2 : e ≤ n)
    (H : W_X8_add s (nI (tkK (nmTok p e (slT T (e - p) p)))) (nI p) (vC (nmTok p e (slT T (e - p) p))) Q) : W_X8_addName s 1 8192 (nI p) (nI e) Q := by
  have hn := h.1
  unfold W_X8_addName
  intro P13 hP13
  have bad : ¬ (e - p ≤ 12 ∧ (slT T (e - p) p).all isSm) → W_X8_add s 1 (nI p) 0 (fun s10 => Q s10) := by
    intro hb
    unfold nmTok at H; rw [if_neg hb] at H; exact H
  have good : ∀ P74 : Int32 → Prop, (∀ (x5 : Int32), ((((nI 12) ≤ x5 → W_X8_add s (nI 5) (nI p) (Int64.ofInt (cN 32 0 (slT T (e - p) p))) (fun s6 => Q s6))
      ∧ (¬ (nI 12) ≤ x5 → vp_in x5 12 ∧ 
       ((¬ (lg_cmp (sJ s 96 (ix x5)) (Int64.ofInt (cN 32 0 (slT T (e - p) p)))) = 0 → ∀ x8 : Int32, x8 = (x5 + 1) → 
        P74 x8)
       ∧ ((lg_cmp (sJ s 96 (ix x5)) (Int64.ofInt (cN 32 0 (slT T (e - p) p)))) = 0 → W_X8_add s (nI 6) (nI p) (x5).toInt64 
        (fun s9 => Q s9)))))) → P74 x5) → (e - p ≤ 12 ∧ (slT T (e - p) p).all isSm) → P74 0 := by
    intro P74 hP74 hg
    unfold nmTok at H; rw [if_pos hg] at H
    have hnm : isNm (slT T (e - p) p) := ⟨hg.2, by rw [slT_len]; exact hg.1⟩
    generalize slT T (e - p) p = l at H hP74 hnm
    suffices hL : ∀ m k, 12 - k = m → k ≤ 12 → (∀ j, j < k → wdL.getD j [] ≠ l) → P74 (nI k) from hL 12 0 rfl (by omega) (fun j hj => by omega)
    intro m
    induction m with
    | zero =>
      intro k hm hk hj
      apply hP74
      rw [nI_leU (by omega) (by omega)]
      refine ⟨fun _ => ?_, fun hh => absurd (by omega) hh⟩
      have hin : ¬ l ∈ wdL := by
        intro hin
        obtain ⟨j, hj1, hj2⟩ := List.getElem_of_mem hin
        have hj3 : j < 12 := hj1
        exact hj j (by omega) (by rw [List.getD_eq_getElem?_getD, List.getElem?_eq_getElem hj1]; exact hj2)
      rw [if_neg hin] at H; exact H
    | succ m ih =>
      intro k hm hk hj
      apply hP74
      rw [nI_leU (by omega) (by omega)]
      refine ⟨fun hh => absurd hh (by omega), fun _ => ⟨nI_inU (by omega) (by omega), ?_⟩⟩
      rw [nI_ix (by omega), hw k (by omega), lgc_eq0, Int64.toInt_inj]
      have hkl : k < wdL.length := by show k < 12; omega
      have hgd : wdL.getD k [] = wdL[k] := by rw [List.getD_eq_getElem?_getD, List.getElem?_eq_getElem hkl]; rfl
      rw [c32_inj (wdL_nm _ (by rw [hgd]; exact List.getElem_mem hkl)) hnm]
      refine ⟨fun hh x8 e8 => ?_, fun hh => ?_⟩
      · subst e8; rw [nI_s]
        refine ih (k + 1) (by omega) (by omega) (fun j hj2 => ?_)
        by_cases c : j = k
        · subst c; exact hh
        · exact hj j (by omega)
      · have hin : l ∈ wdL := by rw [← hh, hgd]; exact List.getElem_mem hkl
        rw [if_pos hin] at H
        have hidx : wdL.idxOf l = k := by
          rw [← hh, hgd]; exact List.Nodup.idxOf_getElem wdL_nd k hkl
        rw [oJ_nI (by omega)]
        rw [hidx] at H; exact H
  have main : ∀ y1 : Int32, (y1 = 1 → e - p ≤ 12) → (y1 = 0 → ¬ e - p ≤ 12) → (y1 = 0 ∨ y1 = 1) → P13 y1 := by
    intro y1 hy1 hy0 hy
    apply hP13
    intro P21 hP21
    suffices hL : ∀ (m k : Nat) (x2 : Int32) (x3 : Int64), e - k = m → p ≤ k → k ≤ e → (x2 = 1 → gN T p e x3 m k) → (x2 = 0 → ¬ (e - p ≤ 12 ∧ (slT T (e - p) p).all isSm)) → (x2 = 0 ∨ x2 = 1) → P21 x2 x3 (nI k) by
      refine hL (e - p) p y1 0 rfl (Nat.le_refl _) (by omega) (fun hy => ⟨0, rfl, by rw [Nat.sub_self]; omega, hy1 hy, rfl, rfl⟩) (fun hy hh => hy0 hy hh.1) hy
    intro m
    induction m with
    | zero =>
      intro k x2 x3 hm hk1 hk2 g1 g0 g
      apply hP21
      have hek : e ≤ k := by omega
      have hkb : k < 2147483648 := by omega
      have heb : e < 2147483648 := by omega
      intro P58 hP58
      rw [nI_leU heb hkb]
      refine ⟨fun _ => hP58 ⟨fun hx => ?_, fun hx => bad (g0 hx)⟩, fun hh => absurd hek hh⟩
      obtain ⟨c, c1, c2, c3, c4, c5⟩ := g1 (g.resolve_left hx)
      have e4 : c = cN 32 0 (slT T (e - p) p) := c4
      subst c1; rw [e4]
      exact fun P74 hP74 => good P74 hP74 ⟨c3, c5⟩
    | succ m ih =>
      intro k x2 x3 hm hk1 hk2 g1 g0 g
      have hT := h.2.2 k
      apply hP21
      have hek : ¬ e ≤ k := by omega
      have hk8 : k < 8192 := by omega
      have hkb : k < 2147483648 := by omega
      have heb : e < 2147483648 := by omega
      intro P58 hP58
      rw [nI_leU heb hkb]
      refine ⟨fun hh => absurd hh hek, fun _ => ⟨fun hx => hP58 ⟨fun hx1 => absurd hx hx1, fun _ => bad (g0 hx)⟩, fun hx => ⟨nI_inU hk8 (by decide), ?_⟩⟩⟩
      clear hP58
      obtain ⟨c, c1, c2, c3, c4, c5⟩ := g1 (g.resolve_left hx)
      have hs : slT T (m + 1) k = T k :: slT T m (k + 1) := rfl
      rw [nI_ix (by omega), h.2.1 k (by omega)]
      refine k8_isLetter hT ⟨nI_inU (by omega) (by omega), ?_⟩
      unfold W_X8_withLetter
      intro x15 e15; subst e15; rw [nI_s]
      cases hsm : isSm (T k)
      · refine ih (k + 1) _ _ (by omega) (by omega) (by omega) (fun hh => absurd hh (by simp)) (fun _ hh => ?_) (Or.inl (by simp))
        have h3 := hh.2
        rw [c5, hs, List.all_cons, hsm] at h3
        simp at h3
      · have hrg := isSm_rng.mp hsm
        refine ih (k + 1) _ _ (by omega) (by omega) (by omega) (fun _ => ⟨32 * c + (T k - 96), ?_, ?_, c3, ?_, ?_⟩) (fun hh => absurd hh (by simp)) (Or.inr (by simp))
        · subst c1
          have hb : bC (T k) - nI 97 + 1 = nI (T k - 96) := by
            rw [bC_nI (by omega), nI_sub (by omega), nI_s]; congr 1; omega
          have hc : c < 36028797018963968 := by
            have h4 : 32 ^ (k - p) ≤ 32 ^ 11 := Nat.pow_le_pow_right (by omega) (by omega)
            have h5 : (32 : Nat) ^ 11 = 36028797018963968 := by decide
            omega
          rw [hb, oJ_nI (b := T k - 96) (by omega), or5 (by omega) hc]
        · rw [show k + 1 - p = (k - p) + 1 by omega, Nat.pow_succ]; omega
        · rw [← c4, hs]; rfl
        · rw [c5, hs, List.all_cons, hsm, Bool.true_and]
  rw [nI_sub (by omega), nI_ltU (by omega) (by omega)]
  exact ⟨fun hh => main 0 (fun e => absurd e (by decide)) (fun _ => by omega) (Or.inl rfl), fun hh => main 1 (fun _ => by omega) (fun e => absurd e (by decide)) (Or.inr rfl)⟩
end
