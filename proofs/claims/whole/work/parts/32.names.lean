/-! ===== PURE: names as numbers ===== -/
def cN (B v : Nat) : List Nat → Nat
  | [] => v
  | b :: r => cN B (B * v + (b - 96)) r
def eN (B v : Nat) : List Nat → Nat
  | [] => v
  | b :: r => B * eN B v r + (b - 96)
theorem eN_app {B : Nat} : ∀ (x : List Nat) (v b : Nat), eN B v (x ++ [b]) = eN B (B * v + (b - 96)) x
  | [], v, b => rfl
  | c :: x, v, b => by show B * eN B v (x ++ [b]) + (c - 96) = _; rw [eN_app x v b]; rfl
theorem cN_rev {B : Nat} : ∀ (l : List Nat) (v : Nat), cN B v l = eN B v l.reverse
  | [], v => rfl
  | b :: r, v => by rw [List.reverse_cons, eN_app]; exact cN_rev r _
theorem isSm_rng {b : Nat} : isSm b = true ↔ 97 ≤ b ∧ b ≤ 122 := by unfold isSm; simp
theorem eN_inj {B : Nat} (hB : 27 ≤ B) : ∀ (x y : List Nat), x.all isSm = true → y.all isSm = true → eN B 0 x = eN B 0 y → x = y
  | [], [], _, _, _ => rfl
  | [], c :: y, _, hy, h => by
    rw [List.all_cons, Bool.and_eq_true, isSm_rng] at hy
    have : 0 = B * eN B 0 y + (c - 96) := h
    omega
  | b :: x, [], hx, _, h => by
    rw [List.all_cons, Bool.and_eq_true, isSm_rng] at hx
    have : B * eN B 0 x + (b - 96) = 0 := h
    omega
  | b :: x, c :: y, hx, hy, h => by
    rw [List.all_cons, Bool.and_eq_true, isSm_rng] at hx hy
    have h : B * eN B 0 x + (b - 96) = B * eN B 0 y + (c - 96) := h
    have h1 : (B * eN B 0 x + (b - 96)) % B = b - 96 := by rw [Nat.mul_add_mod, Nat.mod_eq_of_lt (by omega)]
    have h2 : (B * eN B 0 y + (c - 96)) % B = c - 96 := by rw [Nat.mul_add_mod, Nat.mod_eq_of_lt (by omega)]
    rw [h, h2] at h1
    have h3 : eN B 0 x = eN B 0 y := by
      have : B * eN B 0 x = B * eN B 0 y := by omega
      exact Nat.eq_of_mul_eq_mul_left (by omega) this
    rw [eN_inj hB x y hx.2 hy.2 h3, show b = c by omega]
theorem cN_inj {B : Nat} (hB : 27 ≤ B) {x y : List Nat} (hx : x.all isSm = true) (hy : y.all isSm = true) (h : cN B 0 x = cN B 0 y) : x = y := by
  rw [cN_rev, cN_rev] at h
  have := eN_inj hB x.reverse y.reverse (by rw [List.all_reverse]; exact hx) (by rw [List.all_reverse]; exact hy) h
  simpa using congrArg List.reverse this
theorem cN_lt {B : Nat} (hB : 27 ≤ B) : ∀ (l : List Nat) (v : Nat), l.all isSm = true → cN B v l < (v + 1) * B ^ l.length
  | [], v, _ => by show v < _; simp
  | b :: r, v, h => by
    rw [List.all_cons, Bool.and_eq_true, isSm_rng] at h
    have := cN_lt hB r (B * v + (b - 96)) h.2
    refine Nat.lt_of_lt_of_le this ?_
    rw [List.length_cons, Nat.pow_succ, Nat.mul_comm (B ^ r.length) B, ← Nat.mul_assoc]
    refine Nat.mul_le_mul_right _ ?_
    rw [Nat.add_mul, Nat.one_mul, Nat.mul_comm v B]; omega
theorem cN_b32 {l : List Nat} (h : l.all isSm = true) (h2 : l.length ≤ 12) : cN 32 0 l < 1152921504606846976 := by
  have h3 := cN_lt (B := 32) (by omega) l 0 h
  have h4 : 32 ^ l.length ≤ 32 ^ 12 := Nat.pow_le_pow_right (by omega) h2
  have h5 : (32 : Nat) ^ 12 = 1152921504606846976 := by decide
  omega
theorem cN_b27 {l : List Nat} (h : l.all isSm = true) (h2 : l.length ≤ 12) : cN 27 0 l < 1152921504606846976 := by
  have h3 := cN_lt (B := 27) (by omega) l 0 h
  have h4 : 27 ^ l.length ≤ 27 ^ 12 := Nat.pow_le_pow_right (by omega) h2
  have h5 : (27 : Nat) ^ 12 < 1152921504606846976 := by decide
  omega
theorem c27_cN : ∀ (l : List Nat) (v : Nat), l.all isSm = true → c27 (v : Int) l = (cN 27 v l : Int)
  | [], v, _ => rfl
  | b :: r, v, h => by
    rw [List.all_cons, Bool.and_eq_true, isSm_rng] at h
    show c27 (27 * (v : Int) + (b : Int) - 96) r = (cN 27 (27 * v + (b - 96)) r : Int)
    rw [← c27_cN r _ h.2]; congr 1; omega
/-- a name: letters, 12 at most -/
def isNm (l : List Nat) : Prop := l.all isSm = true ∧ l.length ≤ 12
theorem c27_inj {x y : List Nat} (hx : isNm x) (hy : isNm y) : Int64.ofInt (c27 0 x) = Int64.ofInt (c27 0 y) ↔ x = y := by
  constructor
  · intro h
    have e1 : c27 0 x = (cN 27 0 x : Int) := c27_cN x 0 hx.1
    have e2 : c27 0 y = (cN 27 0 y : Int) := c27_cN y 0 hy.1
    have i1 := cN_b27 hx.1 hx.2
    have i2 := cN_b27 hy.1 hy.2
    rw [← Int64.toInt_inj, oJ_toInt (by omega) (by omega), oJ_toInt (by omega) (by omega), e1] at h
    exact cN_inj (B := 27) (by omega) hx.1 hy.1 (by rw [e2] at h; omega)
  · rintro rfl; rfl
theorem c32_inj {x y : List Nat} (hx : isNm x) (hy : isNm y) : Int64.ofInt (cN 32 0 x) = Int64.ofInt (cN 32 0 y) ↔ x = y := by
  constructor
  · intro h
    have i1 := cN_b32 hx.1 hx.2
    have i2 := cN_b32 hy.1 hy.2
    have j1 : (Int64.ofInt (cN 32 0 x : Int)).toInt = (cN 32 0 x : Int) := oJ_toInt (by omega) (by omega)
    have j2 : (Int64.ofInt (cN 32 0 y : Int)).toInt = (cN 32 0 y : Int) := oJ_toInt (by omega) (by omega)
    rw [← Int64.toInt_inj, j1, j2] at h
    exact cN_inj (B := 32) (by omega) hx.1 hy.1 (by omega)
  · rintro rfl; rfl
theorem wdL_nm : ∀ w ∈ wdL, isNm w := by
  intro w hw
  have : ∀ w ∈ wdL, w.all isSm = true ∧ w.length ≤ 12 := by decide
  exact this w hw
theorem wdL_nd : wdL.Nodup := by decide
/-- the tokens' kinds, names and places -/
theorem tok_cases (T : Nat → Nat) (n q : Nat) (hq : q ≤ n) : let t := tokAt T n q
    tkK t ≤ 6 ∧ tkP t = q ∧ tkX t ≤ n ∧ (2 ≤ tkK t → q < tkX t) ∧ (tkK t = 5 ∨ tkK t = 6 → isNm (tkN t)) ∧ (tkK t = 5 → ¬ tkN t ∈ wdL) ∧ (tkK t = 6 → tkN t ∈ wdL ∧ tkV t = (wdL.idxOf (tkN t) : Int)) ∧ (tkK t = 4 → -2147483648 ≤ tkV t ∧ tkV t ≤ 2147483647) ∧ (tkK t ≠ 4 → tkK t ≠ 6 → tkV t = 0) ∧ (tkK t = 0 → q = n) := by
  dsimp only
  unfold tokAt
  split
  · have : q = n := by omega
    subst this; simp [tkK, tkP, tkX, tkN, tkV]
  · split
    · simp [tkK, tkP, tkX, tkN, tkV]; omega
    · split
      · simp [tkK, tkP, tkX, tkN, tkV]; omega
      · split
        · simp [tkK, tkP, tkX, tkN, tkV]; omega
        · rename_i h0 h40 h41 hw
          have hr := runT_le (T := T) (n - q) q
          have hr1 : q < runT T (n - q) q := by
            have hwd : isWd (T q) = true := by simpa using hw
            rw [show n - q = (n - q - 1) + 1 by omega, runT, if_pos hwd]
            have := (runT_le (T := T) (n - q - 1) (q + 1)).1; omega
          generalize runT T (n - q) q = e at hr hr1
          dsimp only
          have hnu : ∀ (neg : Bool) (l : List Nat), let t := nuTok q e neg l
              tkK t ≤ 6 ∧ tkP t = q ∧ tkX t ≤ n ∧ (2 ≤ tkK t → q < tkX t) ∧ (tkK t = 5 ∨ tkK t = 6 → isNm (tkN t)) ∧ (tkK t = 5 → ¬ tkN t ∈ wdL) ∧ (tkK t = 6 → tkN t ∈ wdL ∧ tkV t = (wdL.idxOf (tkN t) : Int)) ∧ (tkK t = 4 → -2147483648 ≤ tkV t ∧ tkV t ≤ 2147483647) ∧ (tkK t ≠ 4 → tkK t ≠ 6 → tkV t = 0) ∧ (tkK t = 0 → q = n) := by
            intro neg l
            unfold nuTok
            by_cases g : nuG neg l
            · rw [if_pos g]; have := g.2.2; simp [tkK, tkP, tkX, tkN, tkV]; omega
            · rw [if_neg g]; simp [tkK, tkP, tkX, tkN, tkV]; omega
          split
          · unfold nmTok
            split
            · rename_i hg
              have hnm : isNm (slT T (e - q) q) := ⟨hg.2, by rw [slT_len]; exact hg.1⟩
              split
              · rename_i hin; simp [tkK, tkP, tkX, tkN, tkV]; exact ⟨by omega, by omega, hnm, hin⟩
              · rename_i hin; simp [tkK, tkP, tkX, tkN, tkV]; exact ⟨by omega, by omega, hnm, hin⟩
            · simp [tkK, tkP, tkX, tkN, tkV]; omega
          · split
            · exact hnu true _
            · exact hnu false _
