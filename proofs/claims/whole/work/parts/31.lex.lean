/-! ===== PURE: the tokens of a text ===== -/
def isDg (b : Nat) : Bool := 48 ≤ b && b ≤ 57
def isSm (b : Nat) : Bool := 97 ≤ b && b ≤ 122
def isWd (b : Nat) : Bool := isDg b || isSm b || b == 45
def isBl (b : Nat) : Bool := b == 32 || b == 10
def skipT (T : Nat → Nat) : Nat → Nat → Nat
  | 0, p => p
  | m + 1, p => if isBl (T p) then skipT T m (p + 1) else p
def runT (T : Nat → Nat) : Nat → Nat → Nat
  | 0, p => p
  | m + 1, p => if isWd (T p) then runT T m (p + 1) else p
theorem skipT_le {T : Nat → Nat} : ∀ (m p : Nat), p ≤ skipT T m p ∧ skipT T m p ≤ p + m
  | 0, p => ⟨Nat.le_refl _, Nat.le_refl _⟩
  | m + 1, p => by
    unfold skipT; split
    · have := skipT_le (T := T) m (p + 1); omega
    · omega
theorem runT_le {T : Nat → Nat} : ∀ (m p : Nat), p ≤ runT T m p ∧ runT T m p ≤ p + m
  | 0, p => ⟨Nat.le_refl _, Nat.le_refl _⟩
  | m + 1, p => by
    unfold runT; split
    · have := runT_le (T := T) m (p + 1); omega
    · omega
theorem runT_wd {T : Nat → Nat} : ∀ (m p k : Nat), p ≤ k → k < runT T m p → isWd (T k) = true
  | 0, p, k, h1, h2 => by unfold runT at h2; omega
  | m + 1, p, k, h1, h2 => by
    unfold runT at h2; split at h2
    · by_cases hk : k = p
      · subst hk; assumption
      · exact runT_wd m (p + 1) k (by omega) h2
    · omega
/-- a slice -/
def slT (T : Nat → Nat) : Nat → Nat → List Nat
  | 0, _ => []
  | m + 1, p => T p :: slT T m (p + 1)
/-- the number of digits -/
def dvL (v : Nat) : List Nat → Nat
  | [] => v
  | b :: r => dvL (10 * v + (b - 48)) r
def c27 (v : Int) : List Nat → Int
  | [] => v
  | b :: r => c27 (27 * v + (b : Int) - 96) r
/-- the reserved words, in the klass's order: counter node up zero go arg count not any less same more -/
def wdL : List (List Nat) := [[99, 111, 117, 110, 116, 101, 114], [110, 111, 100, 101], [117, 112], [122, 101, 114, 111], [103, 111], [97, 114, 103], [99, 111, 117, 110, 116], [110, 111, 116], [97, 110, 121], [108, 101, 115, 115], [115, 97, 109, 101], [109, 111, 114, 101]]
/-- kind (0 end, 1 bad, 2 bracket, 3 bracket back, 4 number, 5 name, 6 word), place, number or word, name, next -/
abbrev Tok : Type := Nat × Nat × Int × List Nat × Nat
def tkK (t : Tok) : Nat := t.1
def tkP (t : Tok) : Nat := t.2.1
def tkV (t : Tok) : Int := t.2.2.1
def tkN (t : Tok) : List Nat := t.2.2.2.1
def tkX (t : Tok) : Nat := t.2.2.2.2
def nmTok (q e : Nat) (l : List Nat) : Tok :=
  if e - q ≤ 12 ∧ l.all isSm then
    (if l ∈ wdL then (6, q, (wdL.idxOf l : Int), l, e) else (5, q, 0, l, e))
  else (1, q, 0, [], e)
def nuV (neg : Bool) (l : List Nat) : Int := if neg then -(dvL 0 l : Int) else dvL 0 l
abbrev nuG (neg : Bool) (l : List Nat) : Prop := l ≠ [] ∧ l.all isDg = true ∧ -2147483648 ≤ nuV neg l ∧ nuV neg l ≤ 2147483647
def nuTok (q e : Nat) (neg : Bool) (l : List Nat) : Tok := if nuG neg l then (4, q, nuV neg l, [], e) else (1, q, 0, [], e)
def tokAt (T : Nat → Nat) (n q : Nat) : Tok :=
  if n ≤ q then (0, n, 0, [], n)
  else if T q = 40 then (2, q, 0, [], q + 1)
  else if T q = 41 then (3, q, 0, [], q + 1)
  else if isWd (T q) = false then (1, q, 0, [], q)
  else
    let e := runT T (n - q) q
    if isSm (T q) then nmTok q e (slT T (e - q) q)
    else if T q = 45 then nuTok q e true (slT T (e - (q + 1)) (q + 1))
    else nuTok q e false (slT T (e - q) q)
def tokS (T : Nat → Nat) (n p : Nat) : Tok := tokAt T n (skipT T (n - p) p)
theorem slT_len {T : Nat → Nat} : ∀ (m p : Nat), (slT T m p).length = m
  | 0, p => rfl
  | m + 1, p => by unfold slT; rw [List.length_cons, slT_len m (p + 1)]
/-! ===== the reference's text and token ===== -/
/-- the reference's text is T, n long -/
def txM (s : yS) (T : Nat → Nat) (n : Nat) : Prop := n ≤ 8192 ∧ (sI s 139 9) = nI n ∧ (∀ k, k < n → (sI s 143) k = nI (T k)) ∧ ∀ k, T k < 256
/-- all but what next changes is the same -/
def nxF (s s' : yS) : Prop := (∀ a i, ¬ (a = 139 ∧ (i = 10 ∨ i = 11 ∨ i = 12 ∨ i = 15 ∨ i = 16)) → sI s' a i = sI s a i) ∧ (∀ a i, ¬ (a = 139 ∧ (i = 13 ∨ i = 14)) → sJ s' a i = sJ s a i) ∧ ∀ a i, sR s' a i = sR s a i
theorem nxF.rfl' {s : yS} : nxF s s := ⟨fun _ _ _ => rfl, fun _ _ _ => rfl, fun _ _ => rfl⟩
theorem nxF.trans {s t u : yS} (h : nxF s t) (k : nxF t u) : nxF s u :=
  ⟨fun a i e => (k.1 a i e).trans (h.1 a i e), fun a i e => (k.2.1 a i e).trans (h.2.1 a i e), fun a i => (k.2.2 a i).trans (h.2.2 a i)⟩
theorem nxF.wI {s t : yS} {i : Nat} {x : Int32} (h : nxF s t) (hi : i = 10 ∨ i = 11 ∨ i = 12 ∨ i = 15 ∨ i = 16) : nxF s (wI t 139 i x) := by
  refine h.trans ⟨fun a j e => ?_, fun a j e => rfl, fun a j => rfl⟩
  rw [sI_w, if_neg]; rintro ⟨rfl, rfl⟩; exact e ⟨rfl, hi⟩
theorem nxF.wJ {s t : yS} {i : Nat} {x : Int64} (h : nxF s t) (hi : i = 13 ∨ i = 14) : nxF s (wJ t 139 i x) := by
  refine h.trans ⟨fun a j e => rfl, fun a j e => ?_, fun a j => rfl⟩
  rw [sJ_w, if_neg]; rintro ⟨rfl, rfl⟩; exact e ⟨rfl, hi⟩
theorem nxF.txM {s t : yS} {T : Nat → Nat} {n : Nat} (h : nxF s t) (k : txM s T n) : txM t T n := by
  obtain ⟨h1, h2, h3, h4⟩ := k
  refine ⟨h1, ?_, fun j hj => ?_, h4⟩
  · rw [h.1 _ _ (by omega)]; exact h2
  · rw [h.1 _ _ (by omega)]; exact h3 j hj
section
variable {s : yS} {T : Nat → Nat} {n : Nat}
theorem k_letterAt {k : Nat} {Q : Int32 → Prop} (h : txM s T n) (hk : k < 2147483648) (H : Q (if k < n then nI (T k) else 0)) : W_X12_letterAt s (nI k) Q := by
  obtain ⟨h1, h2, h3, h4⟩ := h
  unfold W_X12_letterAt
  rw [h2, nI_leU (by omega) hk]
  refine ⟨fun e => ?_, fun e => ⟨nI_inU (by omega) (by omega), ?_⟩⟩
  · rw [if_neg (by omega)] at H; exact H
  · rw [if_pos (by omega)] at H; rw [nI_ix hk, h3 k (by omega)]; exact H
theorem k_isDigit {b : Nat} {Q : Int32 → Prop} (hb : b < 256) (H : Q (if isDg b then 1 else 0)) : W_X12_isDigit s (nI b) Q := by
  unfold W_X12_isDigit; unfold isDg at H
  rw [nI_ltU (by omega) (by omega), nI_ltU (by omega) (by omega)]
  refine ⟨fun e => ?_, fun e => ⟨fun e2 => ?_, fun e2 => ?_⟩⟩
  · rwa [if_neg (by simp; omega)] at H
  · rwa [if_neg (by simp; omega)] at H
  · rwa [if_pos (by simp; omega)] at H
theorem k_isSmall {b : Nat} {Q : Int32 → Prop} (hb : b < 256) (H : Q (if isSm b then 1 else 0)) : W_X12_isSmall s (nI b) Q := by
  unfold W_X12_isSmall; unfold isSm at H
  rw [nI_ltU (by omega) (by omega), nI_ltU (by omega) (by omega)]
  refine ⟨fun e => ?_, fun e => ⟨fun e2 => ?_, fun e2 => ?_⟩⟩
  · rwa [if_neg (by simp; omega)] at H
  · rwa [if_neg (by simp; omega)] at H
  · rwa [if_pos (by simp; omega)] at H
theorem k_isOfWord {b : Nat} {Q : Int32 → Prop} (hb : b < 256) (H : Q (if isWd b then 1 else 0)) : W_X12_isOfWord s (nI b) Q := by
  unfold W_X12_isOfWord; unfold isWd at H
  refine k_isDigit hb ⟨fun e => ?_, fun e => k_isSmall hb ⟨fun e2 => ?_, fun e2 => ?_⟩⟩
  · by_cases c : isDg b = true
    · simp [c] at H; exact H
    · rw [if_neg c] at e; exact absurd rfl e
  · by_cases c : isSm b = true
    · simp [c] at H; exact H
    · rw [if_neg c] at e2; exact absurd rfl e2
  · by_cases c : isDg b = true
    · rw [if_pos c] at e; exact absurd e (by decide)
    · by_cases c2 : isSm b = true
      · rw [if_pos c2] at e2; exact absurd e2 (by decide)
      · rw [nI_inj (by omega) (by omega)]
        simp [c, c2] at H
        exact ⟨fun e3 => by rwa [if_neg e3] at H, fun e3 => by rwa [if_pos e3] at H⟩
theorem k_wrong {w p : Int32} {Q : yS → Prop} (H0 : ¬ (sI s 139 15) = 0 → Q s) (H1 : (sI s 139 15) = 0 → Q (wI (wI s 139 15 w) 139 16 p)) : W_X12_wrong s w p Q := by
  unfold W_X12_wrong
  refine ⟨H0, fun e s1 h1 s2 h2 => ?_⟩
  subst h1; subst h2; exact H1 e
end
