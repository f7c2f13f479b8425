/-! ===== PURE: ints as numbers ===== -/
theorem nI_addU (a b : Nat) : nI a + nI b = nI (a + b) := (Int32.ofNat_add a b).symm
theorem nI_mul (a b : Nat) : nI a * nI b = nI (a * b) := (Int32.ofNat_mul a b).symm
theorem nI_s (a : Nat) : nI a + 1 = nI (a + 1) := nI_addU a 1
theorem nI_0U : (0 : Int32) = nI 0 := rfl
theorem nI_1U : (1 : Int32) = nI 1 := rfl
theorem nI_toIntU {n : Nat} (h : n < 2147483648) : (nI n).toInt = n := Int32.toInt_ofNat_of_lt h
theorem nI_sub {a b : Nat} (h : b ≤ a) : nI a - nI b = nI (a - b) := by
  have e : nI a = nI (a - b) + nI b := by rw [nI_addU]; congr 1; omega
  rw [e, Int32.add_sub_cancel]
theorem nI_ltU {a b : Nat} (ha : a < 2147483648) (hb : b < 2147483648) : nI a < nI b ↔ a < b := by
  rw [Int32.lt_iff_toInt_lt, nI_toIntU ha, nI_toIntU hb]; omega
theorem nI_leU {a b : Nat} (ha : a < 2147483648) (hb : b < 2147483648) : nI a ≤ nI b ↔ a ≤ b := by
  rw [Int32.le_iff_toInt_le, nI_toIntU ha, nI_toIntU hb]; omega
theorem nI_inj {a b : Nat} (ha : a < 2147483648) (hb : b < 2147483648) : nI a = nI b ↔ a = b := by
  rw [← Int32.toInt_inj, nI_toIntU ha, nI_toIntU hb]; omega
theorem ix_eq (x : Int32) : ix x = x.toInt.toNat := rfl
theorem nI_ix {n : Nat} (h : n < 2147483648) : ix (nI n) = n := by rw [ix_eq, nI_toIntU h]; rfl
theorem vp_in_iffU {i : Int32} {n : Nat} : vp_in i n ↔ 0 ≤ i.toInt ∧ i.toInt < n := by
  unfold vp_in
  have e : ix i = i.toInt.toNat := rfl
  rw [Int32.lt_iff_toInt_lt, show i.toNatClampNeg = i.toInt.toNat from rfl, show (0 : Int32).toInt = 0 from rfl]
  omega
theorem nI_inU {a n : Nat} (h : a < n) (hn : n < 2147483648) : vp_in (nI a) n := by
  rw [vp_in_iffU, nI_toIntU (by omega)]; omega
theorem nI_nneg {n : Nat} (h : n < 2147483648) : ¬ nI n < 0 := by rw [nI_0U, nI_ltU h (by omega)]; omega
theorem nI_ne1 {n : Nat} (h : n < 2147483648) : ¬ nI n = -1 := by
  rw [← Int32.toInt_inj, nI_toIntU h]; intro e; have : (-1 : Int32).toInt = -1 := rfl; omega
theorem nI_posU {n : Nat} (h : n < 2147483648) : ¬ nI n < nI 0 := by rw [nI_ltU h (by omega)]; omega
theorem nar_0 : vp_nar .boolean 0 = 0 := rfl
theorem nar_1 : vp_nar .boolean 1 = 1 := rfl
/-- an int as a number -/
theorem nI_ofU {x : Int32} (h : 0 ≤ x.toInt) : ∃ n : Nat, x = nI n ∧ n < 2147483648 := by
  have h2 := Int32.toInt_lt x
  have h3 := Int32.le_toInt x
  refine ⟨x.toInt.toNat, ?_, by omega⟩
  rw [← Int32.toInt_inj, nI_toIntU (by omega)]; omega
theorem bm (x : Int) : Int.bmod x 4294967296 = (x + 2147483648) % 4294967296 - 2147483648 := by
  rw [Int.bmod_def]; omega
theorem i_add (x y : Int32) : (x + y).toInt = (x.toInt + y.toInt + 2147483648) % 4294967296 - 2147483648 := by
  rw [Int32.toInt_add, ← bm]
theorem i_sub (x y : Int32) : (x - y).toInt = (x.toInt - y.toInt + 2147483648) % 4294967296 - 2147483648 := by
  rw [Int32.toInt_sub, ← bm]
theorem i_rng (x : Int32) : -2147483648 ≤ x.toInt ∧ x.toInt < 2147483648 := ⟨Int32.le_toInt x, Int32.toInt_lt x⟩
/-! ===== PURE: reads behind writes ===== -/
theorem sI_w {s : yS} {a b i j : Nat} {x : Int32} : sI (wI s a i x) b j = if b = a ∧ j = i then x else sI s b j := sI_wI_eq
theorem sJ_w {s : yS} {a b i j : Nat} {x : Int64} : sJ (wJ s a i x) b j = if b = a ∧ j = i then x else sJ s b j := sJ_wJ_eq
theorem sR_w {s : yS} {a b i j : Nat} {x : Nat} : sR (wR s a i x) b j = if b = a ∧ j = i then x else sR s b j := sR_wR_eq
theorem sI_wC_eq {s : yS} {a b j : Nat} {f : Nat → Int32} : sI (wC s a f) b j = if b = a then f j else sI s b j := by
  by_cases hb : b = a
  · subst hb; rw [sI_wC_at, if_pos rfl]
  · rw [sI_wC_ne hb, if_neg hb]
/-! ===== PURE: loops ===== -/
/-- a loop that counts up to n -/
theorem up_to {α : Type} {P : Int32 → α → Prop} (I : Nat → α → Prop) (n : Nat) (hn : n < 2147483648)
    (step : ∀ k s, k < n → I k s → (∀ s', I (k + 1) s' → P (nI (k + 1)) s') → P (nI k) s)
    (last : ∀ s, I n s → P (nI n) s) : ∀ k s, k ≤ n → I k s → P (nI k) s := by
  intro k s hk h
  generalize hm : n - k = m
  induction m generalizing k s with
  | zero => have : k = n := by omega
            subst this; exact last s h
  | succ m ih => exact step k s (by omega) h (fun s' h' => ih (k + 1) s' (by omega) h' (by omega))
/-! ===== PURE: longs ===== -/
theorem lgc_lt0 {x y : Int64} : lg_cmp x y < 0 ↔ x.toInt < y.toInt := by
  unfold lg_cmp; simp only [gt_iff_lt, Int64.lt_iff_toInt_lt, ← Int64.toInt_inj]
  repeat' split
  all_goals (constructor <;> intro hh <;> first | omega | decide | exact absurd hh (by decide))
theorem lgc_le0 {x y : Int64} : lg_cmp x y ≤ 0 ↔ x.toInt ≤ y.toInt := by
  unfold lg_cmp; simp only [gt_iff_lt, Int64.lt_iff_toInt_lt, ← Int64.toInt_inj]
  repeat' split
  all_goals (constructor <;> intro hh <;> first | omega | decide | exact absurd hh (by decide))
theorem lgc_ge0 {x y : Int64} : 0 ≤ lg_cmp x y ↔ y.toInt ≤ x.toInt := by
  unfold lg_cmp; simp only [gt_iff_lt, Int64.lt_iff_toInt_lt, ← Int64.toInt_inj]
  repeat' split
  all_goals (constructor <;> intro hh <;> first | omega | decide | exact absurd hh (by decide))
theorem lgc_gt0 {x y : Int64} : 0 < lg_cmp x y ↔ y.toInt < x.toInt := by
  unfold lg_cmp; simp only [gt_iff_lt, Int64.lt_iff_toInt_lt, ← Int64.toInt_inj]
  repeat' split
  all_goals (constructor <;> intro hh <;> first | omega | decide | exact absurd hh (by decide))
theorem lgc_eq0 {x y : Int64} : lg_cmp x y = 0 ↔ x.toInt = y.toInt := by
  unfold lg_cmp; simp only [gt_iff_lt, Int64.lt_iff_toInt_lt, ← Int64.toInt_inj]
  repeat' split
  all_goals (constructor <;> intro hh <;> first | omega | decide | exact absurd hh (by decide))
theorem oJ_toInt {v : Int} (h1 : -9223372036854775808 ≤ v) (h2 : v < 9223372036854775808) : (Int64.ofInt v).toInt = v := Int64.toInt_ofInt_of_le h1 h2
theorem oJ_nI {b : Nat} (hb : b < 2147483648) : (nI b).toInt64 = Int64.ofInt (b : Int) := by
  rw [← Int64.toInt_inj, Int32.toInt_toInt64, nI_toIntU hb, oJ_toInt (by omega) (by omega)]
theorem nI_div {a b : Nat} (ha : a < 2147483648) (hb : b < 2147483648) : nI a / nI b = nI (a / b) := by
  rw [← Int32.toInt_inj, Int32.toInt_div, nI_toIntU ha, nI_toIntU hb, nI_toIntU (Nat.lt_of_le_of_lt (Nat.div_le_self a b) ha), Int.tdiv_eq_ediv_of_nonneg (by omega)]
  have h1 : ((a : Int) / (b : Int)) = ((a / b : Nat) : Int) := (Int.natCast_ediv a b).symm
  rw [h1]
  have h2 := Nat.div_le_self a b
  clear h1
  generalize a / b = q at h2 ⊢
  exact Int.bmod_eq_of_le (by omega) (by omega)
theorem nI_mod {a b : Nat} (ha : a < 2147483648) (hb : b < 2147483648) : nI a - nI a / nI b * nI b = nI (a % b) := by
  rw [nI_div ha hb, nI_mul, nI_sub (Nat.div_mul_le_self a b)]
  congr 1
  have := Nat.div_add_mod a b
  rw [Nat.mul_comm] at this; omega
theorem nI_p {a : Nat} (h : 1 ≤ a) : nI a - 1 = nI (a - 1) := nI_sub h
