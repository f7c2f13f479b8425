/-! ===== PURE: bits of ints and longs ===== -/
def bt (x : Int32) (c : Nat) : Bool := x.toBitVec.getLsbD c
def bJ (x : Int64) (c : Nat) : Bool := x.toBitVec.getLsbD c
theorem bt_or (x y : Int32) (c : Nat) : bt (x ||| y) c = (bt x c || bt y c) := by unfold bt; rw [Int32.toBitVec_or, BitVec.getLsbD_or]
theorem bt_and (x y : Int32) (c : Nat) : bt (x &&& y) c = (bt x c && bt y c) := by unfold bt; rw [Int32.toBitVec_and, BitVec.getLsbD_and]
theorem bJ_or (x y : Int64) (c : Nat) : bJ (x ||| y) c = (bJ x c || bJ y c) := by unfold bJ; rw [Int64.toBitVec_or, BitVec.getLsbD_or]
theorem bJ_and (x y : Int64) (c : Nat) : bJ (x &&& y) c = (bJ x c && bJ y c) := by unfold bJ; rw [Int64.toBitVec_and, BitVec.getLsbD_and]
theorem bt_ge {x : Int32} {c : Nat} (h : 32 ≤ c) : bt x c = false := BitVec.getLsbD_of_ge _ _ h
theorem bJ_ge {x : Int64} {c : Nat} (h : 64 ≤ c) : bJ x c = false := BitVec.getLsbD_of_ge _ _ h
theorem bt_ext {x y : Int32} (h : ∀ c, c < 32 → bt x c = bt y c) : x = y := by
  apply Int32.toBitVec_inj.mp
  apply BitVec.eq_of_getLsbD_eq
  intro i hi; exact h i hi
theorem bJ_ext {x y : Int64} (h : ∀ c, c < 64 → bJ x c = bJ y c) : x = y := by
  apply Int64.toBitVec_inj.mp
  apply BitVec.eq_of_getLsbD_eq
  intro i hi; exact h i hi
theorem bt_0 (c : Nat) : bt 0 c = false := by unfold bt; show (0#32).getLsbD c = false; simp
theorem bJ_0 (c : Nat) : bJ 0 c = false := by unfold bJ; show (0#64).getLsbD c = false; simp
theorem bt_1 (c : Nat) : bt 1 c = decide (c = 0) := by
  unfold bt; show (1#32).getLsbD c = _; rw [BitVec.getLsbD_one]; simp
theorem bJ_1 (c : Nat) : bJ 1 c = decide (c = 0) := by
  unfold bJ; show (1#64).getLsbD c = _; rw [BitVec.getLsbD_one]; simp
theorem m31 {k : Nat} (h : k < 32) : nI k &&& 31 = nI k := by
  have : ∀ k : Fin 32, nI k.val &&& 31 = nI k.val := by decide
  exact this ⟨k, h⟩
theorem m63 {k : Nat} (h : k < 64) : (nI k).toInt64 &&& 63 = Int64.ofNat k := by
  have : ∀ k : Fin 64, (nI k.val).toInt64 &&& 63 = Int64.ofNat k.val := by decide
  exact this ⟨k, h⟩
theorem sm32 {k : Nat} (h : k < 32) : ((nI k).toBitVec.smod 32).toNat = k := by
  have : ∀ k : Fin 32, ((nI k.val).toBitVec.smod 32).toNat = k.val := by decide
  exact this ⟨k, h⟩
theorem sm64 {k : Nat} (h : k < 64) : ((Int64.ofNat k).toBitVec.smod 64).toNat = k := by
  have : ∀ k : Fin 64, ((Int64.ofNat k.val).toBitVec.smod 64).toNat = k.val := by decide
  exact this ⟨k, h⟩
theorem bt_shl {x : Int32} {k c : Nat} (hk : k < 32) : bt (x <<< (nI k &&& 31)) c = (decide (c < 32) && !decide (c < k) && bt x (c - k)) := by
  unfold bt
  rw [m31 hk, Int32.toBitVec_shiftLeft, BitVec.shiftLeft_eq', sm32 hk, BitVec.getLsbD_shiftLeft]
theorem bt_shr {x : Int32} {k c : Nat} (hk : k < 32) (hc : k + c < 32) : bt (x >>> (nI k &&& 31)) c = bt x (k + c) := by
  unfold bt
  rw [m31 hk, Int32.toBitVec_shiftRight, BitVec.sshiftRight_eq', sm32 hk, BitVec.getLsbD_sshiftRight]
  simp [hc]; omega
theorem bJ_shl {x : Int64} {k c : Nat} (hk : k < 64) : bJ (x <<< ((nI k).toInt64 &&& 63)) c = (decide (c < 64) && !decide (c < k) && bJ x (c - k)) := by
  unfold bJ
  rw [m63 hk, Int64.toBitVec_shiftLeft, BitVec.shiftLeft_eq', sm64 hk, BitVec.getLsbD_shiftLeft]
theorem bJ_shr {x : Int64} {k c : Nat} (hk : k < 64) (hc : k + c < 64) : bJ (x >>> ((nI k).toInt64 &&& 63)) c = bJ x (k + c) := by
  unfold bJ
  rw [m63 hk, Int64.toBitVec_shiftRight, BitVec.sshiftRight_eq', sm64 hk, BitVec.getLsbD_sshiftRight]
  simp [hc]; omega
theorem and1 (x : Int32) : x &&& 1 = if bt x 0 then 1 else 0 := by
  apply bt_ext
  intro c hc
  rw [bt_and, bt_1]
  by_cases h0 : c = 0
  · subst h0; cases hb : bt x 0 <;> simp [bt_0, bt_1]
  · cases hb : bt x 0 <;> simp [bt_0, bt_1, h0]
theorem andJ1 (x : Int64) : x &&& 1 = if bJ x 0 then 1 else 0 := by
  apply bJ_ext
  intro c hc
  rw [bJ_and, bJ_1]
  by_cases h0 : c = 0
  · subst h0; cases hb : bJ x 0 <;> simp [bJ_0, bJ_1]
  · cases hb : bJ x 0 <;> simp [bJ_0, bJ_1, h0]
/-- bit k of x, as it is asked -/
theorem bit_at {x : Int32} {k : Nat} (hk : k < 32) : (x >>> (nI k &&& 31)) &&& 1 = if bt x k then 1 else 0 := by
  rw [and1, bt_shr hk (by omega)]; rfl
theorem bitJ_at {x : Int64} {k : Nat} (hk : k < 64) : (x >>> ((nI k).toInt64 &&& 63)) &&& 1 = if bJ x k then 1 else 0 := by
  rw [andJ1, bJ_shr hk (by omega)]; rfl
theorem bt_one {k c : Nat} (hk : k < 32) : bt (1 <<< (nI k &&& 31)) c = decide (c = k) := by
  rw [bt_shl hk, bt_1]
  by_cases h : c = k
  · subst h; simp; omega
  · by_cases h2 : c < k
    · simp [h2]; omega
    · simp [h2, h]; omega
theorem bJ_one {k c : Nat} (hk : k < 64) : bJ (1 <<< ((nI k).toInt64 &&& 63)) c = decide (c = k) := by
  rw [bJ_shl hk, bJ_1]
  by_cases h : c = k
  · subst h; simp; omega
  · by_cases h2 : c < k
    · simp [h2]; omega
    · simp [h2, h]; omega
theorem bt_65535 {c : Nat} (hc : c < 32) : bt 65535 c = decide (c < 16) := by
  have : ∀ c : Fin 32, bt 65535 c.val = decide (c.val < 16) := by decide
  exact this ⟨c, hc⟩
