/-! ===== PURE: bytes written ===== -/
theorem and255r (y : Int32) : 0 ≤ (y &&& nI 255).toInt ∧ (y &&& nI 255).toInt < 256 := by
  have h1 : (y &&& nI 255).toBitVec.toNat < 256 := by
    rw [Int32.toBitVec_and, BitVec.toNat_and]
    exact Nat.lt_of_le_of_lt Nat.and_le_right (by decide)
  have h2 : (y &&& nI 255).toInt = (y &&& nI 255).toBitVec.toInt := rfl
  rw [h2, BitVec.toInt_eq_toNat_of_lt (by omega)]
  omega
def bv (y : Int32) : Nat := ix (y &&& nI 255)
theorem bv_lt (y : Int32) : bv y < 256 := by
  have := and255r y
  unfold bv
  rw [ix_eq]; omega
theorem and255 (y : Int32) : y &&& nI 255 = nI (bv y) := by
  have h := and255r y
  obtain ⟨n, hn, hlt⟩ := nI_ofU h.1
  unfold bv
  rw [hn, nI_ix hlt]
theorem bC_bv (y : Int32) : y.toInt8.toInt32 = bC (bv y) := by
  unfold bC
  rw [← and255, Int32.toInt8_and, show (nI 255).toInt8 = -1 from rfl, Int8.and_neg_one]
theorem nar8 (y : Int32) : vp_nar .byte y.toInt8.toInt32 = bC (bv y) := by
  rw [← bC_bv, vp_nar_byte, Int8.toInt8_toInt32]
set_option maxRecDepth 100000 in
theorem bC_and {b : Nat} (h : b < 256) : bC b &&& nI 255 = nI b := by
  have e : ∀ b ∈ List.range 256, bC b &&& nI 255 = nI b := by decide
  exact e b (List.mem_range.mpr h)
theorem j255 (z : Int64) : (z &&& 255).toInt32 = nI (bv z.toInt32) := by
  rw [Int64.toInt32_and, ← and255]; rfl
set_option maxRecDepth 100000 in
theorem fits8 {b : Nat} (h : b < 256) : fits .byte (.int (bC b)) = true := by
  have e : ∀ b ∈ List.range 256, fits .byte (.int (bC b)) = true := by decide
  exact e b (List.mem_range.mpr h)
/-! puts -/
def byt (v : Int32) (w : Nat) : List Nat := (List.range w).map (fun x => bv (v >>> (nI (8 * (w - 1 - x)) &&& 31)))
theorem byt_len (v : Int32) (w : Nat) : (byt v w).length = w := by unfold byt; rw [List.length_map, List.length_range]
theorem byt_at {v : Int32} {w x : Nat} (h : x < w) : (byt v w)[x]'(by rw [byt_len]; exact h) = bv (v >>> (nI (8 * (w - 1 - x)) &&& 31)) := by
  unfold byt
  rw [List.getElem_map, List.getElem_range]
def atC (s : yS) (W : List Nat) (k : Nat) : Prop := ∀ j, j < k → (sI s 2) j = bC (W.getD j 0)
def atM (s : yS) (W : List Nat) (k : Nat) : Prop := (sI s 139 5) = nI k ∧ ∀ j, j < k → (sI s 141) j = nI (W.getD j 0)
theorem drop_add {α : Type} {W r a : List α} {k : Nat} (h : W.drop k = a ++ r) : W.drop (k + a.length) = r := by
  rw [← List.drop_drop, h, List.drop_left]
theorem drop_get {W r a : List Nat} {k x : Nat} (h : W.drop k = a ++ r) (hx : x < a.length) : W.getD (k + x) 0 = a[x] := by
  have h1 : W[k + x]? = some a[x] := by
    rw [← List.getElem?_drop, h, List.getElem?_append_left hx, List.getElem?_eq_getElem hx]
  rw [List.getD_eq_getElem?_getD, h1]; rfl
theorem drop_len {α : Type} {W r a : List α} {k : Nat} (h : W.drop k = a ++ r) (ha : 0 < a.length) : k + a.length + r.length = W.length := by
  have := congrArg List.length h
  rw [List.length_drop, List.length_append] at this
  omega
section
variable {s : yS} {W : List Nat}
theorem c_put {v : Int32} {w k : Nat} {r : List Nat} {Q : Int32 → yS → Prop} (hW : W.length ≤ 8192) (hw : w ≤ 4) (hk : k ≤ W.length) (hd : W.drop k = byt v w ++ r) (h : atC s W k)
    (H : ∀ s', frM (fun a _ => a = 2) s s' → atC s' W (k + w) → W.drop (k + w) = r → k + w ≤ W.length → Q (nI (k + w)) s') : W_X5_put s 2 8192 (nI k) v (nI w) Q := by
  have hlen : k + w + r.length = W.length := by
    have := congrArg List.length hd
    rw [List.length_drop, List.length_append, byt_len] at this
    omega
  unfold W_X5_put
  intro P3 hP3
  suffices hL : ∀ (q x : Nat) (t : yS), x + q = w → frM (fun a _ => a = 2) s t → atC t W (k + x) → P3 (nI x) t from hL w 0 s (by omega) frM.rfl' h
  intro q
  induction q with
  | zero =>
    intro x t hx Ft At
    obtain rfl : x = w := by omega
    apply hP3
    refine ⟨fun _ => ?_, fun hz => absurd ((nI_leU (by omega) (by omega)).mpr (Nat.le_refl _)) hz⟩
    rw [nI_addU]
    refine H t Ft At ?_ (by omega)
    have := drop_add hd
    rw [byt_len] at this; exact this
  | succ q ih =>
    intro x t hx Ft At
    apply hP3
    refine ⟨fun hz => absurd ((nI_leU (by omega) (by omega)).mp hz) (by omega), fun _ => ?_⟩
    rw [nI_addU, nI_p (by omega), nI_sub (by omega), nI_mul, nI_ix (n := k + x) (by omega)]
    refine ⟨nI_inU (by omega) (by omega), ?_⟩
    intro s4 e4 x5 e5
    subst e5; rw [nI_s]
    refine ih (x + 1) s4 (by omega) (by subst e4; exact Ft.wI rfl) (fun j hj => ?_)
    subst e4
    by_cases c : j = k + x
    · subst c
      rw [sI_w, if_pos ⟨rfl, rfl⟩, drop_get hd (by rw [byt_len]; omega), byt_at (by omega), nar8]
    · rw [sI_w, if_neg (by omega)]; exact At j (by omega)
theorem k_put {v : Int32} {w k : Nat} {r : List Nat} {Q : yS → Prop} (hW : W.length ≤ 8192) (hw : w ≤ 4) (hk : k ≤ W.length) (hd : W.drop k = byt v w ++ r) (h : atM s W k)
    (H : ∀ s', frM (fun a i => a = 141 ∨ (a = 139 ∧ i = 5)) s s' → atM s' W (k + w) → W.drop (k + w) = r → k + w ≤ W.length → Q s') : W_X12_put s v (nI w) Q := by
  have hlen : k + w + r.length = W.length := by
    have := congrArg List.length hd
    rw [List.length_drop, List.length_append, byt_len] at this
    omega
  unfold W_X12_put
  intro P4 hP4 x7 e7
  have hend : ∀ t : yS, frM (fun a i => a = 141 ∨ (a = 139 ∧ i = 5)) s t → atM t W (k + w) → Q t := fun t Ft At => by
    refine H t Ft At ?_ (by omega)
    have := drop_add hd
    rw [byt_len] at this; exact this
  suffices hL : ∀ (q x : Nat) (t : yS), x + q = w → frM (fun a i => a = 141 ∨ (a = 139 ∧ i = 5)) s t → atM t W (k + x) → P4 (nI q - 1) t by
    subst e7; exact hL w 0 s (by omega) frM.rfl' h
  intro q
  induction q with
  | zero =>
    intro x t hx Ft At
    obtain rfl : x = w := by omega
    apply hP4
    exact ⟨fun _ => hend t Ft At, fun hz => absurd (by decide) hz⟩
  | succ q ih =>
    intro x t hx Ft At
    rw [nI_p (by omega)]
    apply hP4
    refine ⟨fun hz => absurd hz (nI_nneg (by omega)), fun _ => ?_⟩
    rw [At.1, nI_mul, nI_ix (n := k + x) (by omega), and255]
    refine ⟨nI_inU (by omega) (by omega), ?_⟩
    intro s4 e4
    have w4 : sI s4 139 5 = nI (k + x) := by subst e4; rw [sI_w, if_neg (by omega)]; exact At.1
    rw [w4, nI_s]
    intro s5 e5 x6 e6
    rw [show q + 1 - 1 = q from rfl] at e6 e4
    subst e6
    rw [← Int32.sub_eq_add_neg]
    refine ih (x + 1) s5 (by omega) (by subst e5; subst e4; exact (Ft.wI (by omega)).wI (by omega)) ⟨?_, fun j hj => ?_⟩
    · subst e5; rw [sI_w, if_pos ⟨rfl, rfl⟩]; rfl
    · subst e5; rw [sI_w, if_neg (by omega)]; subst e4
      by_cases c : j = k + x
      · subst c
        rw [sI_w, if_pos ⟨rfl, rfl⟩, drop_get hd (by rw [byt_len]; omega), byt_at (by omega), show w - 1 - x = q by omega]
      · rw [sI_w, if_neg (by omega)]; exact At.2 j (by omega)
end
