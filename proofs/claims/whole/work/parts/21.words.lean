/-! ===== the reference's words ===== -/
section XWords
variable {G : xG} {h : xH} {z g : Nat} {A : Nat → Nat} {B : Nat → Value} {I : Nat → Int32} {J : Nat → Int64}
/-- the number of a text: 27 to each letter -/
def y_nm : List Int32 → Int64 → Int64
  | [], v => v
  | b :: r, v => y_nm r (27 * v + b.toInt64 - 96)
theorem y_nmS {bs : List Int32} {k : Nat} (hk : k < bs.length) (v : Int64) : y_nm (bs.drop k) v = y_nm (bs.drop (k + 1)) (27 * v + (bs.getD k 0).toInt64 - 96) := by
  rw [List.drop_eq_getElem_cons hk]
  show y_nm _ _ = _
  rw [List.getD_eq_getElem?_getD, List.getElem?_eq_getElem hk]
  rfl
set_option maxRecDepth 100000 in
set_option maxHeartbeats 4000000 in
theorem l_X12_named (hW : xW G) (hcl : q_cl G = vwCl) (hJ : y_J G) {q v : Nat} {bs : List Int32} (hq : y_S G q v bs) (hO : xO G mX12_named tbX12_named ptX12_named) : ∀ (r k : Nat) (x : Int64), k + r = bs.length →
    xEx G mX12_named 4 [(3, .int (nI k)), (1, .long x), (0, .ref q)] [] h z 0 0 (fun w h' z' => z' = z ∧ h' = h ∧ w = some (.long (y_nm (bs.drop k) x))) := by
  have hn := hq.2.2.2.2.1
  intro r
  induction r with
  | zero =>
    intro k x hk
    refine s_iload_n (nx := 5) hO rfl rfl rfl ?_
    refine s_aload_n (nx := 6) hO rfl rfl rfl ?_
    refine s_callX [] (nx := 9) hq.1 hO rfl kX12_named_247 (c_J0_length hW hcl hJ hq) rfl rfl (Nat.le_of_ble_eq_true rfl) (by decide) (by decide) rfl (fun w h' z' q9 => ?_)
    obtain ⟨rfl, rfl, rfl⟩ := q9
    refine s_icmp_ge (nx := 12) hO rfl rfl (fun c => ?_) (fun c => ?_)
    · refine s_lload_n (nx := 36) hO rfl rfl rfl ?_
      refine s_lret hO rfl rfl ⟨rfl, rfl, ?_⟩
      rw [List.drop_eq_nil_of_le (by omega)]
      rfl
    · exact absurd (nI_le (by omega) (by omega)) c
  | succ r ih =>
    intro k x hk
    refine s_iload_n (nx := 5) hO rfl rfl rfl ?_
    refine s_aload_n (nx := 6) hO rfl rfl rfl ?_
    refine s_callX [] (nx := 9) hq.1 hO rfl kX12_named_247 (c_J0_length hW hcl hJ hq) rfl rfl (Nat.le_of_ble_eq_true rfl) (by decide) (by decide) rfl (fun w h' z' q9 => ?_)
    obtain ⟨rfl, rfl, rfl⟩ := q9
    refine s_icmp_ge (nx := 12) hO rfl rfl (fun c => absurd c (nI_ge (by omega) (by omega))) (fun c => ?_)
    refine s_ldc2_w (nx := 15) hO rfl rfl rfl ?_
    refine s_lload_n (nx := 16) hO rfl rfl rfl ?_
    refine s_lmul (nx := 17) hO rfl rfl ?_
    refine s_aload_n (nx := 18) hO rfl rfl rfl ?_
    refine s_iload_n (nx := 19) hO rfl rfl rfl ?_
    refine s_callX [.int (nI k)] (nx := 22) hq.1 hO rfl kX12_named_253 (c_J0_charAt hW hcl hJ hq (i := k) (by omega)) rfl rfl (Nat.le_of_ble_eq_true rfl) (by decide) (by decide) rfl (fun w h' z' q9 => ?_)
    obtain ⟨rfl, rfl, rfl⟩ := q9
    refine s_i2l (nx := 23) hO rfl rfl ?_
    refine s_ladd (nx := 24) hO rfl rfl ?_
    refine s_ldc2_w (nx := 27) hO rfl rfl rfl ?_
    refine s_lsub (nx := 28) hO rfl rfl ?_
    refine s_lstore_n (nx := 29) (l' := [(1, _), (3, _), (0, _)]) hO rfl (by decide) rfl rfl ?_
    refine s_iinc (y := nI (k + 1)) (nx := 32) (l' := [(3, _), (1, _), (0, _)]) hO rfl (by decide) rfl (nI_succ k).symm rfl rfl ?_
    refine s_goto hO rfl ?_
    rw [y_nmS (show k < bs.length by omega)]
    exact ih (k + 1) _ (by omega)
set_option maxRecDepth 100000 in
set_option maxHeartbeats 4000000 in
/-- GuardForgeModel.named -/
theorem c_X12_named (hW : xW G) (hcl : q_cl G = vwCl) (hJ : y_J G) {q v : Nat} {bs : List Int32} (hq : y_S G q v bs) : xC G mX12_named [.ref q] h z 0 0 (fun w h' z' => z' = z ∧ h' = h ∧ w = some (.long (y_nm bs 0))) := by
  have hO : xO G mX12_named tbX12_named ptX12_named := ⟨tkX12_named, pkX12_named hcl⟩
  refine xC.of hW (by decide) rfl (Nat.le_of_ble_eq_true rfl) ?_
  refine s_lconst (x := 0) (nx := 1) hO rfl (by decide) rfl ?_
  refine s_lstore_n (nx := 2) (l' := [(1, _), (0, _)]) hO rfl (by decide) rfl rfl ?_
  refine s_iconst (x := nI 0) (nx := 3) hO rfl (by decide) rfl ?_
  refine s_istore_n (nx := 4) (l' := [(3, _), (1, _), (0, _)]) hO rfl (by decide) rfl rfl ?_
  exact l_X12_named hW hcl hJ hq hO bs.length 0 0 (by omega)
theorem y_cmp0 (x y : Int64) : lg_cmp x y = 0 ↔ x = y := by
  unfold lg_cmp
  by_cases h1 : x > y
  · rw [if_pos h1]
    exact ⟨fun e => absurd e (by decide), fun e => absurd (e ▸ h1) (Int64.lt_irrefl)⟩
  · rw [if_neg h1]
    by_cases h2 : x = y
    · rw [if_pos h2]
      exact ⟨fun _ => h2, fun _ => rfl⟩
    · rw [if_neg h2]
      exact ⟨fun e => absurd e (by decide), fun e => absurd e h2⟩
/-- is the token this word? -/
def y_is (I : Nat → Int32) (J : Nat → Int64) (n : Int64) : Prop := I 11 = nI 2 ∧ J 13 = n
set_option maxRecDepth 100000 in
set_option maxHeartbeats 4000000 in
/-- GuardForgeModel.isWord -/
theorem c_X12_isWord (hW : xW G) (hcl : q_cl G = vwCl) (hJ : y_J G) {q v : Nat} {bs : List Int32} (hq : y_S G q v bs) (hg : h g = some (.inr (12, oX12 A B I J))) : xC G mX12_isWord [.ref g, .ref q] h z 0 0 (fun w h' z' => z' = z ∧ h' = h ∧ ((y_is I J (y_nm bs 0) ∧ w = some (.int 1)) ∨ (¬ y_is I J (y_nm bs 0) ∧ w = some (.int 0)))) := by
  have hO : xO G mX12_isWord tbX12_isWord ptX12_isWord := ⟨tkX12_isWord, pkX12_isWord hcl⟩
  refine xC.of hW (by decide) rfl (Nat.le_of_ble_eq_true rfl) ?_
  refine s_aload_n (nx := 1) hO rfl rfl rfl ?_
  refine s_getf (nx := 4) hO rfl rfl hg rfl rfl ?_
  refine s_iconst (x := nI 2) (nx := 5) hO rfl (by decide) rfl ?_
  refine s_icmp_ne (nx := 8) hO rfl rfl (fun c5 => ?_) (fun c5 => ?_)
  · refine s_iconst (x := 0) (nx := 25) hO rfl (by decide) rfl ?_
    exact s_iret hO rfl rfl rfl ⟨rfl, rfl, Or.inr ⟨fun e => c5 e.1, rfl⟩⟩
  · refine s_aload_n (nx := 9) hO rfl rfl rfl ?_
    refine s_getf (nx := 12) hO rfl rfl hg rfl rfl ?_
    refine s_aload_n (nx := 13) hO rfl rfl rfl ?_
    refine s_callS [.ref q] (nx := 16) hO rfl kX12_isWord_335 (c_X12_named hW hcl hJ hq) rfl rfl (Nat.le_of_ble_eq_true rfl) (by decide) (by decide) rfl (fun w h' z' q9 => ?_)
    obtain ⟨rfl, rfl, rfl⟩ := q9
    refine s_lcmp (nx := 17) hO rfl rfl ?_
    refine s_if_ne (nx := 20) hO rfl rfl (fun c17 => ?_) (fun c17 => ?_)
    · refine s_iconst (x := 0) (nx := 25) hO rfl (by decide) rfl ?_
      exact s_iret hO rfl rfl rfl ⟨rfl, rfl, Or.inr ⟨fun e => c17 ((y_cmp0 _ _).mpr e.2), rfl⟩⟩
    · refine s_iconst (x := 1) (nx := 21) hO rfl (by decide) rfl ?_
      refine s_goto hO rfl ?_
      exact s_iret hO rfl rfl rfl ⟨rfl, rfl, Or.inl ⟨⟨c5, (y_cmp0 _ _).mp c17⟩, rfl⟩⟩

/-- the words of the reference: place in the pool, text, bytes -/
def y_w339 : List Int32 := [99, 111, 117, 110, 116, 101, 114]
def y_w345 : List Int32 := [117, 112]
def y_w347 : List Int32 := [122, 101, 114, 111]
def y_w349 : List Int32 := [110, 111, 100, 101]
def y_w351 : List Int32 := [103, 111]
def y_w353 : List Int32 := [97, 114, 103]
def y_w355 : List Int32 := [99, 111, 117, 110, 116]
def y_w357 : List Int32 := [110, 111, 116]
def y_w359 : List Int32 := [97, 110, 121]
def y_w361 : List Int32 := [108, 101, 115, 115]
def y_w363 : List Int32 := [115, 97, 109, 101]
def y_w365 : List Int32 := [109, 111, 114, 101]
/-- the constants are there: at the addresses q, their bytes at v -/
def y_Ws (G : xG) (q v : Nat → Nat) : Prop := (∀ (U : State) (H : Heap), q_X G U H → vk_R "GuardForgeModel" 339 "counter" (q 339) U) ∧ y_S G (q 339) (v 339) y_w339 ∧ (∀ (U : State) (H : Heap), q_X G U H → vk_R "GuardForgeModel" 345 "up" (q 345) U) ∧ y_S G (q 345) (v 345) y_w345 ∧ (∀ (U : State) (H : Heap), q_X G U H → vk_R "GuardForgeModel" 347 "zero" (q 347) U) ∧ y_S G (q 347) (v 347) y_w347 ∧ (∀ (U : State) (H : Heap), q_X G U H → vk_R "GuardForgeModel" 349 "node" (q 349) U) ∧ y_S G (q 349) (v 349) y_w349 ∧ (∀ (U : State) (H : Heap), q_X G U H → vk_R "GuardForgeModel" 351 "go" (q 351) U) ∧ y_S G (q 351) (v 351) y_w351 ∧ (∀ (U : State) (H : Heap), q_X G U H → vk_R "GuardForgeModel" 353 "arg" (q 353) U) ∧ y_S G (q 353) (v 353) y_w353 ∧ (∀ (U : State) (H : Heap), q_X G U H → vk_R "GuardForgeModel" 355 "count" (q 355) U) ∧ y_S G (q 355) (v 355) y_w355 ∧ (∀ (U : State) (H : Heap), q_X G U H → vk_R "GuardForgeModel" 357 "not" (q 357) U) ∧ y_S G (q 357) (v 357) y_w357 ∧ (∀ (U : State) (H : Heap), q_X G U H → vk_R "GuardForgeModel" 359 "any" (q 359) U) ∧ y_S G (q 359) (v 359) y_w359 ∧ (∀ (U : State) (H : Heap), q_X G U H → vk_R "GuardForgeModel" 361 "less" (q 361) U) ∧ y_S G (q 361) (v 361) y_w361 ∧ (∀ (U : State) (H : Heap), q_X G U H → vk_R "GuardForgeModel" 363 "same" (q 363) U) ∧ y_S G (q 363) (v 363) y_w363 ∧ (∀ (U : State) (H : Heap), q_X G U H → vk_R "GuardForgeModel" 365 "more" (q 365) U) ∧ y_S G (q 365) (v 365) y_w365
def y_res (I : Nat → Int32) (J : Nat → Int64) : Prop := y_is I J (y_nm y_w339 0) ∨ y_is I J (y_nm y_w345 0) ∨ y_is I J (y_nm y_w347 0) ∨ y_is I J (y_nm y_w349 0) ∨ y_is I J (y_nm y_w351 0) ∨ y_is I J (y_nm y_w353 0) ∨ y_is I J (y_nm y_w355 0) ∨ y_is I J (y_nm y_w357 0) ∨ y_is I J (y_nm y_w359 0) ∨ y_is I J (y_nm y_w361 0) ∨ y_is I J (y_nm y_w363 0) ∨ y_is I J (y_nm y_w365 0)
set_option maxRecDepth 100000 in
set_option maxHeartbeats 4000000 in
/-- GuardForgeModel.isReserved -/
theorem c_X12_isReserved (hW : xW G) (hcl : q_cl G = vwCl) (hJ : y_J G) {q v : Nat → Nat} (hs : y_Ws G q v) (hg : h g = some (.inr (12, oX12 A B I J))) : xC G mX12_isReserved [.ref g] h z 0 0 (fun w h' z' => z' = z ∧ h' = h ∧ ((y_res I J ∧ w = some (.int 1)) ∨ (¬ y_res I J ∧ w = some (.int 0)))) := by
  have hO : xO G mX12_isReserved tbX12_isReserved ptX12_isReserved := ⟨tkX12_isReserved, pkX12_isReserved hcl⟩
  refine xC.of hW (by decide) rfl (Nat.le_of_ble_eq_true rfl) ?_
  refine s_aload_n (nx := 1) hO rfl rfl rfl ?_
  refine s_ldcwS (nx := 4) (hs.1) hO rfl rfl ?_
  refine s_callV [.ref (q 339)] (ci := 12) (F := TX12) (N := 116) (nx := 7) hO rfl kX12_isReserved_341 (by rw [hcl]; rfl) hg (c_X12_isWord hW hcl hJ hs.2.1 hg) rfl rfl (Nat.le_of_ble_eq_true rfl) (by decide) (by decide) rfl (fun w h' z' q9 => ?_)
  obtain ⟨rfl, rfl, ⟨e0, rfl⟩ | ⟨e0, rfl⟩⟩ := q9
  · refine s_if_ne (nx := 10) hO rfl rfl (fun c => ?_) (fun c => absurd c (by decide))
    refine s_iconst (x := 1) (nx := 121) hO rfl (by decide) rfl ?_
    refine s_goto hO rfl ?_
    exact s_iret hO rfl rfl rfl ⟨rfl, rfl, Or.inl ⟨Or.inl e0, rfl⟩⟩
  refine s_if_ne (nx := 10) hO rfl rfl (fun c => absurd rfl c) (fun c => ?_)
  refine s_aload_n (nx := 11) hO rfl rfl rfl ?_
  refine s_ldcwS (nx := 14) (hs.2.2.1) hO rfl rfl ?_
  refine s_callV [.ref (q 345)] (ci := 12) (F := TX12) (N := 116) (nx := 17) hO rfl kX12_isReserved_341 (by rw [hcl]; rfl) hg (c_X12_isWord hW hcl hJ hs.2.2.2.1 hg) rfl rfl (Nat.le_of_ble_eq_true rfl) (by decide) (by decide) rfl (fun w h' z' q9 => ?_)
  obtain ⟨rfl, rfl, ⟨e1, rfl⟩ | ⟨e1, rfl⟩⟩ := q9
  · refine s_if_ne (nx := 20) hO rfl rfl (fun c => ?_) (fun c => absurd c (by decide))
    refine s_iconst (x := 1) (nx := 121) hO rfl (by decide) rfl ?_
    refine s_goto hO rfl ?_
    exact s_iret hO rfl rfl rfl ⟨rfl, rfl, Or.inl ⟨Or.inr (Or.inl e1), rfl⟩⟩
  refine s_if_ne (nx := 20) hO rfl rfl (fun c => absurd rfl c) (fun c => ?_)
  refine s_aload_n (nx := 21) hO rfl rfl rfl ?_
  refine s_ldcwS (nx := 24) (hs.2.2.2.2.1) hO rfl rfl ?_
  refine s_callV [.ref (q 347)] (ci := 12) (F := TX12) (N := 116) (nx := 27) hO rfl kX12_isReserved_341 (by rw [hcl]; rfl) hg (c_X12_isWord hW hcl hJ hs.2.2.2.2.2.1 hg) rfl rfl (Nat.le_of_ble_eq_true rfl) (by decide) (by decide) rfl (fun w h' z' q9 => ?_)
  obtain ⟨rfl, rfl, ⟨e2, rfl⟩ | ⟨e2, rfl⟩⟩ := q9
  · refine s_if_ne (nx := 30) hO rfl rfl (fun c => ?_) (fun c => absurd c (by decide))
    refine s_iconst (x := 1) (nx := 121) hO rfl (by decide) rfl ?_
    refine s_goto hO rfl ?_
    exact s_iret hO rfl rfl rfl ⟨rfl, rfl, Or.inl ⟨Or.inr (Or.inr (Or.inl e2)), rfl⟩⟩
  refine s_if_ne (nx := 30) hO rfl rfl (fun c => absurd rfl c) (fun c => ?_)
  refine s_aload_n (nx := 31) hO rfl rfl rfl ?_
  refine s_ldcwS (nx := 34) (hs.2.2.2.2.2.2.1) hO rfl rfl ?_
  refine s_callV [.ref (q 349)] (ci := 12) (F := TX12) (N := 116) (nx := 37) hO rfl kX12_isReserved_341 (by rw [hcl]; rfl) hg (c_X12_isWord hW hcl hJ hs.2.2.2.2.2.2.2.1 hg) rfl rfl (Nat.le_of_ble_eq_true rfl) (by decide) (by decide) rfl (fun w h' z' q9 => ?_)
  obtain ⟨rfl, rfl, ⟨e3, rfl⟩ | ⟨e3, rfl⟩⟩ := q9
  · refine s_if_ne (nx := 40) hO rfl rfl (fun c => ?_) (fun c => absurd c (by decide))
    refine s_iconst (x := 1) (nx := 121) hO rfl (by decide) rfl ?_
    refine s_goto hO rfl ?_
    exact s_iret hO rfl rfl rfl ⟨rfl, rfl, Or.inl ⟨Or.inr (Or.inr (Or.inr (Or.inl e3))), rfl⟩⟩
  refine s_if_ne (nx := 40) hO rfl rfl (fun c => absurd rfl c) (fun c => ?_)
  refine s_aload_n (nx := 41) hO rfl rfl rfl ?_
  refine s_ldcwS (nx := 44) (hs.2.2.2.2.2.2.2.2.1) hO rfl rfl ?_
  refine s_callV [.ref (q 351)] (ci := 12) (F := TX12) (N := 116) (nx := 47) hO rfl kX12_isReserved_341 (by rw [hcl]; rfl) hg (c_X12_isWord hW hcl hJ hs.2.2.2.2.2.2.2.2.2.1 hg) rfl rfl (Nat.le_of_ble_eq_true rfl) (by decide) (by decide) rfl (fun w h' z' q9 => ?_)
  obtain ⟨rfl, rfl, ⟨e4, rfl⟩ | ⟨e4, rfl⟩⟩ := q9
  · refine s_if_ne (nx := 50) hO rfl rfl (fun c => ?_) (fun c => absurd c (by decide))
    refine s_iconst (x := 1) (nx := 121) hO rfl (by decide) rfl ?_
    refine s_goto hO rfl ?_
    exact s_iret hO rfl rfl rfl ⟨rfl, rfl, Or.inl ⟨Or.inr (Or.inr (Or.inr (Or.inr (Or.inl e4)))), rfl⟩⟩
  refine s_if_ne (nx := 50) hO rfl rfl (fun c => absurd rfl c) (fun c => ?_)
  refine s_aload_n (nx := 51) hO rfl rfl rfl ?_
  refine s_ldcwS (nx := 54) (hs.2.2.2.2.2.2.2.2.2.2.1) hO rfl rfl ?_
  refine s_callV [.ref (q 353)] (ci := 12) (F := TX12) (N := 116) (nx := 57) hO rfl kX12_isReserved_341 (by rw [hcl]; rfl) hg (c_X12_isWord hW hcl hJ hs.2.2.2.2.2.2.2.2.2.2.2.1 hg) rfl rfl (Nat.le_of_ble_eq_true rfl) (by decide) (by decide) rfl (fun w h' z' q9 => ?_)
  obtain ⟨rfl, rfl, ⟨e5, rfl⟩ | ⟨e5, rfl⟩⟩ := q9
  · refine s_if_ne (nx := 60) hO rfl rfl (fun c => ?_) (fun c => absurd c (by decide))
    refine s_iconst (x := 1) (nx := 121) hO rfl (by decide) rfl ?_
    refine s_goto hO rfl ?_
    exact s_iret hO rfl rfl rfl ⟨rfl, rfl, Or.inl ⟨Or.inr (Or.inr (Or.inr (Or.inr (Or.inr (Or.inl e5))))), rfl⟩⟩
  refine s_if_ne (nx := 60) hO rfl rfl (fun c => absurd rfl c) (fun c => ?_)
  refine s_aload_n (nx := 61) hO rfl rfl rfl ?_
  refine s_ldcwS (nx := 64) (hs.2.2.2.2.2.2.2.2.2.2.2.2.1) hO rfl rfl ?_
  refine s_callV [.ref (q 355)] (ci := 12) (F := TX12) (N := 116) (nx := 67) hO rfl kX12_isReserved_341 (by rw [hcl]; rfl) hg (c_X12_isWord hW hcl hJ hs.2.2.2.2.2.2.2.2.2.2.2.2.2.1 hg) rfl rfl (Nat.le_of_ble_eq_true rfl) (by decide) (by decide) rfl (fun w h' z' q9 => ?_)
  obtain ⟨rfl, rfl, ⟨e6, rfl⟩ | ⟨e6, rfl⟩⟩ := q9
  · refine s_if_ne (nx := 70) hO rfl rfl (fun c => ?_) (fun c => absurd c (by decide))
    refine s_iconst (x := 1) (nx := 121) hO rfl (by decide) rfl ?_
    refine s_goto hO rfl ?_
    exact s_iret hO rfl rfl rfl ⟨rfl, rfl, Or.inl ⟨Or.inr (Or.inr (Or.inr (Or.inr (Or.inr (Or.inr (Or.inl e6)))))), rfl⟩⟩
  refine s_if_ne (nx := 70) hO rfl rfl (fun c => absurd rfl c) (fun c => ?_)
  refine s_aload_n (nx := 71) hO rfl rfl rfl ?_
  refine s_ldcwS (nx := 74) (hs.2.2.2.2.2.2.2.2.2.2.2.2.2.2.1) hO rfl rfl ?_
  refine s_callV [.ref (q 357)] (ci := 12) (F := TX12) (N := 116) (nx := 77) hO rfl kX12_isReserved_341 (by rw [hcl]; rfl) hg (c_X12_isWord hW hcl hJ hs.2.2.2.2.2.2.2.2.2.2.2.2.2.2.2.1 hg) rfl rfl (Nat.le_of_ble_eq_true rfl) (by decide) (by decide) rfl (fun w h' z' q9 => ?_)
  obtain ⟨rfl, rfl, ⟨e7, rfl⟩ | ⟨e7, rfl⟩⟩ := q9
  · refine s_if_ne (nx := 80) hO rfl rfl (fun c => ?_) (fun c => absurd c (by decide))
    refine s_iconst (x := 1) (nx := 121) hO rfl (by decide) rfl ?_
    refine s_goto hO rfl ?_
    exact s_iret hO rfl rfl rfl ⟨rfl, rfl, Or.inl ⟨Or.inr (Or.inr (Or.inr (Or.inr (Or.inr (Or.inr (Or.inr (Or.inl e7))))))), rfl⟩⟩
  refine s_if_ne (nx := 80) hO rfl rfl (fun c => absurd rfl c) (fun c => ?_)
  refine s_aload_n (nx := 81) hO rfl rfl rfl ?_
  refine s_ldcwS (nx := 84) (hs.2.2.2.2.2.2.2.2.2.2.2.2.2.2.2.2.1) hO rfl rfl ?_
  refine s_callV [.ref (q 359)] (ci := 12) (F := TX12) (N := 116) (nx := 87) hO rfl kX12_isReserved_341 (by rw [hcl]; rfl) hg (c_X12_isWord hW hcl hJ hs.2.2.2.2.2.2.2.2.2.2.2.2.2.2.2.2.2.1 hg) rfl rfl (Nat.le_of_ble_eq_true rfl) (by decide) (by decide) rfl (fun w h' z' q9 => ?_)
  obtain ⟨rfl, rfl, ⟨e8, rfl⟩ | ⟨e8, rfl⟩⟩ := q9
  · refine s_if_ne (nx := 90) hO rfl rfl (fun c => ?_) (fun c => absurd c (by decide))
    refine s_iconst (x := 1) (nx := 121) hO rfl (by decide) rfl ?_
    refine s_goto hO rfl ?_
    exact s_iret hO rfl rfl rfl ⟨rfl, rfl, Or.inl ⟨Or.inr (Or.inr (Or.inr (Or.inr (Or.inr (Or.inr (Or.inr (Or.inr (Or.inl e8)))))))), rfl⟩⟩
  refine s_if_ne (nx := 90) hO rfl rfl (fun c => absurd rfl c) (fun c => ?_)
  refine s_aload_n (nx := 91) hO rfl rfl rfl ?_
  refine s_ldcwS (nx := 94) (hs.2.2.2.2.2.2.2.2.2.2.2.2.2.2.2.2.2.2.1) hO rfl rfl ?_
  refine s_callV [.ref (q 361)] (ci := 12) (F := TX12) (N := 116) (nx := 97) hO rfl kX12_isReserved_341 (by rw [hcl]; rfl) hg (c_X12_isWord hW hcl hJ hs.2.2.2.2.2.2.2.2.2.2.2.2.2.2.2.2.2.2.2.1 hg) rfl rfl (Nat.le_of_ble_eq_true rfl) (by decide) (by decide) rfl (fun w h' z' q9 => ?_)
  obtain ⟨rfl, rfl, ⟨e9, rfl⟩ | ⟨e9, rfl⟩⟩ := q9
  · refine s_if_ne (nx := 100) hO rfl rfl (fun c => ?_) (fun c => absurd c (by decide))
    refine s_iconst (x := 1) (nx := 121) hO rfl (by decide) rfl ?_
    refine s_goto hO rfl ?_
    exact s_iret hO rfl rfl rfl ⟨rfl, rfl, Or.inl ⟨Or.inr (Or.inr (Or.inr (Or.inr (Or.inr (Or.inr (Or.inr (Or.inr (Or.inr (Or.inl e9))))))))), rfl⟩⟩
  refine s_if_ne (nx := 100) hO rfl rfl (fun c => absurd rfl c) (fun c => ?_)
  refine s_aload_n (nx := 101) hO rfl rfl rfl ?_
  refine s_ldcwS (nx := 104) (hs.2.2.2.2.2.2.2.2.2.2.2.2.2.2.2.2.2.2.2.2.1) hO rfl rfl ?_
  refine s_callV [.ref (q 363)] (ci := 12) (F := TX12) (N := 116) (nx := 107) hO rfl kX12_isReserved_341 (by rw [hcl]; rfl) hg (c_X12_isWord hW hcl hJ hs.2.2.2.2.2.2.2.2.2.2.2.2.2.2.2.2.2.2.2.2.2.1 hg) rfl rfl (Nat.le_of_ble_eq_true rfl) (by decide) (by decide) rfl (fun w h' z' q9 => ?_)
  obtain ⟨rfl, rfl, ⟨e10, rfl⟩ | ⟨e10, rfl⟩⟩ := q9
  · refine s_if_ne (nx := 110) hO rfl rfl (fun c => ?_) (fun c => absurd c (by decide))
    refine s_iconst (x := 1) (nx := 121) hO rfl (by decide) rfl ?_
    refine s_goto hO rfl ?_
    exact s_iret hO rfl rfl rfl ⟨rfl, rfl, Or.inl ⟨Or.inr (Or.inr (Or.inr (Or.inr (Or.inr (Or.inr (Or.inr (Or.inr (Or.inr (Or.inr (Or.inl e10)))))))))), rfl⟩⟩
  refine s_if_ne (nx := 110) hO rfl rfl (fun c => absurd rfl c) (fun c => ?_)
  refine s_aload_n (nx := 111) hO rfl rfl rfl ?_
  refine s_ldcwS (nx := 114) (hs.2.2.2.2.2.2.2.2.2.2.2.2.2.2.2.2.2.2.2.2.2.2.1) hO rfl rfl ?_
  refine s_callV [.ref (q 365)] (ci := 12) (F := TX12) (N := 116) (nx := 117) hO rfl kX12_isReserved_341 (by rw [hcl]; rfl) hg (c_X12_isWord hW hcl hJ hs.2.2.2.2.2.2.2.2.2.2.2.2.2.2.2.2.2.2.2.2.2.2.2 hg) rfl rfl (Nat.le_of_ble_eq_true rfl) (by decide) (by decide) rfl (fun w h' z' q9 => ?_)
  obtain ⟨rfl, rfl, ⟨e11, rfl⟩ | ⟨e11, rfl⟩⟩ := q9
  · refine s_if_eq (nx := 120) hO rfl rfl (fun c => absurd c (by decide)) (fun c => ?_)
    refine s_iconst (x := 1) (nx := 121) hO rfl (by decide) rfl ?_
    refine s_goto hO rfl ?_
    exact s_iret hO rfl rfl rfl ⟨rfl, rfl, Or.inl ⟨Or.inr (Or.inr (Or.inr (Or.inr (Or.inr (Or.inr (Or.inr (Or.inr (Or.inr (Or.inr (Or.inr (e11))))))))))), rfl⟩⟩
  refine s_if_eq (nx := 120) hO rfl rfl (fun c => ?_) (fun c => absurd rfl c)
  refine s_iconst (x := 0) (nx := 125) hO rfl (by decide) rfl ?_
  refine s_iret hO rfl rfl rfl ⟨rfl, rfl, Or.inr ⟨fun e => ?_, rfl⟩⟩
  rcases e with e | e | e | e | e | e | e | e | e | e | e | e
  · exact e0 e
  · exact e1 e
  · exact e2 e
  · exact e3 e
  · exact e4 e
  · exact e5 e
  · exact e6 e
  · exact e7 e
  · exact e8 e
  · exact e9 e
  · exact e10 e
  · exact e11 e
end XWords
