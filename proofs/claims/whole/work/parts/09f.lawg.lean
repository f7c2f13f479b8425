/-! ===== the law's start ===== -/
def g_ty (ci k : Nat) : FieldType := match ci with
  | 0 => tyX0 k
  | 1 => tyX1 k
  | 2 => tyX2 k
  | 3 => tyX3 k
  | 4 => tyX4 k
  | 5 => tyX5 k
  | 6 => tyX6 k
  | 7 => tyX7 k
  | 8 => tyX8 k
  | 9 => tyX9 k
  | 10 => tyX10 k
  | 11 => tyX11 k
  | _ => tyX12 k
theorem g_tyok (ci : Nat) (C : String) (T : u_T) (N : Nat) (h : vwCl[ci]? = some (C, T, N)) : (∀ k, k < N → parseFieldDescriptor (T k).2.2.1 = some (g_ty ci k)) ∧ ∀ a, a < N → ∀ b, b < N → a ≠ b → (T a).2.1 ≠ (T b).2.1 := by
  match ci, h with
  | 0, h => cases h; exact ⟨tyX0_ok, nmX0⟩
  | 1, h => cases h; exact ⟨tyX1_ok, nmX1⟩
  | 2, h => cases h; exact ⟨tyX2_ok, nmX2⟩
  | 3, h => cases h; exact ⟨tyX3_ok, nmX3⟩
  | 4, h => cases h; exact ⟨tyX4_ok, nmX4⟩
  | 5, h => cases h; exact ⟨tyX5_ok, nmX5⟩
  | 6, h => cases h; exact ⟨tyX6_ok, nmX6⟩
  | 7, h => cases h; exact ⟨tyX7_ok, nmX7⟩
  | 8, h => cases h; exact ⟨tyX8_ok, nmX8⟩
  | 9, h => cases h; exact ⟨tyX9_ok, nmX9⟩
  | 10, h => cases h; exact ⟨tyX10_ok, nmX10⟩
  | 11, h => cases h; exact ⟨tyX11_ok, nmX11⟩
  | 12, h => cases h; exact ⟨tyX12_ok, nmX12⟩
  | n + 13, h => simp [vwCl] at h
def nestW : List Cond := [.methodLinkNest "GuardForge" 32 yX5_init "GuardForge", .methodLinkNest "GuardForge" 45 yX4_init "GuardForge", .methodLinkNest "GuardForge" 59 yX6_init "GuardForge", .methodLinkNest "GuardForge" 66 yX9_init "GuardForge", .methodLinkNest "GuardForge" 73 yX0_init "GuardForge", .methodLinkNest "GuardForge$Machine" 17 yX10_init "GuardForge", .methodLinkNest "GuardForge" 87 yX10_init "GuardForge"]
set_option maxRecDepth 100000 in
theorem nestW_in : ∀ w ∈ nestW, w ∈ lw_tbl := (List.forall_mem_cons.mpr ⟨(jt1 _ (List.mem_of_getElem? (i := 161) rfl)), (List.forall_mem_cons.mpr ⟨(jt2 _ (List.mem_of_getElem? (i := 48) rfl)), (List.forall_mem_cons.mpr ⟨(jt2 _ (List.mem_of_getElem? (i := 217) rfl)), (List.forall_mem_cons.mpr ⟨(jt3 _ (List.mem_of_getElem? (i := 6) rfl)), (List.forall_mem_cons.mpr ⟨(jt3 _ (List.mem_of_getElem? (i := 38) rfl)), (List.forall_mem_cons.mpr ⟨(jt3 _ (List.mem_of_getElem? (i := 84) rfl)), (List.forall_mem_cons.mpr ⟨(jt3 _ (List.mem_of_getElem? (i := 160) rfl)), (fun _ h => absurd h List.not_mem_nil)⟩)⟩)⟩)⟩)⟩)⟩)⟩)
theorem nestW_ok : ∀ w ∈ nestW, w.onTables = true := by decide +kernel
theorem nestW_moved {u U : State} (hv : xV u U) : ∀ w ∈ nestW, va_Nw w u → va_Nw w U := by
  intro w hw h
  rcases hv with hv | hv
  · simp only [nestW, List.mem_cons, List.not_mem_nil, or_false] at hw
    rcases hw with rfl | rfl | rfl | rfl | rfl | rfl | rfl <;> exact h.warmM hv
  · exact h.same (nestW_ok w hw) hv
def g_wid : List Int32 := [4, 0, 0, 0, 1, 1, 0, 0, 0, 0, 0, 0, 0, 0, 0, 0, 0, 0, 2, 2, 2, 0, 0, 0, 0, 1, 1, 0, 0, 1]
def g_beg : List Int32 := [71, 70, 1]
def g_width (j : Nat) : Value := .int (g_wid.getD j 0)
def g_begin (j : Nat) : Value := .int (g_beg.getD j 0)
set_option maxRecDepth 100000 in
theorem g_widin (j : Nat) (hj : j < 30) : Cond.eq (.elem (.static "GuardForge$Program" "WIDTH" "[I") (.int (Int32.ofNat j))) (.int (g_wid.getD j 0)) ∈ flatC (Jvm.Cond.and given_1 narrow_1) := by
  match j, hj with
  | 0, _ => exact (List.mem_of_getElem? (i := 18) rfl)
  | 1, _ => exact (List.mem_of_getElem? (i := 19) rfl)
  | 2, _ => exact (List.mem_of_getElem? (i := 20) rfl)
  | 3, _ => exact (List.mem_of_getElem? (i := 21) rfl)
  | 4, _ => exact (List.mem_of_getElem? (i := 22) rfl)
  | 5, _ => exact (List.mem_of_getElem? (i := 23) rfl)
  | 6, _ => exact (List.mem_of_getElem? (i := 24) rfl)
  | 7, _ => exact (List.mem_of_getElem? (i := 25) rfl)
  | 8, _ => exact (List.mem_of_getElem? (i := 26) rfl)
  | 9, _ => exact (List.mem_of_getElem? (i := 27) rfl)
  | 10, _ => exact (List.mem_of_getElem? (i := 28) rfl)
  | 11, _ => exact (List.mem_of_getElem? (i := 29) rfl)
  | 12, _ => exact (List.mem_of_getElem? (i := 30) rfl)
  | 13, _ => exact (List.mem_of_getElem? (i := 31) rfl)
  | 14, _ => exact (List.mem_of_getElem? (i := 32) rfl)
  | 15, _ => exact (List.mem_of_getElem? (i := 33) rfl)
  | 16, _ => exact (List.mem_of_getElem? (i := 34) rfl)
  | 17, _ => exact (List.mem_of_getElem? (i := 35) rfl)
  | 18, _ => exact (List.mem_of_getElem? (i := 36) rfl)
  | 19, _ => exact (List.mem_of_getElem? (i := 37) rfl)
  | 20, _ => exact (List.mem_of_getElem? (i := 38) rfl)
  | 21, _ => exact (List.mem_of_getElem? (i := 39) rfl)
  | 22, _ => exact (List.mem_of_getElem? (i := 40) rfl)
  | 23, _ => exact (List.mem_of_getElem? (i := 41) rfl)
  | 24, _ => exact (List.mem_of_getElem? (i := 42) rfl)
  | 25, _ => exact (List.mem_of_getElem? (i := 43) rfl)
  | 26, _ => exact (List.mem_of_getElem? (i := 44) rfl)
  | 27, _ => exact (List.mem_of_getElem? (i := 45) rfl)
  | 28, _ => exact (List.mem_of_getElem? (i := 46) rfl)
  | 29, _ => exact (List.mem_of_getElem? (i := 47) rfl)
  | k + 30, hk => exact absurd hk (by omega)
set_option maxRecDepth 100000 in
theorem g_begin_in (j : Nat) (hj : j < 3) : Cond.eq (.elem (.static "GuardForge$ProgramReader" "BEGIN" "[B") (.int (Int32.ofNat j))) (.int (g_beg.getD j 0)) ∈ flatC (Jvm.Cond.and given_1 narrow_1) := by
  match j, hj with
  | 0, _ => exact (List.mem_of_getElem? (i := 12) rfl)
  | 1, _ => exact (List.mem_of_getElem? (i := 13) rfl)
  | 2, _ => exact (List.mem_of_getElem? (i := 14) rfl)
  | k + 3, hk => exact absurd hk (by omega)
/-- what is known of G in the law's run over the script xs of L ints at b -/
def xGo (G : xG) (b L : Nat) (xs : Nat → Int32) : Prop := xW G ∧ q_cl G = vwCl ∧ q_ty G = g_ty ∧ b < q_b G ∧ (∃ t0 t1 : Nat, q_sf G 0 = some ("GuardForge$Program", "WIDTH", "[I", .ref t0) ∧ q_sf G 1 = some ("GuardForge$ProgramReader", "BEGIN", "[B", .ref t1) ∧ q_ro G 1 = some (t0, .int, 30, g_width) ∧ q_ro G 2 = some (t1, .byte, 3, g_begin)) ∧ q_ro G 0 = some (b, .int, L, fun j => .int (xs j)) ∧ ∀ (U : State) (H : Heap), q_X G U H → ∀ w ∈ nestW, va_Nw w U
def g_C (cs : List ClassId) (k : Nat) : ClassId := cs.getD k 0
def g_I (is : List (Nat → Nat)) (k : Nat) : Nat → Nat := is.getD k (fun _ => 0)
def g_A (a b c d : ClassId) (ty : FieldType) : ClassId := match ty with
  | .int => a
  | .byte => b
  | .boolean => c
  | _ => d
theorem g_arr {args : Array Value} {s : State} {ty : FieldType} (h : (Cond.arrayClass ty).before args s = true) : ∃ cA : ClassId, ArrOfT s cA ty ∧ s.vm.findClass ("[" ++ ty.toString) = some cA := by
  obtain ⟨cA, kA, comp, h1, h2, h3⟩ := Cond.arrayClass_spec h
  exact ⟨cA, fun n z => ⟨fun k h => (by cases h), kA, h2, comp, h3⟩, h1⟩
theorem sbn_forget {s s' : State} {L : List Loc} {k n : Nat} (h : s.sameButNew s' L k n) (hL : ∀ q ∈ L, s.heap.size ≤ q.base) : s.sameButNew s' [] k n := by
  obtain ⟨h1, h2, h3, h4, h5, h6⟩ := h
  refine ⟨h1, h2, h3, h4, h5, fun a c hc => ?_⟩
  obtain ⟨c', e1, e2, e3, e4⟩ := h6 a c hc
  refine ⟨c', e1, e2, e3, fun i _ => e4 i (fun hm => ?_)⟩
  have := hL _ hm
  have h9 := (Array.getElem?_eq_some_iff.mp hc).1
  exact absurd h9 (Nat.not_lt.mpr this)
set_option maxRecDepth 100000 in
set_option maxHeartbeats 4000000 in
/-- at the law's entry there is such a G -/
theorem law_G {p : Program} {s : State} {m : MethodId} {meth : Method} {c : Code} {b L : Nat} {xs : Nat → Int32} (hL : L ≤ 2560) (C0 : lw_At p s m meth c b L xs) : ∃ G : xG, xGo G b L xs ∧ q_b G = s.heap.size ∧ xK G s ∧ xZ G s s.heap := by
  obtain ⟨hx, hb, hr, hml, hown, hts0, hX, hbl, hlocks, hgv⟩ := C0
  have hts : ∀ w ∈ wsL_law, w.before #[Value.ref b] s = true := fun w h => hts0 w (wsL_law_in w h)
  have hfl := flat_of_before _ hgv
  obtain ⟨c0, i0, k0⟩ := u_known (C := RX0) (T := TX0) (N := 11) (n := 11) hts inlX0 (hts _ (ir2 _ (List.mem_of_getElem? (i := 21) rfl)))
  obtain ⟨c1, i1, k1⟩ := u_known (C := RX1) (T := TX1) (N := 3) (n := 3) hts inlX1 (hts _ (ir4 _ (List.mem_of_getElem? (i := 0) rfl)))
  obtain ⟨c2, i2, k2⟩ := u_known (C := RX2) (T := TX2) (N := 18) (n := 18) hts inlX2 (hts _ (ir3 _ (List.mem_of_getElem? (i := 1) rfl)))
  obtain ⟨c3, i3, k3⟩ := u_known (C := RX3) (T := TX3) (N := 20) (n := 20) hts inlX3 (hts _ (ir1 _ (List.mem_of_getElem? (i := 18) rfl)))
  obtain ⟨c4, i4, k4⟩ := u_known (C := RX4) (T := TX4) (N := 12) (n := 12) hts inlX4 (hts _ (ir2 _ (List.mem_of_getElem? (i := 5) rfl)))
  obtain ⟨c5, i5, k5⟩ := u_known (C := RX5) (T := TX5) (N := 19) (n := 19) hts inlX5 (hts _ (ir1 _ (List.mem_of_getElem? (i := 23) rfl)))
  obtain ⟨c6, i6, k6⟩ := u_known (C := RX6) (T := TX6) (N := 7) (n := 7) hts inlX6 (hts _ (ir2 _ (List.mem_of_getElem? (i := 13) rfl)))
  obtain ⟨c7, i7, k7⟩ := u_known (C := RX7) (T := TX7) (N := 12) (n := 12) hts inlX7 (hts _ (ir2 _ (List.mem_of_getElem? (i := 9) rfl)))
  obtain ⟨c8, i8, k8⟩ := u_known (C := RX8) (T := TX8) (N := 5) (n := 5) hts inlX8 (hts _ (ir5 _ (List.mem_of_getElem? (i := 18) rfl)))
  obtain ⟨c9, i9, k9⟩ := u_known (C := RX9) (T := TX9) (N := 8) (n := 8) hts inlX9 (hts _ (ir2 _ (List.mem_of_getElem? (i := 17) rfl)))
  obtain ⟨c10, i10, k10⟩ := u_known (C := RX10) (T := TX10) (N := 3) (n := 3) hts inlX10 (hts _ (ir3 _ (List.mem_of_getElem? (i := 5) rfl)))
  obtain ⟨c11, i11, k11⟩ := u_known (C := RX11) (T := TX11) (N := 20) (n := 20) hts inlX11 (hts _ (ir1 _ (List.mem_of_getElem? (i := 1) rfl)))
  obtain ⟨c12, i12, k12⟩ := u_known (C := RX12) (T := TX12) (N := 116) (n := 116) hts inlX12 (hts _ (ir1 _ (List.mem_of_getElem? (i := 4) rfl)))
  obtain ⟨aI, hI1, hI2⟩ := g_arr (hts (.arrayClass .int) (ir3 _ (List.mem_of_getElem? (i := 12) rfl)))
  obtain ⟨aB, hB1, hB2⟩ := g_arr (hts (.arrayClass .byte) (ir1 _ (List.mem_of_getElem? (i := 13) rfl)))
  obtain ⟨aZ, hZ1, hZ2⟩ := g_arr (hts (.arrayClass .boolean) (ir3 _ (List.mem_of_getElem? (i := 21) rfl)))
  obtain ⟨aJ, hJ1, hJ2⟩ := g_arr (hts (.arrayClass .long) (ir4 _ (List.mem_of_getElem? (i := 4) rfl)))
  have hA : ∀ a : Nat, a < s.heap.size → ¬ (fun q : Nat => s.heap.size ≤ q) a := fun a h => Nat.not_le.mpr h
  obtain ⟨t0, ht0, hT0⟩ := va_Tof (ty := .int) (N := 30) (f := g_width) (A := fun q : Nat => s.heap.size ≤ q) (by decide) (hfl (Cond.arrayOf (.static "GuardForge$Program" "WIDTH" "[I") .int) (List.mem_of_getElem? (i := 16) rfl)) (va_eqt (hfl (Cond.eq (.length (.static "GuardForge$Program" "WIDTH" "[I")) (.int 30)) (List.mem_of_getElem? (i := 17) rfl))) (fun j hj => by
    have e : (Cond.eq (.elem (.static "GuardForge$Program" "WIDTH" "[I") (.int (Int32.ofNat j))) (.int (g_wid.getD j 0))).before #[Value.ref b] s = true := hfl _ (g_widin j hj)
    exact va_eqt e) hA
  obtain ⟨t1, ht1, hT1⟩ := va_Tof (ty := .byte) (N := 3) (f := g_begin) (A := fun q : Nat => s.heap.size ≤ q) (by decide) (hfl (Cond.arrayOf (.static "GuardForge$ProgramReader" "BEGIN" "[B") .byte) (List.mem_of_getElem? (i := 10) rfl)) (va_eqt (hfl (Cond.eq (.length (.static "GuardForge$ProgramReader" "BEGIN" "[B")) (.int 3)) (List.mem_of_getElem? (i := 11) rfl))) (fun j hj => by
    have e : (Cond.eq (.elem (.static "GuardForge$ProgramReader" "BEGIN" "[B") (.int (Int32.ofNat j))) (.int (g_beg.getD j 0))).before #[Value.ref b] s = true := hfl _ (g_begin_in j hj)
    exact va_eqt e) hA
  have hZ0 := va_Zref (A := fun q : Nat => s.heap.size ≤ q) (hts0 (.laysStatic "GuardForge$Program" "WIDTH" "[I") (jt5 _ (List.mem_of_getElem? (i := 40) rfl))) (hts (.initialized RX5) (ir2 _ (List.mem_of_getElem? (i := 0) rfl))) ht0 hA
  have hZb := va_Zref (A := fun q : Nat => s.heap.size ≤ q) (hts0 (.laysStatic "GuardForge$ProgramReader" "BEGIN" "[B") (jt5 _ (List.mem_of_getElem? (i := 18) rfl))) (hts (.initialized RX6) (ir2 _ (List.mem_of_getElem? (i := 14) rfl))) ht1 hA
  refine ⟨(s.heap.size, vwCl, g_ty, g_C [c0, c1, c2, c3, c4, c5, c6, c7, c8, c9, c10, c11, c12], g_I [i0, i1, i2, i3, i4, i5, i6, i7, i8, i9, i10, i11, i12], g_A aI aB aZ aJ, fun k => match k with
    | 0 => some (b, .int, L, fun j => .int (xs j))
    | 1 => some (t0, .int, 30, g_width)
    | 2 => some (t1, .byte, 3, g_begin)
    | _ => none, fun k => match k with
    | 0 => some ("GuardForge$Program", "WIDTH", "[I", .ref t0)
    | 1 => some ("GuardForge$ProgramReader", "BEGIN", "[B", .ref t1)
    | _ => none, fun U _ => ∀ w ∈ nestW, va_Nw w U), ?_, rfl, ?_, ?_⟩
  · exact ⟨⟨fun u U H H1 hv _ hq w hw => nestW_moved hv w hw (hq w hw), g_tyok⟩, rfl, rfl, hbl, ⟨t0, t1, rfl, rfl, rfl, rfl⟩, rfl, fun _ _ h => h⟩
  · refine ⟨fun k q hq => ?_, fun k q hq => ?_⟩
    · match k, hq with
      | 0, hq => cases hq; exact k0
      | 1, hq => cases hq; exact k1
      | 2, hq => cases hq; exact k2
      | 3, hq => cases hq; exact k3
      | 4, hq => cases hq; exact k4
      | 5, hq => cases hq; exact k5
      | 6, hq => cases hq; exact k6
      | 7, hq => cases hq; exact k7
      | 8, hq => cases hq; exact k8
      | 9, hq => cases hq; exact k9
      | 10, hq => cases hq; exact k10
      | 11, hq => cases hq; exact k11
      | 12, hq => cases hq; exact k12
      | n + 13, hq => simp [q_cl, vwCl] at hq
    · match k, hq with
      | 0, hq => cases hq; exact ⟨hI1, hI2⟩
      | 1, hq => cases hq; exact ⟨hB1, hB2⟩
      | 2, hq => cases hq; exact ⟨hZ1, hZ2⟩
      | 3, hq => cases hq; exact ⟨hJ1, hJ2⟩
      | n + 4, hq => simp [x_tys] at hq
  · refine ⟨fun k C n d v hk => ?_, fun k t ty N f hk => ?_, fun w hw => va_Nw.of (nestW_ok w hw) (hts0 w (nestW_in w hw))⟩
    · match k, hk with
      | 0, hk => cases hk; exact hZ0
      | 1, hk => cases hk; exact hZb
      | n + 2, hk => cases hk
    · match k, hk with
      | 0, hk =>
        cases hk
        obtain ⟨scr, g1, g2, g3, g4, g5⟩ := hX
        exact ⟨scr, g1, g2, g3, by omega, by rw [g4], g5, hA _ hbl⟩
      | 1, hk => cases hk; exact hT0
      | 2, hk => cases hk; exact hT1
      | n + 3, hk => cases hk
/-- THE CLAIM'S WALK out of a run of the law over the pure layer -/
theorem whole_open (hyp : ∀ (G : xG) (b L : Nat) (xs : Nat → Int32), xGo G b L xs → L ≤ 2560 → xEx G mL_law 0 [(0, .ref b)] [] (fun _ => none) (q_b G) 600000 7302250 (fun v _ _ => v = some (.int 1)))
    {p : Program} {e : Env} {s : State} {m : MethodId} {below : List Frame} {meth : Method} {c : Code} (l : Launch) {b L : Nat} {xs : Nat → Int32} (hL : L ≤ 2560) (C0 : lw_At p s m meth c b L xs) : W p l e room_1 s m #[Value.ref b] below meth c s.heap [] 0 0 (lw_Z below #[Value.ref b] s) (entryFrame m ([Value.ref b] : List Value).toArray 4) := by
  obtain ⟨G, hG, hGb, hK, hZ⟩ := law_G hL C0
  obtain ⟨hx, hb, hr, hml, hown, hts0, hX, hbl, hlocks, hgv⟩ := C0
  have hts : ∀ w ∈ wsL_law, w.before #[Value.ref b] s = true := fun w h => hts0 w (wsL_law_in w h)
  have hl := lv_entry ([.ref b]) (n := 4) (Nat.le_of_ble_eq_true rfl)
  rw [lg_entry_eq]
  have k := hyp G b L xs hG hL p l e room_1 s m #[Value.ref b] below meth c s.heap [] 0 0 600000 7302250 _ ⟨hx, hb, hr, hlocks, hml, hown, (fun h9 => absurd h9 (by decide)), (fun w hw => (List.mem_cons.mp hw).elim (fun e => by rw [e]; exact hts _ (ir1 _ (List.mem_of_getElem? (i := 0) rfl))) (hts w)), hK, hZ, hG.1⟩ (by decide) (by decide) rfl rfl (by decide) (by decide) hl ⟨hGb.symm, Nat.le_refl _, fun a e he => by cases he⟩ (by
    have h9 : va_S (x_A G) s.heap s.heap [] := va_S.rf
    exact h9)
  intro T hT X
  obtain ⟨t, a1, o, b1, b2, ⟨⟨v, h', z', hv, hq, -⟩, -⟩, Lc, hF, hLc⟩ := k T hT X
  refine ⟨t, a1, o, b1, b2, by rw [hv, hq], hF.1, hF.2.1, sbn_forget hF.2.2 (fun q hq => ?_)⟩
  have h8 : q_b G ≤ q.base := hLc q hq
  rw [hGb] at h8
  exact h8
