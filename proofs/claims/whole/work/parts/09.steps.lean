/-! ===== steps: a row an instruction, over a method's table ===== -/
section XSteps
variable {G : xG} {M : xM} {P : xP} {T : xT} {Q : xQ} {pc nx : Nat} {ts : List Nat} {l : List (Nat × Value)} {st rest : List Value} {h : xH} {z kc ks : Nat}
abbrev xO (G : xG) (M : xM) (T : xT) (P : xP) : Prop := xTok M T ∧ xPok G M P
theorem xO.d (hO : xO G M T P) {i : Instr} {n : Nat} (hl : T.lookup pc = some (i, n, ts)) : decode (m_c M) pc = .ok (i, n) := (hO.1 _ (x_lkT hl)).1
theorem xO.t (hO : xO G M T P) {i : Instr} {n : Nat} (hl : T.lookup pc = some (i, n, ts)) : x_tg pc i ts = true := (hO.1 _ (x_lkT hl)).2.1

theorem s_iconst {v : Int} {x : Int32} (hO : xO G M T P) (hl : T.lookup pc = some (.iconst v, 1, ts)) (e : Int32.ofInt v = x) (hp : pc + 1 = nx) (k : xEx G M nx l (.int x :: st) h z kc ks Q) : xEx G M pc l (st) h z kc ks Q := by
  subst hp
  exact x_go (fun hx hb _ _ hv kk => lv_iconst hx hb (hO.d hl) e (kk _ hv)) k

theorem s_bipush {v : Int} {x : Int32} (hO : xO G M T P) (hl : T.lookup pc = some (.bipush v, 2, ts)) (e : (Int8.ofInt v).toInt32 = x) (hp : pc + 2 = nx) (k : xEx G M nx l (.int x :: st) h z kc ks Q) : xEx G M pc l (st) h z kc ks Q := by
  subst hp
  exact x_go (fun hx hb _ _ hv kk => lv_bipush hx hb (hO.d hl) e (kk _ hv)) k

theorem s_sipush {v : Int} {x : Int32} (hO : xO G M T P) (hl : T.lookup pc = some (.sipush v, 3, ts)) (e : (Int16.ofInt v).toInt32 = x) (hp : pc + 3 = nx) (k : xEx G M nx l (.int x :: st) h z kc ks Q) : xEx G M pc l (st) h z kc ks Q := by
  subst hp
  exact x_go (fun hx hb _ _ hv kk => lv_sipush hx hb (hO.d hl) e (kk _ hv)) k

theorem s_lconst {v : Fin 2} {x : Int64} (hO : xO G M T P) (hl : T.lookup pc = some (.lconst v, 1, ts)) (e : Int64.ofNat v = x) (hp : pc + 1 = nx) (k : xEx G M nx l (.long x :: st) h z kc ks Q) : xEx G M pc l (st) h z kc ks Q := by
  subst hp
  exact x_go (fun hx hb _ _ hv kk => lv_lconst hx hb (hO.d hl) e (kk _ hv)) k

theorem s_ldc {j : Nat} {x : Int32} (hO : xO G M T P) (hl : T.lookup pc = some (.ldc j, 2, ts)) (e : P.2.1 j = some x) (hp : pc + 2 = nx) (k : xEx G M nx l (.int x :: st) h z kc ks Q) : xEx G M pc l (st) h z kc ks Q := by
  subst hp
  exact x_go (fun hx hb ho ht hv kk => lv_ldc hx hb ho (ht _ (hO.2.2.1 j _ e)) (hO.d hl) (kk _ hv)) k

theorem s_ldc_w {j : Nat} {x : Int32} (hO : xO G M T P) (hl : T.lookup pc = some (.ldc_w j, 3, ts)) (e : P.2.1 j = some x) (hp : pc + 3 = nx) (k : xEx G M nx l (.int x :: st) h z kc ks Q) : xEx G M pc l (st) h z kc ks Q := by
  subst hp
  exact x_go (fun hx hb ho ht hv kk => lv_ldcw hx hb ho (ht _ (hO.2.2.1 j _ e)) (hO.d hl) (kk _ hv)) k

theorem s_ldc2_w {j : Nat} {x : Int64} (hO : xO G M T P) (hl : T.lookup pc = some (.ldc2_w j, 3, ts)) (e : P.2.2.1 j = some x) (hp : pc + 3 = nx) (k : xEx G M nx l (.long x :: st) h z kc ks Q) : xEx G M pc l (st) h z kc ks Q := by
  subst hp
  exact x_go (fun hx hb ho ht hv kk => lv_ldc2 hx hb ho (ht _ (hO.2.2.2.1 j _ e)) (hO.d hl) (kk _ hv)) k

theorem s_iload {j : Nat} {x : Int32} (hO : xO G M T P) (hl : T.lookup pc = some (.iload j, 2, ts)) (e : l.lookup j = some (.int x)) (hp : pc + 2 = nx) (k : xEx G M nx l (.int x :: st) h z kc ks Q) : xEx G M pc l (st) h z kc ks Q := by
  subst hp
  exact x_go (fun hx hb _ _ hv kk => lv_iload hx hb (hO.d hl) (x_lat hv e) (kk _ hv)) k

theorem s_iload_n {j : Fin 4} {x : Int32} (hO : xO G M T P) (hl : T.lookup pc = some (.iload_n j, 1, ts)) (e : l.lookup j.val = some (.int x)) (hp : pc + 1 = nx) (k : xEx G M nx l (.int x :: st) h z kc ks Q) : xEx G M pc l (st) h z kc ks Q := by
  subst hp
  exact x_go (fun hx hb _ _ hv kk => lv_iload_n hx hb (hO.d hl) rfl (x_lat hv e) (kk _ hv)) k

theorem s_istore {j : Nat} {x : Int32} {l' : List (Nat × Value)} (hO : xO G M T P) (hl : T.lookup pc = some (.istore j, 2, ts)) (hj : j < m_n M) (e : x_s1 l j (.int x) = l') (hp : pc + 2 = nx) (k : xEx G M nx l' (rest) h z kc ks Q) : xEx G M pc l (.int x :: rest) h z kc ks Q := by
  subst hp
  exact x_go (fun hx hb _ _ hv kk => lv_istore hx hb (hO.d hl) hv hj e kk) k

theorem s_istore_n {j : Fin 4} {x : Int32} {l' : List (Nat × Value)} (hO : xO G M T P) (hl : T.lookup pc = some (.istore_n j, 1, ts)) (hj : j.val < m_n M) (e : x_s1 l j.val (.int x) = l') (hp : pc + 1 = nx) (k : xEx G M nx l' (rest) h z kc ks Q) : xEx G M pc l (.int x :: rest) h z kc ks Q := by
  subst hp
  exact x_go (fun hx hb _ _ hv kk => lv_istore_n hx hb (hO.d hl) rfl hv hj e kk) k

theorem s_lload {j : Nat} {x : Int64} (hO : xO G M T P) (hl : T.lookup pc = some (.lload j, 2, ts)) (e : l.lookup j = some (.long x)) (hp : pc + 2 = nx) (k : xEx G M nx l (.long x :: st) h z kc ks Q) : xEx G M pc l (st) h z kc ks Q := by
  subst hp
  exact x_go (fun hx hb _ _ hv kk => lv_lload hx hb (hO.d hl) (x_lat hv e) (kk _ hv)) k

theorem s_lload_n {j : Fin 4} {x : Int64} (hO : xO G M T P) (hl : T.lookup pc = some (.lload_n j, 1, ts)) (e : l.lookup j.val = some (.long x)) (hp : pc + 1 = nx) (k : xEx G M nx l (.long x :: st) h z kc ks Q) : xEx G M pc l (st) h z kc ks Q := by
  subst hp
  exact x_go (fun hx hb _ _ hv kk => lv_lload_n hx hb (hO.d hl) rfl (x_lat hv e) (kk _ hv)) k

theorem s_lstore {j : Nat} {x : Int64} {l' : List (Nat × Value)} (hO : xO G M T P) (hl : T.lookup pc = some (.lstore j, 2, ts)) (hj : j + 1 < m_n M) (e : x_s2 l j (.long x) = l') (hp : pc + 2 = nx) (k : xEx G M nx l' (rest) h z kc ks Q) : xEx G M pc l (.long x :: rest) h z kc ks Q := by
  subst hp
  exact x_go (fun hx hb _ _ hv kk => lv_lstore hx hb (hO.d hl) hv hj e kk) k

theorem s_lstore_n {j : Fin 4} {x : Int64} {l' : List (Nat × Value)} (hO : xO G M T P) (hl : T.lookup pc = some (.lstore_n j, 1, ts)) (hj : j.val + 1 < m_n M) (e : x_s2 l j.val (.long x) = l') (hp : pc + 1 = nx) (k : xEx G M nx l' (rest) h z kc ks Q) : xEx G M pc l (.long x :: rest) h z kc ks Q := by
  subst hp
  exact x_go (fun hx hb _ _ hv kk => lv_lstore_n hx hb (hO.d hl) rfl hv hj e kk) k

theorem s_aload {j : Nat} {x : Nat} (hO : xO G M T P) (hl : T.lookup pc = some (.aload j, 2, ts)) (e : l.lookup j = some (.ref x)) (hp : pc + 2 = nx) (k : xEx G M nx l (.ref x :: st) h z kc ks Q) : xEx G M pc l (st) h z kc ks Q := by
  subst hp
  exact x_go (fun hx hb _ _ hv kk => lv_aload hx hb (hO.d hl) (x_lat hv e) (kk _ hv)) k

theorem s_aload_n {j : Fin 4} {x : Nat} (hO : xO G M T P) (hl : T.lookup pc = some (.aload_n j, 1, ts)) (e : l.lookup j.val = some (.ref x)) (hp : pc + 1 = nx) (k : xEx G M nx l (.ref x :: st) h z kc ks Q) : xEx G M pc l (st) h z kc ks Q := by
  subst hp
  exact x_go (fun hx hb _ _ hv kk => lv_aload_n hx hb (hO.d hl) rfl (x_lat hv e) (kk _ hv)) k

theorem s_astore {j : Nat} {x : Nat} {l' : List (Nat × Value)} (hO : xO G M T P) (hl : T.lookup pc = some (.astore j, 2, ts)) (hj : j < m_n M) (e : x_s1 l j (.ref x) = l') (hp : pc + 2 = nx) (k : xEx G M nx l' (rest) h z kc ks Q) : xEx G M pc l (.ref x :: rest) h z kc ks Q := by
  subst hp
  exact x_go (fun hx hb _ _ hv kk => lv_astore hx hb (hO.d hl) hv hj e kk) k

theorem s_astore_n {j : Fin 4} {x : Nat} {l' : List (Nat × Value)} (hO : xO G M T P) (hl : T.lookup pc = some (.astore_n j, 1, ts)) (hj : j.val < m_n M) (e : x_s1 l j.val (.ref x) = l') (hp : pc + 1 = nx) (k : xEx G M nx l' (rest) h z kc ks Q) : xEx G M pc l (.ref x :: rest) h z kc ks Q := by
  subst hp
  exact x_go (fun hx hb _ _ hv kk => lv_astore_n hx hb (hO.d hl) rfl hv hj e kk) k

theorem s_iinc {j : Nat} {v : Int} {x y : Int32} {l' : List (Nat × Value)} (hO : xO G M T P) (hl : T.lookup pc = some (.iinc j v, 3, ts)) (hj : j < m_n M) (e0 : l.lookup j = some (.int x)) (ey : x + Int32.ofInt v = y) (e : x_s1 l j (.int y) = l') (hp : pc + 3 = nx) (k : xEx G M nx l' (st) h z kc ks Q) : xEx G M pc l (st) h z kc ks Q := by
  subst hp
  obtain ⟨i, hi⟩ := List.getElem?_of_mem (x_lk e0)
  exact x_go (fun hx hb _ _ hv kk => lv_iinc hx hb (hO.d hl) hv hi ey hj e kk) k

theorem s_iadd {x y : Int32} (hO : xO G M T P) (hl : T.lookup pc = some (.iadd, 1, ts)) (hp : pc + 1 = nx) (k : xEx G M nx l (.int (x + y) :: rest) h z kc ks Q) : xEx G M pc l (.int y :: .int x :: rest) h z kc ks Q := by
  subst hp
  exact x_go (fun hx hb _ _ hv kk => lv_iadd hx hb (hO.d hl) (kk _ hv)) k

theorem s_isub {x y : Int32} (hO : xO G M T P) (hl : T.lookup pc = some (.isub, 1, ts)) (hp : pc + 1 = nx) (k : xEx G M nx l (.int (x - y) :: rest) h z kc ks Q) : xEx G M pc l (.int y :: .int x :: rest) h z kc ks Q := by
  subst hp
  exact x_go (fun hx hb _ _ hv kk => lv_isub hx hb (hO.d hl) (kk _ hv)) k

theorem s_imul {x y : Int32} (hO : xO G M T P) (hl : T.lookup pc = some (.imul, 1, ts)) (hp : pc + 1 = nx) (k : xEx G M nx l (.int (x * y) :: rest) h z kc ks Q) : xEx G M pc l (.int y :: .int x :: rest) h z kc ks Q := by
  subst hp
  exact x_go (fun hx hb _ _ hv kk => lv_imul hx hb (hO.d hl) (kk _ hv)) k

theorem s_iand {x y : Int32} (hO : xO G M T P) (hl : T.lookup pc = some (.iand, 1, ts)) (hp : pc + 1 = nx) (k : xEx G M nx l (.int (x &&& y) :: rest) h z kc ks Q) : xEx G M pc l (.int y :: .int x :: rest) h z kc ks Q := by
  subst hp
  exact x_go (fun hx hb _ _ hv kk => lv_iand hx hb (hO.d hl) (kk _ hv)) k

theorem s_ior {x y : Int32} (hO : xO G M T P) (hl : T.lookup pc = some (.ior, 1, ts)) (hp : pc + 1 = nx) (k : xEx G M nx l (.int (x ||| y) :: rest) h z kc ks Q) : xEx G M pc l (.int y :: .int x :: rest) h z kc ks Q := by
  subst hp
  exact x_go (fun hx hb _ _ hv kk => lv_ior hx hb (hO.d hl) (kk _ hv)) k

theorem s_ixor {x y : Int32} (hO : xO G M T P) (hl : T.lookup pc = some (.ixor, 1, ts)) (hp : pc + 1 = nx) (k : xEx G M nx l (.int (x ^^^ y) :: rest) h z kc ks Q) : xEx G M pc l (.int y :: .int x :: rest) h z kc ks Q := by
  subst hp
  exact x_go (fun hx hb _ _ hv kk => lv_ixor hx hb (hO.d hl) (kk _ hv)) k

theorem s_ishl {x y : Int32} (hO : xO G M T P) (hl : T.lookup pc = some (.ishl, 1, ts)) (hp : pc + 1 = nx) (k : xEx G M nx l (.int (x <<< (y &&& 31)) :: rest) h z kc ks Q) : xEx G M pc l (.int y :: .int x :: rest) h z kc ks Q := by
  subst hp
  exact x_go (fun hx hb _ _ hv kk => lv_ishl hx hb (hO.d hl) (kk _ hv)) k

theorem s_ishr {x y : Int32} (hO : xO G M T P) (hl : T.lookup pc = some (.ishr, 1, ts)) (hp : pc + 1 = nx) (k : xEx G M nx l (.int (x >>> (y &&& 31)) :: rest) h z kc ks Q) : xEx G M pc l (.int y :: .int x :: rest) h z kc ks Q := by
  subst hp
  exact x_go (fun hx hb _ _ hv kk => lv_ishr hx hb (hO.d hl) (kk _ hv)) k

theorem s_ladd {x y : Int64} (hO : xO G M T P) (hl : T.lookup pc = some (.ladd, 1, ts)) (hp : pc + 1 = nx) (k : xEx G M nx l (.long (x + y) :: rest) h z kc ks Q) : xEx G M pc l (.long y :: .long x :: rest) h z kc ks Q := by
  subst hp
  exact x_go (fun hx hb _ _ hv kk => lv_ladd hx hb (hO.d hl) (kk _ hv)) k

theorem s_lsub {x y : Int64} (hO : xO G M T P) (hl : T.lookup pc = some (.lsub, 1, ts)) (hp : pc + 1 = nx) (k : xEx G M nx l (.long (x - y) :: rest) h z kc ks Q) : xEx G M pc l (.long y :: .long x :: rest) h z kc ks Q := by
  subst hp
  exact x_go (fun hx hb _ _ hv kk => lv_lsub hx hb (hO.d hl) (kk _ hv)) k

theorem s_lmul {x y : Int64} (hO : xO G M T P) (hl : T.lookup pc = some (.lmul, 1, ts)) (hp : pc + 1 = nx) (k : xEx G M nx l (.long (x * y) :: rest) h z kc ks Q) : xEx G M pc l (.long y :: .long x :: rest) h z kc ks Q := by
  subst hp
  exact x_go (fun hx hb _ _ hv kk => lv_lmul hx hb (hO.d hl) (kk _ hv)) k

theorem s_land {x y : Int64} (hO : xO G M T P) (hl : T.lookup pc = some (.land, 1, ts)) (hp : pc + 1 = nx) (k : xEx G M nx l (.long (x &&& y) :: rest) h z kc ks Q) : xEx G M pc l (.long y :: .long x :: rest) h z kc ks Q := by
  subst hp
  exact x_go (fun hx hb _ _ hv kk => lv_land hx hb (hO.d hl) (kk _ hv)) k

theorem s_lor {x y : Int64} (hO : xO G M T P) (hl : T.lookup pc = some (.lor, 1, ts)) (hp : pc + 1 = nx) (k : xEx G M nx l (.long (x ||| y) :: rest) h z kc ks Q) : xEx G M pc l (.long y :: .long x :: rest) h z kc ks Q := by
  subst hp
  exact x_go (fun hx hb _ _ hv kk => lv_lor hx hb (hO.d hl) (kk _ hv)) k

theorem s_lxor {x y : Int64} (hO : xO G M T P) (hl : T.lookup pc = some (.lxor, 1, ts)) (hp : pc + 1 = nx) (k : xEx G M nx l (.long (x ^^^ y) :: rest) h z kc ks Q) : xEx G M pc l (.long y :: .long x :: rest) h z kc ks Q := by
  subst hp
  exact x_go (fun hx hb _ _ hv kk => lv_lxor hx hb (hO.d hl) (kk _ hv)) k

theorem s_idiv {x y : Int32} (hO : xO G M T P) (hl : T.lookup pc = some (.idiv, 1, ts)) (h0 : ¬ y = 0) (hp : pc + 1 = nx) (k : xEx G M nx l (.int (x / y) :: rest) h z kc ks Q) : xEx G M pc l (.int y :: .int x :: rest) h z kc ks Q := by
  subst hp
  exact x_go (fun hx hb _ _ hv kk => lv_idiv hx hb (hO.d hl) h0 (kk _ hv)) k

theorem s_irem {x y : Int32} (hO : xO G M T P) (hl : T.lookup pc = some (.irem, 1, ts)) (h0 : ¬ y = 0) (hp : pc + 1 = nx) (k : xEx G M nx l (.int (x - x / y * y) :: rest) h z kc ks Q) : xEx G M pc l (.int y :: .int x :: rest) h z kc ks Q := by
  subst hp
  exact x_go (fun hx hb _ _ hv kk => lv_irem hx hb (hO.d hl) h0 (kk _ hv)) k

theorem s_ineg {x : Int32} (hO : xO G M T P) (hl : T.lookup pc = some (.ineg, 1, ts)) (hp : pc + 1 = nx) (k : xEx G M nx l (.int (-x) :: rest) h z kc ks Q) : xEx G M pc l (.int x :: rest) h z kc ks Q := by
  subst hp
  exact x_go (fun hx hb _ _ hv kk => lv_ineg hx hb (hO.d hl) (kk _ hv)) k

theorem s_lneg {x : Int64} (hO : xO G M T P) (hl : T.lookup pc = some (.lneg, 1, ts)) (hp : pc + 1 = nx) (k : xEx G M nx l (.long (-x) :: rest) h z kc ks Q) : xEx G M pc l (.long x :: rest) h z kc ks Q := by
  subst hp
  exact x_go (fun hx hb _ _ hv kk => lv_lneg hx hb (hO.d hl) (kk _ hv)) k

theorem s_lshl {x : Int64} {y : Int32} (hO : xO G M T P) (hl : T.lookup pc = some (.lshl, 1, ts)) (hp : pc + 1 = nx) (k : xEx G M nx l (.long (x <<< (y.toInt64 &&& 63)) :: rest) h z kc ks Q) : xEx G M pc l (.int y :: .long x :: rest) h z kc ks Q := by
  subst hp
  exact x_go (fun hx hb _ _ hv kk => lv_lshl hx hb (hO.d hl) rfl (kk _ hv)) k

theorem s_lshr {x : Int64} {y : Int32} (hO : xO G M T P) (hl : T.lookup pc = some (.lshr, 1, ts)) (hp : pc + 1 = nx) (k : xEx G M nx l (.long (x >>> (y.toInt64 &&& 63)) :: rest) h z kc ks Q) : xEx G M pc l (.int y :: .long x :: rest) h z kc ks Q := by
  subst hp
  exact x_go (fun hx hb _ _ hv kk => lv_lshr hx hb (hO.d hl) rfl (kk _ hv)) k

theorem s_lcmp {x y : Int64} (hO : xO G M T P) (hl : T.lookup pc = some (.lcmp, 1, ts)) (hp : pc + 1 = nx) (k : xEx G M nx l (.int (lg_cmp x y) :: rest) h z kc ks Q) : xEx G M pc l (.long y :: .long x :: rest) h z kc ks Q := by
  subst hp
  exact x_go (fun hx hb _ _ hv kk => W.lcmp hx hb (hO.d hl) (kk _ hv)) k

theorem s_i2l {x : Int32} (hO : xO G M T P) (hl : T.lookup pc = some (.i2l, 1, ts)) (hp : pc + 1 = nx) (k : xEx G M nx l (.long x.toInt64 :: rest) h z kc ks Q) : xEx G M pc l (.int x :: rest) h z kc ks Q := by
  subst hp
  exact x_go (fun hx hb _ _ hv kk => lv_i2l hx hb (hO.d hl) rfl (kk _ hv)) k

theorem s_l2i {x : Int64} (hO : xO G M T P) (hl : T.lookup pc = some (.l2i, 1, ts)) (hp : pc + 1 = nx) (k : xEx G M nx l (.int x.toInt32 :: rest) h z kc ks Q) : xEx G M pc l (.long x :: rest) h z kc ks Q := by
  subst hp
  exact x_go (fun hx hb _ _ hv kk => lv_l2i hx hb (hO.d hl) rfl (kk _ hv)) k

theorem s_i2b {x : Int32} (hO : xO G M T P) (hl : T.lookup pc = some (.i2b, 1, ts)) (hp : pc + 1 = nx) (k : xEx G M nx l (.int x.toInt8.toInt32 :: rest) h z kc ks Q) : xEx G M pc l (.int x :: rest) h z kc ks Q := by
  subst hp
  exact x_go (fun hx hb _ _ hv kk => lv_i2b hx hb (hO.d hl) rfl (kk _ hv)) k

theorem s_dup {v : Value} (hO : xO G M T P) (hl : T.lookup pc = some (.dup, 1, ts)) (hc : v.category = 1) (hp : pc + 1 = nx) (k : xEx G M nx l (v :: v :: rest) h z kc ks Q) : xEx G M pc l (v :: rest) h z kc ks Q := by
  subst hp
  exact x_go (fun hx hb _ _ hv kk => lv_dup hx hb (hO.d hl) hc (kk _ hv)) k

theorem s_pop {v : Value} (hO : xO G M T P) (hl : T.lookup pc = some (.pop, 1, ts)) (hc : v.category = 1) (hp : pc + 1 = nx) (k : xEx G M nx l (rest) h z kc ks Q) : xEx G M pc l (v :: rest) h z kc ks Q := by
  subst hp
  exact x_go (fun hx hb _ _ hv kk => lv_pop hx hb (hO.d hl) hc (kk _ hv)) k

theorem s_dup2 {v u : Value} (hO : xO G M T P) (hl : T.lookup pc = some (.dup2, 1, ts)) (hc : v.category = 1) (hu : u.category = 1) (hp : pc + 1 = nx) (k : xEx G M nx l (v :: u :: v :: u :: rest) h z kc ks Q) : xEx G M pc l (v :: u :: rest) h z kc ks Q := by
  subst hp
  exact x_go (fun hx hb _ _ hv kk => lv_dup2_11 hx hb (hO.d hl) hc hu (kk _ hv)) k

theorem s_goto {off : Int} {t : Nat} (hO : xO G M T P) (hl : T.lookup pc = some (.goto off, 3, [t])) (k : xEx G M t l st h z kc ks Q) : xEx G M pc l st h z kc ks Q :=
  x_go (fun hx hb _ _ hv kk => lv_goto hx hb (hO.d hl) (x_tg1 (hO.t hl)) (kk _ hv)) k

theorem s_if_eq {off : Int} {t : Nat} {x : Int32} (hO : xO G M T P) (hl : T.lookup pc = some (.ifCond .eq off, 3, [t])) (hp : pc + 3 = nx) (k1 : x = 0 → xEx G M t l rest h z kc ks Q) (k2 : ¬ x = 0 → xEx G M nx l rest h z kc ks Q) : xEx G M pc l (.int x :: rest) h z kc ks Q := by
  subst hp
  exact x_br (fun hx hb q1 q2 => lv_if_eq hx hb (hO.d hl) (x_tg1 (hO.t hl)) q1 q2) k1 k2
theorem s_icmp_eq {off : Int} {t : Nat} {x y : Int32} (hO : xO G M T P) (hl : T.lookup pc = some (.if_icmp .eq off, 3, [t])) (hp : pc + 3 = nx) (k1 : x = y → xEx G M t l rest h z kc ks Q) (k2 : ¬ x = y → xEx G M nx l rest h z kc ks Q) : xEx G M pc l (.int y :: .int x :: rest) h z kc ks Q := by
  subst hp
  exact x_br (fun hx hb q1 q2 => lv_icmp_eq hx hb (hO.d hl) (x_tg1 (hO.t hl)) q1 q2) k1 k2

theorem s_if_ne {off : Int} {t : Nat} {x : Int32} (hO : xO G M T P) (hl : T.lookup pc = some (.ifCond .ne off, 3, [t])) (hp : pc + 3 = nx) (k1 : ¬ x = 0 → xEx G M t l rest h z kc ks Q) (k2 : x = 0 → xEx G M nx l rest h z kc ks Q) : xEx G M pc l (.int x :: rest) h z kc ks Q := by
  subst hp
  exact x_br (fun hx hb q1 q2 => lv_if_ne hx hb (hO.d hl) (x_tg1 (hO.t hl)) q1 q2) k1 k2
theorem s_icmp_ne {off : Int} {t : Nat} {x y : Int32} (hO : xO G M T P) (hl : T.lookup pc = some (.if_icmp .ne off, 3, [t])) (hp : pc + 3 = nx) (k1 : ¬ x = y → xEx G M t l rest h z kc ks Q) (k2 : x = y → xEx G M nx l rest h z kc ks Q) : xEx G M pc l (.int y :: .int x :: rest) h z kc ks Q := by
  subst hp
  exact x_br (fun hx hb q1 q2 => lv_icmp_ne hx hb (hO.d hl) (x_tg1 (hO.t hl)) q1 q2) k1 k2

theorem s_if_lt {off : Int} {t : Nat} {x : Int32} (hO : xO G M T P) (hl : T.lookup pc = some (.ifCond .lt off, 3, [t])) (hp : pc + 3 = nx) (k1 : x < 0 → xEx G M t l rest h z kc ks Q) (k2 : ¬ x < 0 → xEx G M nx l rest h z kc ks Q) : xEx G M pc l (.int x :: rest) h z kc ks Q := by
  subst hp
  exact x_br (fun hx hb q1 q2 => lv_if_lt hx hb (hO.d hl) (x_tg1 (hO.t hl)) q1 q2) k1 k2
theorem s_icmp_lt {off : Int} {t : Nat} {x y : Int32} (hO : xO G M T P) (hl : T.lookup pc = some (.if_icmp .lt off, 3, [t])) (hp : pc + 3 = nx) (k1 : x < y → xEx G M t l rest h z kc ks Q) (k2 : ¬ x < y → xEx G M nx l rest h z kc ks Q) : xEx G M pc l (.int y :: .int x :: rest) h z kc ks Q := by
  subst hp
  exact x_br (fun hx hb q1 q2 => lv_icmp_lt hx hb (hO.d hl) (x_tg1 (hO.t hl)) q1 q2) k1 k2

theorem s_if_ge {off : Int} {t : Nat} {x : Int32} (hO : xO G M T P) (hl : T.lookup pc = some (.ifCond .ge off, 3, [t])) (hp : pc + 3 = nx) (k1 : 0 ≤ x → xEx G M t l rest h z kc ks Q) (k2 : ¬ 0 ≤ x → xEx G M nx l rest h z kc ks Q) : xEx G M pc l (.int x :: rest) h z kc ks Q := by
  subst hp
  exact x_br (fun hx hb q1 q2 => lv_if_ge hx hb (hO.d hl) (x_tg1 (hO.t hl)) q1 q2) k1 k2
theorem s_icmp_ge {off : Int} {t : Nat} {x y : Int32} (hO : xO G M T P) (hl : T.lookup pc = some (.if_icmp .ge off, 3, [t])) (hp : pc + 3 = nx) (k1 : y ≤ x → xEx G M t l rest h z kc ks Q) (k2 : ¬ y ≤ x → xEx G M nx l rest h z kc ks Q) : xEx G M pc l (.int y :: .int x :: rest) h z kc ks Q := by
  subst hp
  exact x_br (fun hx hb q1 q2 => lv_icmp_ge hx hb (hO.d hl) (x_tg1 (hO.t hl)) q1 q2) k1 k2

theorem s_if_gt {off : Int} {t : Nat} {x : Int32} (hO : xO G M T P) (hl : T.lookup pc = some (.ifCond .gt off, 3, [t])) (hp : pc + 3 = nx) (k1 : 0 < x → xEx G M t l rest h z kc ks Q) (k2 : ¬ 0 < x → xEx G M nx l rest h z kc ks Q) : xEx G M pc l (.int x :: rest) h z kc ks Q := by
  subst hp
  exact x_br (fun hx hb q1 q2 => lv_if_gt hx hb (hO.d hl) (x_tg1 (hO.t hl)) q1 q2) k1 k2
theorem s_icmp_gt {off : Int} {t : Nat} {x y : Int32} (hO : xO G M T P) (hl : T.lookup pc = some (.if_icmp .gt off, 3, [t])) (hp : pc + 3 = nx) (k1 : y < x → xEx G M t l rest h z kc ks Q) (k2 : ¬ y < x → xEx G M nx l rest h z kc ks Q) : xEx G M pc l (.int y :: .int x :: rest) h z kc ks Q := by
  subst hp
  exact x_br (fun hx hb q1 q2 => lv_icmp_gt hx hb (hO.d hl) (x_tg1 (hO.t hl)) q1 q2) k1 k2

theorem s_if_le {off : Int} {t : Nat} {x : Int32} (hO : xO G M T P) (hl : T.lookup pc = some (.ifCond .le off, 3, [t])) (hp : pc + 3 = nx) (k1 : x ≤ 0 → xEx G M t l rest h z kc ks Q) (k2 : ¬ x ≤ 0 → xEx G M nx l rest h z kc ks Q) : xEx G M pc l (.int x :: rest) h z kc ks Q := by
  subst hp
  exact x_br (fun hx hb q1 q2 => lv_if_le hx hb (hO.d hl) (x_tg1 (hO.t hl)) q1 q2) k1 k2
theorem s_icmp_le {off : Int} {t : Nat} {x y : Int32} (hO : xO G M T P) (hl : T.lookup pc = some (.if_icmp .le off, 3, [t])) (hp : pc + 3 = nx) (k1 : x ≤ y → xEx G M t l rest h z kc ks Q) (k2 : ¬ x ≤ y → xEx G M nx l rest h z kc ks Q) : xEx G M pc l (.int y :: .int x :: rest) h z kc ks Q := by
  subst hp
  exact x_br (fun hx hb q1 q2 => lv_icmp_le hx hb (hO.d hl) (x_tg1 (hO.t hl)) q1 q2) k1 k2

theorem s_switch {d lo hi : Int} {offs : Array Int} {n e : Nat} {us : List Nat} {x : Int32} (hO : xO G M T P) (hl : T.lookup pc = some (.tableswitch d lo hi offs, n, e :: us)) (k1 : x.toInt < lo ∨ hi < x.toInt → xEx G M e l rest h z kc ks Q) (k2 : ¬ x.toInt < lo → ¬ hi < x.toInt → ∃ t, us[(x.toInt - lo).toNat]? = some t ∧ xEx G M t l rest h z kc ks Q) : xEx G M pc l (.int x :: rest) h z kc ks Q :=
  xs_tableswitch (P := P) (K := xKx G M Q) (hO.d hl) (hO.t hl) (fun _ _ _ _ _ _ _ q => q) ⟨k1, k2⟩
theorem s_getf {j ci i a : Nat} {fs : List Value} {v : Value} (hO : xO G M T P) (hl : T.lookup pc = some (.getfield j, 3, ts)) (hj : P.1 j = some (ci, i)) (ha : h a = some (.inr (ci, fs))) (hv : fs[i]? = some v) (hp : pc + 3 = nx) (k : xEx G M nx l (v :: rest) h z kc ks Q) : xEx G M pc l (.ref a :: rest) h z kc ks Q := by
  subst hp
  exact x_get (hO.2.1 _ _ _ hj) ha hv (hO.d hl) k
theorem s_putf {j ci i a : Nat} {fs fs' : List Value} {v : Value} (hO : xO G M T P) (hl : T.lookup pc = some (.putfield j, 3, ts)) (hj : P.2.2.2.2.2 j = some (ci, i)) (ha : h a = some (.inr (ci, fs))) (hi : i < fs.length) (hn : narrow (q_ty G ci i) v = v) (hf : fits (q_ty G ci i) v = true) (e : fs.set i v = fs') (hp : pc + 3 = nx) (k : xEx G M nx l rest (va_up h a (some (.inr (ci, fs')))) z kc ks Q) : xEx G M pc l (v :: .ref a :: rest) h z kc ks Q := by
  subst hp
  subst e
  exact x_put (hO.2.2.2.2.2.2 _ _ _ hj) ha hi hn hf (hO.d hl) k
theorem s_gets {j n : Nat} {C nm d : String} {v : Value} (hO : xO G M T P) (hl : T.lookup pc = some (.getstatic j, 3, ts)) (hj : P.2.2.2.2.1 j = some n) (hv : q_sf G n = some (C, nm, d, v)) (hp : pc + 3 = nx) (k : xEx G M nx l (v :: rest) h z kc ks Q) : xEx G M pc l rest h z kc ks Q := by
  subst hp
  obtain ⟨C', nm', d', v', e1, e2⟩ := hO.2.2.2.2.2.1 _ _ hj
  cases e1.symm.trans hv
  exact x_gets e1 e2 (hO.d hl) k

theorem s_iald {a n : Nat} {i : Int32} {f : Nat → Int32} (hO : xO G M T P) (hl : T.lookup pc = some (.iaload, 1, ts)) (ha : h a = some (.inl (.int, n, .inl f))) (hi : vp_in i n) (hp : pc + 1 = nx) (k : xEx G M nx l (.int (f i.toNatClampNeg) :: rest) h z kc ks Q) : xEx G M pc l (.int i :: .ref a :: rest) h z kc ks Q := by
  subst hp
  exact x_iald ha hi (hO.d hl) k

theorem s_bald {a n : Nat} {i : Int32} {f : Nat → Int32} (hO : xO G M T P) (hl : T.lookup pc = some (.baload, 1, ts)) (ha : h a = some (.inl (.byte, n, .inl f))) (hi : vp_in i n) (hp : pc + 1 = nx) (k : xEx G M nx l (.int (f i.toNatClampNeg) :: rest) h z kc ks Q) : xEx G M pc l (.int i :: .ref a :: rest) h z kc ks Q := by
  subst hp
  exact x_bald ha hi (hO.d hl) k

theorem s_zald {a n : Nat} {i : Int32} {f : Nat → Int32} (hO : xO G M T P) (hl : T.lookup pc = some (.baload, 1, ts)) (ha : h a = some (.inl (.boolean, n, .inl f))) (hi : vp_in i n) (hp : pc + 1 = nx) (k : xEx G M nx l (.int (f i.toNatClampNeg) :: rest) h z kc ks Q) : xEx G M pc l (.int i :: .ref a :: rest) h z kc ks Q := by
  subst hp
  exact x_zald ha hi (hO.d hl) k

theorem s_lald {a n : Nat} {i : Int32} {f : Nat → Int64} (hO : xO G M T P) (hl : T.lookup pc = some (.laload, 1, ts)) (ha : h a = some (.inl (.long, n, .inr (.inl f)))) (hi : vp_in i n) (hp : pc + 1 = nx) (k : xEx G M nx l (.long (f i.toNatClampNeg) :: rest) h z kc ks Q) : xEx G M pc l (.int i :: .ref a :: rest) h z kc ks Q := by
  subst hp
  exact x_lald ha hi (hO.d hl) k

theorem s_iast {a n : Nat} {i : Int32} {x : Int32} {f : Nat → Int32} (hO : xO G M T P) (hl : T.lookup pc = some (.iastore, 1, ts)) (ha : h a = some (.inl (.int, n, .inl f))) (hi : vp_in i n) (hp : pc + 1 = nx) (k : xEx G M nx l rest (va_up h a (some (.inl (.int, n, .inl (upd f i.toNatClampNeg x))))) z kc ks Q) : xEx G M pc l (.int x :: .int i :: .ref a :: rest) h z kc ks Q := by
  subst hp
  exact x_iast ha hi (hO.d hl) k

theorem s_bast {a n : Nat} {i : Int32} {x : Int32} {f : Nat → Int32} (hO : xO G M T P) (hl : T.lookup pc = some (.bastore, 1, ts)) (ha : h a = some (.inl (.byte, n, .inl f))) (hi : vp_in i n) (hp : pc + 1 = nx) (k : xEx G M nx l rest (va_up h a (some (.inl (.byte, n, .inl (upd f i.toNatClampNeg (vp_nar .byte x)))))) z kc ks Q) : xEx G M pc l (.int x :: .int i :: .ref a :: rest) h z kc ks Q := by
  subst hp
  exact x_bast ha hi (hO.d hl) k

theorem s_zast {a n : Nat} {i : Int32} {x : Int32} {f : Nat → Int32} (hO : xO G M T P) (hl : T.lookup pc = some (.bastore, 1, ts)) (ha : h a = some (.inl (.boolean, n, .inl f))) (hi : vp_in i n) (hp : pc + 1 = nx) (k : xEx G M nx l rest (va_up h a (some (.inl (.boolean, n, .inl (upd f i.toNatClampNeg (vp_nar .boolean x)))))) z kc ks Q) : xEx G M pc l (.int x :: .int i :: .ref a :: rest) h z kc ks Q := by
  subst hp
  exact x_zast ha hi (hO.d hl) k

theorem s_last {a n : Nat} {i : Int32} {x : Int64} {f : Nat → Int64} (hO : xO G M T P) (hl : T.lookup pc = some (.lastore, 1, ts)) (ha : h a = some (.inl (.long, n, .inr (.inl f)))) (hi : vp_in i n) (hp : pc + 1 = nx) (k : xEx G M nx l rest (va_up h a (some (.inl (.long, n, .inr (.inl (vp_updL f i.toNatClampNeg x)))))) z kc ks Q) : xEx G M pc l (.long x :: .int i :: .ref a :: rest) h z kc ks Q := by
  subst hp
  exact x_last ha hi (hO.d hl) k

theorem s_roI {a n kr : Nat} {i : Int32} {v : Value} {f : Nat → Value} (hO : xO G M T P) (hl : T.lookup pc = some (.iaload, 1, ts)) (ha : q_ro G kr = some (a, .int, n, f)) (hi : vp_in i n) (hv : f i.toNatClampNeg = v) (hp : pc + 1 = nx) (k : xEx G M nx l (v :: rest) h z kc ks Q) : xEx G M pc l (.int i :: .ref a :: rest) h z kc ks Q := by
  subst hp
  exact x_roI ha hi hv (hO.d hl) k
theorem s_roB {a n kr : Nat} {i : Int32} {v : Value} {f : Nat → Value} (hO : xO G M T P) (hl : T.lookup pc = some (.baload, 1, ts)) (ha : q_ro G kr = some (a, .byte, n, f)) (hi : vp_in i n) (hv : f i.toNatClampNeg = v) (hp : pc + 1 = nx) (k : xEx G M nx l (v :: rest) h z kc ks Q) : xEx G M pc l (.int i :: .ref a :: rest) h z kc ks Q := by
  subst hp
  exact x_roB ha hi hv (hO.d hl) k
theorem s_rolen {a n kr : Nat} {ty : FieldType} {f : Nat → Value} (hO : xO G M T P) (hl : T.lookup pc = some (.arraylength, 1, ts)) (ha : q_ro G kr = some (a, ty, n, f)) (hp : pc + 1 = nx) (k : xEx G M nx l (.int (nI n) :: rest) h z kc ks Q) : xEx G M pc l (.ref a :: rest) h z kc ks Q := by
  subst hp
  exact x_rolen ha (hO.d hl) k
theorem s_alen {a n : Nat} {ty : FieldType} {f : Nat → Int32} (hO : xO G M T P) (hl : T.lookup pc = some (.arraylength, 1, ts)) (ha : h a = some (.inl (ty, n, .inl f))) (hty : ty = .int ∨ ty = .byte ∨ ty = .boolean) (hp : pc + 1 = nx) (k : xEx G M nx l (.int (nI n) :: rest) h z kc ks Q) : xEx G M pc l (.ref a :: rest) h z kc ks Q := by
  subst hp
  exact x_alenI hty ha (hO.d hl) k
theorem s_alenJ {a n : Nat} {f : Nat → Int64} (hO : xO G M T P) (hl : T.lookup pc = some (.arraylength, 1, ts)) (ha : h a = some (.inl (.long, n, .inr (.inl f)))) (hp : pc + 1 = nx) (k : xEx G M nx l (.int (nI n) :: rest) h z kc ks Q) : xEx G M pc l (.ref a :: rest) h z kc ks Q := by
  subst hp
  exact x_alenJ ha (hO.d hl) k
theorem s_new {j ci N : Nat} {C : String} {F : u_T} {fs : List Value} (hO : xO G M T P) (hl : T.lookup pc = some (.new j, 3, ts)) (hj : P.2.2.2.1 j = some ci) (hc : (q_cl G)[ci]? = some (C, F, N)) (hkc : 1 ≤ kc) (hks : N ≤ ks) (hfs : ∀ j, j < N → defaultValue (q_ty G ci j) = vp_V fs j) (hp : pc + 3 = nx) (k : xEx G M nx l (.ref z :: rest) (va_up h z (some (.inr (ci, fs)))) (z + 1) (kc - 1) (ks - N) Q) : xEx G M pc l rest h z kc ks Q := by
  subst hp
  obtain ⟨C', F', N', e1, e2, e3, e4, e5⟩ := hO.2.2.2.2.1 _ _ hj
  cases e1.symm.trans hc
  exact x_new e1 e2 e3 e4 e5 hkc hks hfs (hO.d hl) k

theorem s_newI {n : Nat} (hO : xO G M T P) (hl : T.lookup pc = some (.newarray .int, 2, ts)) (hn : n ≤ 65536) (hkc : 1 ≤ kc) (hks : n ≤ ks) (hp : pc + 2 = nx) (k : xEx G M nx l (.ref z :: rest) (va_up h z (some (.inl (.int, n, .inl (fun _ => 0))))) (z + 1) (kc - 1) (ks - n) Q) : xEx G M pc l (.int (nI n) :: rest) h z kc ks Q := by
  subst hp
  have h9 := (hO.1 _ (x_lkT hl)).2.2
  have harr : Cond.arrayClass .int ∈ m_w M := of_decide_eq_true h9
  have h8 : componentBytes .int ≤ 8 := by decide
  have h7 : n * componentBytes .int ≤ 536870912 := Nat.le_trans (Nat.mul_le_mul hn h8) (by decide)
  have h6 : n < 2 ^ 31 := Nat.lt_of_le_of_lt hn (by decide)
  exact x_newI harr (nI_pos h6) (nI_clamp h6) h7 hkc hks (hO.d hl) k

theorem s_newB {n : Nat} (hO : xO G M T P) (hl : T.lookup pc = some (.newarray .byte, 2, ts)) (hn : n ≤ 65536) (hkc : 1 ≤ kc) (hks : n ≤ ks) (hp : pc + 2 = nx) (k : xEx G M nx l (.ref z :: rest) (va_up h z (some (.inl (.byte, n, .inl (fun _ => 0))))) (z + 1) (kc - 1) (ks - n) Q) : xEx G M pc l (.int (nI n) :: rest) h z kc ks Q := by
  subst hp
  have h9 := (hO.1 _ (x_lkT hl)).2.2
  have harr : Cond.arrayClass .byte ∈ m_w M := of_decide_eq_true h9
  have h8 : componentBytes .byte ≤ 8 := by decide
  have h7 : n * componentBytes .byte ≤ 536870912 := Nat.le_trans (Nat.mul_le_mul hn h8) (by decide)
  have h6 : n < 2 ^ 31 := Nat.lt_of_le_of_lt hn (by decide)
  exact x_newB harr (nI_pos h6) (nI_clamp h6) h7 hkc hks (hO.d hl) k

theorem s_newZ {n : Nat} (hO : xO G M T P) (hl : T.lookup pc = some (.newarray .boolean, 2, ts)) (hn : n ≤ 65536) (hkc : 1 ≤ kc) (hks : n ≤ ks) (hp : pc + 2 = nx) (k : xEx G M nx l (.ref z :: rest) (va_up h z (some (.inl (.boolean, n, .inl (fun _ => 0))))) (z + 1) (kc - 1) (ks - n) Q) : xEx G M pc l (.int (nI n) :: rest) h z kc ks Q := by
  subst hp
  have h9 := (hO.1 _ (x_lkT hl)).2.2
  have harr : Cond.arrayClass .boolean ∈ m_w M := of_decide_eq_true h9
  have h8 : componentBytes .boolean ≤ 8 := by decide
  have h7 : n * componentBytes .boolean ≤ 536870912 := Nat.le_trans (Nat.mul_le_mul hn h8) (by decide)
  have h6 : n < 2 ^ 31 := Nat.lt_of_le_of_lt hn (by decide)
  exact x_newZ harr (nI_pos h6) (nI_clamp h6) h7 hkc hks (hO.d hl) k

theorem s_newJ {n : Nat} (hO : xO G M T P) (hl : T.lookup pc = some (.newarray .long, 2, ts)) (hn : n ≤ 65536) (hkc : 1 ≤ kc) (hks : n ≤ ks) (hp : pc + 2 = nx) (k : xEx G M nx l (.ref z :: rest) (va_up h z (some (.inl (.long, n, .inr (.inl (fun _ => 0)))))) (z + 1) (kc - 1) (ks - n) Q) : xEx G M pc l (.int (nI n) :: rest) h z kc ks Q := by
  subst hp
  have h9 := (hO.1 _ (x_lkT hl)).2.2
  have harr : Cond.arrayClass .long ∈ m_w M := of_decide_eq_true h9
  have h8 : componentBytes .long ≤ 8 := by decide
  have h7 : n * componentBytes .long ≤ 536870912 := Nat.le_trans (Nat.mul_le_mul hn h8) (by decide)
  have h6 : n < 2 ^ 31 := Nat.lt_of_le_of_lt hn (by decide)
  exact x_newJ harr (nI_pos h6) (nI_clamp h6) h7 hkc hks (hO.d hl) k

theorem s_iret {v : Int32} {ty : FieldType} (hO : xO G M T P) (hl : T.lookup pc = some (.ireturn, 1, ts)) (hr : m_r M = some ty) (hn : narrow ty (.int v) = .int v) (hq : Q (some (.int v)) h z) : xEx G M pc l [.int v] h z kc ks Q := x_iret hr hn (hO.d hl) hq
theorem s_lret {v : Int64} (hO : xO G M T P) (hl : T.lookup pc = some (.lreturn, 1, ts)) (hr : m_r M = some .long) (hq : Q (some (.long v)) h z) : xEx G M pc l [.long v] h z kc ks Q := x_lret hr (hO.d hl) hq
theorem s_aret {a : Nat} {n : String} (hO : xO G M T P) (hl : T.lookup pc = some (.areturn, 1, ts)) (hr : m_r M = some (.object n)) (hq : Q (some (.ref a)) h z) : xEx G M pc l [.ref a] h z kc ks Q := x_aret hr (hO.d hl) hq
theorem s_vret (hO : xO G M T P) (hl : T.lookup pc = some (.return_, 1, ts)) (hr : m_r M = none) (hq : Q none h z) : xEx G M pc l [] h z kc ks Q := x_vret hr (hO.d hl) hq
theorem s_callV {idx n ci b c' s' : Nat} {J : xM} (As : List Value) {Q' : xQ} {F : u_T} {N : Nat} {fs : List Value} (hO : xO G M T P) (hl : T.lookup pc = some (.invokevirtual idx, 3, ts)) (hC : xCv M idx J n) (hc : (q_cl G)[ci]? = some ((m_y J).cls, F, N)) (hb : h b = some (.inr (ci, fs))) (hJ : xC G J (.ref b :: As) h z c' s' Q') (hn : As.length = n) (hst : st = As.reverse ++ .ref b :: rest) (hrm : (rest.map fun v => v.category).sum ≤ 8) (h1 : c' ≤ kc) (h2 : s' ≤ ks) (hp : pc + 3 = nx)
    (k : ∀ (v : Option Value) (h' : xH) (z' : Nat), Q' v h' z' → xEx G M nx l (v.toList ++ rest) h' z' (kc - c') (ks - s') Q) : xEx G M pc l st h z kc ks Q := by
  subst hp
  subst hst
  exact x_callV hC hc hb hn hrm h1 h2 hJ (hO.d hl) k
theorem s_callS {idx n c' s' : Nat} {J : xM} (As : List Value) {Q' : xQ} (hO : xO G M T P) (hl : T.lookup pc = some (.invokestatic idx, 3, ts)) (hC : xCs M idx J n) (hJ : xC G J As h z c' s' Q') (hn : As.length = n) (hst : st = As.reverse ++ rest) (hrm : (rest.map fun v => v.category).sum ≤ 8) (h1 : c' ≤ kc) (h2 : s' ≤ ks) (hp : pc + 3 = nx)
    (k : ∀ (v : Option Value) (h' : xH) (z' : Nat), Q' v h' z' → xEx G M nx l (v.toList ++ rest) h' z' (kc - c') (ks - s') Q) : xEx G M pc l st h z kc ks Q := by
  subst hp
  subst hst
  exact x_callS hC hn hrm h1 h2 hJ (hO.d hl) k
theorem s_callI {idx n b c' s' : Nat} {J : xM} (As : List Value) {Q' : xQ} (hO : xO G M T P) (hl : T.lookup pc = some (.invokespecial idx, 3, ts)) (hC : xCi M idx J n) (hJ : xC G J (.ref b :: As) h z c' s' Q') (hn : As.length = n) (hst : st = As.reverse ++ .ref b :: rest) (hrm : (rest.map fun v => v.category).sum ≤ 8) (h1 : c' ≤ kc) (h2 : s' ≤ ks) (hp : pc + 3 = nx)
    (k : ∀ (v : Option Value) (h' : xH) (z' : Nat), Q' v h' z' → xEx G M nx l (v.toList ++ rest) h' z' (kc - c') (ks - s') Q) : xEx G M pc l st h z kc ks Q := by
  subst hp
  subst hst
  exact x_callI hC hn hrm h1 h2 hJ (hO.d hl) k
theorem s_callN {idx n b c' s' : Nat} {J : xM} {host : String} (As : List Value) {Q' : xQ} (hO : xO G M T P) (hl : T.lookup pc = some (.invokespecial idx, 3, ts)) (hC : xCn M J n) (hN : ∀ (U : State) (H : Heap), q_X G U H → va_Nw (.methodLinkNest (m_y M).cls idx (m_y J) host) U) (hJ : xC G J (.ref b :: As) h z c' s' Q') (hn : As.length = n) (hst : st = As.reverse ++ .ref b :: rest) (hrm : (rest.map fun v => v.category).sum ≤ 8) (h1 : c' ≤ kc) (h2 : s' ≤ ks) (hp : pc + 3 = nx)
    (k : ∀ (v : Option Value) (h' : xH) (z' : Nat), Q' v h' z' → xEx G M nx l (v.toList ++ rest) h' z' (kc - c') (ks - s') Q) : xEx G M pc l st h z kc ks Q := by
  subst hp
  subst hst
  exact x_callN hC hN hn hrm h1 h2 hJ (hO.d hl) k
theorem s_obj {idx b : Nat} (hO : xO G M T P) (hl : T.lookup pc = some (.invokespecial idx, 3, ts)) (hlk : Cond.methodLink (m_y M).cls idx objectInit ∈ m_w M) (hins : Cond.instanceMethod objectInit ∈ m_w M) (hco : Cond.code objectInit ⟨#[0xb1]⟩ 1 none ∈ m_w M) (hf : 1 ≤ m_f M) (hlo : (rest.map fun v => v.category).sum + 12 ≤ m_l M) (hp : pc + 3 = nx) (k : xEx G M nx l rest h z kc ks Q) : xEx G M pc l (.ref b :: rest) h z kc ks Q := by
  subst hp
  exact x_obj hlk hins hco hf hlo (hO.d hl) k
end XSteps
