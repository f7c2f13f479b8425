/-! ===== many instructions at once: what has to be so for a stretch of them ===== -/
/-- the pool: fields (class, place), ints, longs, classes, static fields, fields that are written -/
abbrev xP : Type := (Nat → Option (Nat × Nat)) × (Nat → Option Int32) × (Nat → Option Int64) × (Nat → Option Nat) × (Nat → Option Nat) × (Nat → Option (Nat × Nat))
/-- the code, read: a place, what stands there, its length, where it may go -/
abbrev xT : Type := List (Nat × Instr × Nat × List Nat)
abbrev xKt : Type := Nat → List (Nat × Value) → List Value → xH → Nat → Nat → Nat → Prop
def x_li (l : List (Nat × Value)) (i : Nat) (K : Int32 → Prop) : Prop := match l.lookup i with
  | some (.int x) => K x
  | _ => False
def x_ll (l : List (Nat × Value)) (i : Nat) (K : Int64 → Prop) : Prop := match l.lookup i with
  | some (.long x) => K x
  | _ => False
def x_la (l : List (Nat × Value)) (i : Nat) (K : Nat → Prop) : Prop := match l.lookup i with
  | some (.ref x) => K x
  | _ => False
def x_s1 (l : List (Nat × Value)) (i : Nat) (v : Value) : List (Nat × Value) := (i, v) :: l.filter (fun q => !(q.1 == i) && !(q.1 + 1 == i && q.2.category == 2))
def x_s2 (l : List (Nat × Value)) (i : Nat) (v : Value) : List (Nat × Value) := (i, v) :: l.filter (fun q => !(q.1 == i) && (!(q.1 == i + 1) && !(q.1 + 1 == i && q.2.category == 2)))
def x_c0 (c : Jvm.ClassFile.Cond) (x : Int32) : Prop := match c with
  | .eq => x = 0
  | .ne => ¬ x = 0
  | .lt => x < 0
  | .ge => 0 ≤ x
  | .gt => 0 < x
  | .le => x ≤ 0
def x_n0 (c : Jvm.ClassFile.Cond) (x : Int32) : Prop := match c with
  | .eq => ¬ x = 0
  | .ne => x = 0
  | .lt => ¬ x < 0
  | .ge => ¬ 0 ≤ x
  | .gt => ¬ 0 < x
  | .le => ¬ x ≤ 0
def x_c2 (c : Jvm.ClassFile.Cond) (x y : Int32) : Prop := match c with
  | .eq => x = y
  | .ne => ¬ x = y
  | .lt => x < y
  | .ge => y ≤ x
  | .gt => y < x
  | .le => x ≤ y
def x_n2 (c : Jvm.ClassFile.Cond) (x y : Int32) : Prop := match c with
  | .eq => ¬ x = y
  | .ne => x = y
  | .lt => ¬ x < y
  | .ge => ¬ y ≤ x
  | .gt => ¬ y < x
  | .le => ¬ x ≤ y
def x_gf (h : xH) (a : Nat) (q : Option (Nat × Nat)) (K : Value → Prop) : Prop := match q, h a with
  | some (ci, k), some (.inr (cj, fs)) => cj = ci ∧ (match fs[k]? with
    | some v => K v
    | none => False)
  | _, _ => False
def x_pf (G : xG) (h : xH) (a : Nat) (v : Value) (q : Option (Nat × Nat)) (K : xH → Prop) : Prop := match q, h a with
  | some (ci, k), some (.inr (cj, fs)) => cj = ci ∧ k < fs.length ∧ narrow (q_ty G ci k) v = v ∧ fits (q_ty G ci k) v = true ∧ K (va_up h a (some (.inr (ci, fs.set k v))))
  | _, _ => False
def x_aI (h : xH) (a : Nat) (i : Int32) (G : xG) (K : Value → Prop) : Prop := match h a with
  | some (.inl (ty, n, .inl f)) => ty = .int ∧ vp_in i n ∧ K (.int (f i.toNatClampNeg))
  | _ => False
def x_aB (h : xH) (a : Nat) (i : Int32) (G : xG) (K : Value → Prop) : Prop := match h a with
  | some (.inl (ty, n, .inl f)) => (ty = .byte ∨ ty = .boolean) ∧ vp_in i n ∧ K (.int (f i.toNatClampNeg))
  | _ => False
def x_aJ (h : xH) (a : Nat) (i : Int32) (K : Value → Prop) : Prop := match h a with
  | some (.inl (ty, n, .inr (.inl f))) => ty = .long ∧ vp_in i n ∧ K (.long (f i.toNatClampNeg))
  | _ => False
def x_wI (h : xH) (a : Nat) (i x : Int32) (K : xH → Prop) : Prop := match h a with
  | some (.inl (ty, n, .inl f)) => ty = .int ∧ vp_in i n ∧ K (va_up h a (some (.inl (.int, n, .inl (upd f i.toNatClampNeg x)))))
  | _ => False
def x_wB (h : xH) (a : Nat) (i x : Int32) (K : xH → Prop) : Prop := match h a with
  | some (.inl (ty, n, .inl f)) => (ty = .byte ∨ ty = .boolean) ∧ vp_in i n ∧ K (va_up h a (some (.inl (ty, n, .inl (upd f i.toNatClampNeg (vp_nar ty x))))))
  | _ => False
def x_wJ (h : xH) (a : Nat) (i : Int32) (x : Int64) (K : xH → Prop) : Prop := match h a with
  | some (.inl (ty, n, .inr (.inl f))) => ty = .long ∧ vp_in i n ∧ K (va_up h a (some (.inl (.long, n, .inr (.inl (vp_updL f i.toNatClampNeg x))))))
  | _ => False
def x_al (h : xH) (a : Nat) (G : xG) (K : Int32 → Prop) : Prop := match h a with
  | some (.inl (ty, n, .inl _)) => (ty = .int ∨ ty = .byte ∨ ty = .boolean) ∧ K (Int32.ofNat n)
  | some (.inl (ty, n, .inr (.inl _))) => ty = .long ∧ K (Int32.ofNat n)
  | _ => False
def x_na (t : ArrayType) (K : FieldType → ((Nat → Int32) ⊕ (Nat → Int64) ⊕ (Nat → UInt32) ⊕ (Nat → UInt64) ⊕ (Nat → Option Nat)) → Prop) : Prop := match t with
  | .int => K .int (.inl (fun _ => 0))
  | .byte => K .byte (.inl (fun _ => 0))
  | .boolean => K .boolean (.inl (fun _ => 0))
  | .long => K .long (.inr (.inl (fun _ => 0)))
  | _ => False
/-- one instruction, from its end to its beginning -/
def x_s (G : xG) (M : xM) (P : xP) (Q : xQ) (i : Instr) (n : Nat) (ts : List Nat) (pc : Nat) (l : List (Nat × Value)) (st : List Value) (h : xH) (z kc ks : Nat) (K : xKt) : Prop := match i with
  | .iconst v => n = 1 ∧ K (pc + 1) l (.int (Int32.ofInt v) :: st) h z kc ks
  | .bipush v => n = 2 ∧ (Int8.ofInt v).toInt32 = Int32.ofInt v ∧ K (pc + 2) l (.int (Int32.ofInt v) :: st) h z kc ks
  | .sipush v => n = 3 ∧ (Int16.ofInt v).toInt32 = Int32.ofInt v ∧ K (pc + 3) l (.int (Int32.ofInt v) :: st) h z kc ks
  | .lconst v => n = 1 ∧ K (pc + 1) l (.long (Int64.ofNat v) :: st) h z kc ks
  | .ldc j => n = 2 ∧ (match P.2.1 j with
    | some v => K (pc + 2) l (.int v :: st) h z kc ks
    | none => False)
  | .ldc_w j => n = 3 ∧ (match P.2.1 j with
    | some v => K (pc + 3) l (.int v :: st) h z kc ks
    | none => False)
  | .ldc2_w j => n = 3 ∧ (match P.2.2.1 j with
    | some v => K (pc + 3) l (.long v :: st) h z kc ks
    | none => False)
  | .iload j => n = 2 ∧ x_li l j (fun x => K (pc + 2) l (.int x :: st) h z kc ks)
  | .iload_n j => n = 1 ∧ x_li l j (fun x => K (pc + 1) l (.int x :: st) h z kc ks)
  | .lload j => n = 2 ∧ x_ll l j (fun x => K (pc + 2) l (.long x :: st) h z kc ks)
  | .lload_n j => n = 1 ∧ x_ll l j (fun x => K (pc + 1) l (.long x :: st) h z kc ks)
  | .aload j => n = 2 ∧ x_la l j (fun x => K (pc + 2) l (.ref x :: st) h z kc ks)
  | .aload_n j => n = 1 ∧ x_la l j (fun x => K (pc + 1) l (.ref x :: st) h z kc ks)
  | .istore j => n = 2 ∧ j < m_n M ∧ (match st with
    | .int x :: r => K (pc + 2) (x_s1 l j (.int x)) r h z kc ks
    | _ => False)
  | .istore_n j => n = 1 ∧ (j : Nat) < m_n M ∧ (match st with
    | .int x :: r => K (pc + 1) (x_s1 l j (.int x)) r h z kc ks
    | _ => False)
  | .lstore j => n = 2 ∧ j + 1 < m_n M ∧ (match st with
    | .long x :: r => K (pc + 2) (x_s2 l j (.long x)) r h z kc ks
    | _ => False)
  | .lstore_n j => n = 1 ∧ (j : Nat) + 1 < m_n M ∧ (match st with
    | .long x :: r => K (pc + 1) (x_s2 l j (.long x)) r h z kc ks
    | _ => False)
  | .astore j => n = 2 ∧ j < m_n M ∧ (match st with
    | .ref x :: r => K (pc + 2) (x_s1 l j (.ref x)) r h z kc ks
    | _ => False)
  | .astore_n j => n = 1 ∧ (j : Nat) < m_n M ∧ (match st with
    | .ref x :: r => K (pc + 1) (x_s1 l j (.ref x)) r h z kc ks
    | _ => False)
  | .iinc j c => n = 3 ∧ j < m_n M ∧ x_li l j (fun x => K (pc + 3) (x_s1 l j (.int (x + Int32.ofInt c))) st h z kc ks)
  | .iadd => n = 1 ∧ (match st with
    | .int y :: .int x :: r => K (pc + 1) l (.int (x + y) :: r) h z kc ks
    | _ => False)
  | .isub => n = 1 ∧ (match st with
    | .int y :: .int x :: r => K (pc + 1) l (.int (x - y) :: r) h z kc ks
    | _ => False)
  | .imul => n = 1 ∧ (match st with
    | .int y :: .int x :: r => K (pc + 1) l (.int (x * y) :: r) h z kc ks
    | _ => False)
  | .idiv => n = 1 ∧ (match st with
    | .int y :: .int x :: r => ¬ y = 0 ∧ K (pc + 1) l (.int (x / y) :: r) h z kc ks
    | _ => False)
  | .irem => n = 1 ∧ (match st with
    | .int y :: .int x :: r => ¬ y = 0 ∧ K (pc + 1) l (.int (x - x / y * y) :: r) h z kc ks
    | _ => False)
  | .iand => n = 1 ∧ (match st with
    | .int y :: .int x :: r => K (pc + 1) l (.int (x &&& y) :: r) h z kc ks
    | _ => False)
  | .ior => n = 1 ∧ (match st with
    | .int y :: .int x :: r => K (pc + 1) l (.int (x ||| y) :: r) h z kc ks
    | _ => False)
  | .ixor => n = 1 ∧ (match st with
    | .int y :: .int x :: r => K (pc + 1) l (.int (x ^^^ y) :: r) h z kc ks
    | _ => False)
  | .ishl => n = 1 ∧ (match st with
    | .int y :: .int x :: r => K (pc + 1) l (.int (x <<< (y &&& 31)) :: r) h z kc ks
    | _ => False)
  | .ishr => n = 1 ∧ (match st with
    | .int y :: .int x :: r => K (pc + 1) l (.int (x >>> (y &&& 31)) :: r) h z kc ks
    | _ => False)
  | .ineg => n = 1 ∧ (match st with
    | .int x :: r => K (pc + 1) l (.int (-x) :: r) h z kc ks
    | _ => False)
  | .ladd => n = 1 ∧ (match st with
    | .long y :: .long x :: r => K (pc + 1) l (.long (x + y) :: r) h z kc ks
    | _ => False)
  | .lsub => n = 1 ∧ (match st with
    | .long y :: .long x :: r => K (pc + 1) l (.long (x - y) :: r) h z kc ks
    | _ => False)
  | .lmul => n = 1 ∧ (match st with
    | .long y :: .long x :: r => K (pc + 1) l (.long (x * y) :: r) h z kc ks
    | _ => False)
  | .land => n = 1 ∧ (match st with
    | .long y :: .long x :: r => K (pc + 1) l (.long (x &&& y) :: r) h z kc ks
    | _ => False)
  | .lor => n = 1 ∧ (match st with
    | .long y :: .long x :: r => K (pc + 1) l (.long (x ||| y) :: r) h z kc ks
    | _ => False)
  | .lxor => n = 1 ∧ (match st with
    | .long y :: .long x :: r => K (pc + 1) l (.long (x ^^^ y) :: r) h z kc ks
    | _ => False)
  | .lneg => n = 1 ∧ (match st with
    | .long x :: r => K (pc + 1) l (.long (-x) :: r) h z kc ks
    | _ => False)
  | .lshl => n = 1 ∧ (match st with
    | .int y :: .long x :: r => K (pc + 1) l (.long (x <<< (y.toInt64 &&& 63)) :: r) h z kc ks
    | _ => False)
  | .lshr => n = 1 ∧ (match st with
    | .int y :: .long x :: r => K (pc + 1) l (.long (x >>> (y.toInt64 &&& 63)) :: r) h z kc ks
    | _ => False)
  | .lcmp => n = 1 ∧ (match st with
    | .long y :: .long x :: r => K (pc + 1) l (.int (lg_cmp x y) :: r) h z kc ks
    | _ => False)
  | .i2l => n = 1 ∧ (match st with
    | .int x :: r => K (pc + 1) l (.long x.toInt64 :: r) h z kc ks
    | _ => False)
  | .l2i => n = 1 ∧ (match st with
    | .long x :: r => K (pc + 1) l (.int x.toInt32 :: r) h z kc ks
    | _ => False)
  | .i2b => n = 1 ∧ (match st with
    | .int x :: r => K (pc + 1) l (.int x.toInt8.toInt32 :: r) h z kc ks
    | _ => False)
  | .dup => n = 1 ∧ (match st with
    | v :: r => v.category = 1 ∧ K (pc + 1) l (v :: v :: r) h z kc ks
    | _ => False)
  | .pop => n = 1 ∧ (match st with
    | v :: r => v.category = 1 ∧ K (pc + 1) l r h z kc ks
    | _ => False)
  | .dup2 => n = 1 ∧ (match st with
    | v :: w :: r => v.category = 1 ∧ w.category = 1 ∧ K (pc + 1) l (v :: w :: v :: w :: r) h z kc ks
    | _ => False)
  | .goto _ => n = 3 ∧ (match ts with
    | [t] => K t l st h z kc ks
    | _ => False)
  | .ifCond c _ => n = 3 ∧ (match ts, st with
    | [t], .int x :: r => (x_c0 c x → K t l r h z kc ks) ∧ (x_n0 c x → K (pc + 3) l r h z kc ks)
    | _, _ => False)
  | .if_icmp c _ => n = 3 ∧ (match ts, st with
    | [t], .int y :: .int x :: r => (x_c2 c x y → K t l r h z kc ks) ∧ (x_n2 c x y → K (pc + 3) l r h z kc ks)
    | _, _ => False)
  | .tableswitch _ lo hi _ => (match ts, st with
    | d :: us, .int x :: r => (x.toInt < lo ∨ hi < x.toInt → K d l r h z kc ks) ∧ (¬ x.toInt < lo → ¬ hi < x.toInt → ∃ t, us[(x.toInt - lo).toNat]? = some t ∧ K t l r h z kc ks)
    | _, _ => False)
  | .getfield j => n = 3 ∧ (match st with
    | .ref a :: r => x_gf h a (P.1 j) (fun v => K (pc + 3) l (v :: r) h z kc ks)
    | _ => False)
  | .putfield j => n = 3 ∧ (match st with
    | v :: .ref a :: r => x_pf G h a v (P.2.2.2.2.2 j) (fun h' => K (pc + 3) l r h' z kc ks)
    | _ => False)
  | .getstatic j => n = 3 ∧ (match P.2.2.2.2.1 j with
    | some k => (match q_sf G k with
      | some (_, _, _, v) => K (pc + 3) l (v :: st) h z kc ks
      | none => False)
    | none => False)
  | .iaload => n = 1 ∧ (match st with
    | .int i :: .ref a :: r => x_aI h a i G (fun v => K (pc + 1) l (v :: r) h z kc ks)
    | _ => False)
  | .baload => n = 1 ∧ (match st with
    | .int i :: .ref a :: r => x_aB h a i G (fun v => K (pc + 1) l (v :: r) h z kc ks)
    | _ => False)
  | .laload => n = 1 ∧ (match st with
    | .int i :: .ref a :: r => x_aJ h a i (fun v => K (pc + 1) l (v :: r) h z kc ks)
    | _ => False)
  | .iastore => n = 1 ∧ (match st with
    | .int x :: .int i :: .ref a :: r => x_wI h a i x (fun h' => K (pc + 1) l r h' z kc ks)
    | _ => False)
  | .bastore => n = 1 ∧ (match st with
    | .int x :: .int i :: .ref a :: r => x_wB h a i x (fun h' => K (pc + 1) l r h' z kc ks)
    | _ => False)
  | .lastore => n = 1 ∧ (match st with
    | .long x :: .int i :: .ref a :: r => x_wJ h a i x (fun h' => K (pc + 1) l r h' z kc ks)
    | _ => False)
  | .arraylength => n = 1 ∧ (match st with
    | .ref a :: r => x_al h a G (fun v => K (pc + 1) l (.int v :: r) h z kc ks)
    | _ => False)
  | .newarray t => n = 2 ∧ (match st with
    | .int x :: r => ¬ x < 0 ∧ 1 ≤ kc ∧ x.toNatClampNeg ≤ ks ∧ x.toNatClampNeg ≤ 65536 ∧ x_na t (fun ty c => K (pc + 2) l (.ref z :: r) (va_up h z (some (.inl (ty, x.toNatClampNeg, c)))) (z + 1) (kc - 1) (ks - x.toNatClampNeg))
    | _ => False)
  | .new j => n = 3 ∧ (match P.2.2.2.1 j with
    | some ci => (match (q_cl G)[ci]? with
      | some (_, _, N) => 1 ≤ kc ∧ N ≤ ks ∧ K (pc + 3) l (.ref z :: st) (va_up h z (some (.inr (ci, (List.range N).map (fun j => defaultValue (q_ty G ci j)))))) (z + 1) (kc - 1) (ks - N)
      | none => False)
    | none => False)
  | .ireturn => n = 1 ∧ (match st, m_r M with
    | [.int v], some ty => narrow ty (.int v) = .int v ∧ Q (some (.int v)) h z
    | _, _ => False)
  | .lreturn => n = 1 ∧ (match st, m_r M with
    | [.long v], some .long => Q (some (.long v)) h z
    | _, _ => False)
  | .areturn => n = 1 ∧ (match st, m_r M with
    | [.ref a], some (.object _) => Q (some (.ref a)) h z
    | _, _ => False)
  | .return_ => n = 1 ∧ (match st, m_r M with
    | [], none => Q none h z
    | _, _ => False)
  | _ => False
/-- what a place of the code says of where it may go -/
def x_tg (pc : Nat) (i : Instr) (ts : List Nat) : Bool := match i with
  | .goto off => ts.map Int.ofNat == [(pc : Int) + off]
  | .ifCond _ off => ts.map Int.ofNat == [(pc : Int) + off]
  | .if_icmp _ off => ts.map Int.ofNat == [(pc : Int) + off]
  | .tableswitch d lo hi offs => (ts.map Int.ofNat == (d :: offs.toList).map (fun o => (pc : Int) + o)) && (hi - lo + 1 == (offs.size : Int))
  | _ => true
def x_naB (M : xM) (i : Instr) : Bool := match i with
  | .newarray t => decide (Cond.arrayClass (newarray.typeOf t) ∈ m_w M)
  | _ => true
def xTok (M : xM) (T : xT) : Prop := ∀ q ∈ T, decode (m_c M) q.1 = .ok (q.2.1, q.2.2.1) ∧ x_tg q.1 q.2.1 q.2.2.2 = true ∧ x_naB M q.2.1 = true
/-- the pool's words stand in the method's -/
def xPok (G : xG) (M : xM) (P : xP) : Prop :=
  (∀ j ci k, P.1 j = some (ci, k) → xFg G M j ci k) ∧ (∀ j v, P.2.1 j = some v → Cond.constant (m_y M).cls j v ∈ m_w M) ∧ (∀ j v, P.2.2.1 j = some v → Cond.constantLong (m_y M).cls j v ∈ m_w M) ∧
  (∀ j ci, P.2.2.2.1 j = some ci → ∃ C T N, (q_cl G)[ci]? = some (C, T, N) ∧ Cond.classLink (m_y M).cls j C ∈ m_w M ∧ Cond.instantiable C N ∈ m_w M ∧ Cond.initialized C ∈ m_w M ∧ ∀ w ∈ u_ws C T N, w ∈ m_w M) ∧
  (∀ j k, P.2.2.2.2.1 j = some k → ∃ C n d v, q_sf G k = some (C, n, d, v) ∧ Cond.fieldLink (m_y M).cls j C n d ∈ m_w M) ∧ (∀ j ci k, P.2.2.2.2.2 j = some (ci, k) → xFd G M j ci k)
