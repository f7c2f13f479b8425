/-! ===== THE PURE LAYER: a method's run over a picture of the cells; no machine in it but in the proofs of its rules ===== -/
/-- a cell: an array (its kind, its length, what it holds), or an object (the number of its class, its fields) -/
abbrev xE : Type := (FieldType × vp_A) ⊕ (Nat × List Value)
abbrev xH : Type := Nat → Option xE
/-- what is fixed for a whole run: where new cells begin, the classes, their fields' types, numbers of classes, slots, array classes, arrays that nobody writes, static fields, other facts of the start -/
abbrev xG : Type := Nat × List vw_C × (Nat → Nat → FieldType) × (Nat → ClassId) × (Nat → Nat → Nat) × (FieldType → ClassId) × (Nat → Option (Nat × FieldType × Nat × (Nat → Value))) × (Nat → Option (String × String × String × Value)) × (State → Heap → Prop)
abbrev q_b (G : xG) : Nat := G.1
abbrev q_cl (G : xG) : List vw_C := G.2.1
abbrev q_ty (G : xG) : Nat → Nat → FieldType := G.2.2.1
abbrev q_D (G : xG) : va_G := (G.2.2.2.1, G.2.2.2.2.1)
abbrev q_A (G : xG) : FieldType → ClassId := G.2.2.2.2.2.1
abbrev q_ro (G : xG) : Nat → Option (Nat × FieldType × Nat × (Nat → Value)) := G.2.2.2.2.2.2.1
abbrev q_sf (G : xG) : Nat → Option (String × String × String × Value) := G.2.2.2.2.2.2.2.1
abbrev q_X (G : xG) : State → Heap → Prop := G.2.2.2.2.2.2.2.2
/-- a method: its name, code, locals, answer, words, frames and locals' words that its calls want -/
abbrev xM : Type := MethodName × ByteArray × Nat × Option FieldType × List Cond × Nat × Nat
abbrev m_y (M : xM) : MethodName := M.1
abbrev m_c (M : xM) : ByteArray := M.2.1
abbrev m_n (M : xM) : Nat := M.2.2.1
abbrev m_r (M : xM) : Option FieldType := M.2.2.2.1
abbrev m_w (M : xM) : List Cond := M.2.2.2.2.1
abbrev m_f (M : xM) : Nat := M.2.2.2.2.2.1
abbrev m_l (M : xM) : Nat := M.2.2.2.2.2.2
def x_A (G : xG) : Nat → Prop := fun q => q_b G ≤ q
def x_e (G : xG) (e : xE) : va_E := match e with
  | .inl x => .inl (q_A G x.1, x.2)
  | .inr o => .inr o
/-- the heap holds the picture -/
def xR (G : xG) (h : xH) (z : Nat) (H : Heap) : Prop := H.size = z ∧ q_b G ≤ z ∧ ∀ (a : Nat) (e : xE), h a = some e → q_b G ≤ a ∧ va_at (q_D G) (q_cl G) (a, x_e G e) H
def x_tys (G : xG) : List (ClassId × FieldType) := [(q_A G .int, .int), (q_A G .byte, .byte), (q_A G .boolean, .boolean), (q_A G .long, .long)]
def xK (G : xG) (U : State) : Prop := va_K (q_D G) (q_cl G) (x_tys G) U
def xZ (G : xG) (U : State) (H : Heap) : Prop := (∀ (k : Nat) (C n d : String) (v : Value), q_sf G k = some (C, n, d, v) → va_Z C n d v (x_A G) U H) ∧ (∀ (k t : Nat) (ty : FieldType) (N : Nat) (f : Nat → Value), q_ro G k = some (t, ty, N, f) → va_T ty t N f (x_A G) U H) ∧ q_X G U H
def xV (u U : State) : Prop := u.WarmedH U.vm ∨ u.vm = U.vm
theorem xV.alike {u U : State} (h : xV u U) : u.vm.Alike U.vm := by
  rcases h with h | h
  · exact h.alike
  · rw [h]; exact Vm.Alike.refl _
/-- what is so of G alone -/
def xW (G : xG) : Prop := (∀ (u U : State) (H H1 : Heap), xV u U → (∀ a : Nat, a < H.size → ¬ x_A G a → H1[a]? = H[a]?) → q_X G u H → q_X G U H1) ∧ ∀ (ci : Nat) (C : String) (T : u_T) (N : Nat), (q_cl G)[ci]? = some (C, T, N) → (∀ k, k < N → parseFieldDescriptor (T k).2.2.1 = some (q_ty G ci k)) ∧ ∀ a, a < N → ∀ b, b < N → a ≠ b → (T a).2.1 ≠ (T b).2.1
theorem xZ.moved {G : xG} (hW : xW G) {u U : State} {H H1 : Heap} (hvm : xV u U) (hq : ∀ a : Nat, a < H.size → ¬ x_A G a → H1[a]? = H[a]?) (h : xZ G u H) : xZ G U H1 :=
  ⟨fun k C n d v hk => ((h.1 k C n d v hk).moved hvm.alike).kept hq, fun k t ty N f ht => ((h.2.1 k t ty N f ht).moved hvm.alike).kept hq, hW.1 u U H H1 hvm hq h.2.2⟩
/-- what holds in a frame of M -/
def xFr (G : xG) (M : xM) (p : Program) (s : State) (m : MethodId) (args : Array Value) (meth : Method) (c : Code) : Prop :=
  p.tables.exec = Jvm.exec ∧ c.code = m_c M ∧ meth.sig.returnType = m_r M ∧ meth.locks = false ∧ c.maxLocals = m_n M ∧ s.vm.findClass (m_y M).cls = some m.cls ∧ ((m_y M).name = "<init>" → meth.name = "<init>") ∧ (∀ w ∈ m_w M, w.before args s = true) ∧ xK G s ∧ xZ G s s.heap ∧ xW G
abbrev xQ : Type := Option Value → xH → Nat → Prop
def xPc (G : xG) (as : List Value) (h : xH) (z : Nat) : Array Value → State → Prop := va_Pc as (fun U => xK G U ∧ xZ G U U.heap ∧ xR G h z U.heap)
def xQc (G : xG) (Q : xQ) : Array Value → State → Outcome → State → Prop := fun _ st oc t => (∃ (v : Option Value) (h' : xH) (z' : Nat), oc = .returned v ∧ Q v h' z' ∧ xR G h' z' t.heap) ∧ va_F (x_A G) st t
/-- M's CONTRACT at these arguments and cells: it returns, with Q; at most kc cells of ks places are new -/
def xC (G : xG) (M : xM) (as : List Value) (h : xH) (z kc ks : Nat) (Q : xQ) : Prop :=
  ∀ la : Launch, Met la (m_y M) (m_w M) { frames := m_f M, cells := kc, slots := ks, locals := m_l M } (xPc G as h z) (xQc G Q) kc ks (x_A G)
/-- M, at pc with locals l and stack st, comes to its end with Q; at most kc cells of ks places come anew -/
def xEx (G : xG) (M : xM) (pc : Nat) (l : List (Nat × Value)) (st : List Value) (h : xH) (z kc ks : Nat) (Q : xQ) : Prop :=
  ∀ (p : Program) (la : Launch) (e : Env) (R : Room) (s : State) (m : MethodId) (args : Array Value) (below : List Frame) (meth : Method) (c : Code) (H : Heap) (locs : List Loc) (cells slots mc ms : Nat) (ls : Array Slot),
    xFr G M p s m args meth c → m_f M ≤ R.frames → m_l M ≤ R.locals → R.cells = mc → R.slots = ms → cells + kc ≤ mc → slots + ks ≤ ms → lv_has ls (m_n M) l → xR G h z H → va_S (x_A G) s.heap H locs →
    W p la e R s m args below meth c H locs cells slots (MQ below (xQc G Q) args s mc ms (x_A G)) (F0 m pc ls st)
theorem x_go {G : xG} {M : xM} {pc pc' : Nat} {l l' : List (Nat × Value)} {st st' : List Value} {h : xH} {z kc ks : Nat} {Q : xQ}
    (f : ∀ {p : Program} {la : Launch} {e : Env} {R : Room} {s : State} {m : MethodId} {args : Array Value} {below : List Frame} {meth : Method} {c : Code} {H : Heap} {locs : List Loc} {cells slots : Nat} {Qf : State → Prop} {ls : Array Slot}, p.tables.exec = Jvm.exec → c.code = m_c M → s.vm.findClass (m_y M).cls = some m.cls → (∀ w ∈ m_w M, w.before args s = true) → lv_has ls (m_n M) l →
      (∀ ls' : Array Slot, lv_has ls' (m_n M) l' → W p la e R s m args below meth c H locs cells slots Qf (F0 m pc' ls' st')) → W p la e R s m args below meth c H locs cells slots Qf (F0 m pc ls st))
    (k : xEx G M pc' l' st' h z kc ks Q) : xEx G M pc l st h z kc ks Q := by
  intro p la e R s m args below meth c H locs cells slots mc ms ls F a1 a2 a3 a4 a5 a6 hl hR hS
  exact f F.1 F.2.1 F.2.2.2.2.2.1 F.2.2.2.2.2.2.2.1 hl (fun ls' hl' => k p la e R s m args below meth c H locs cells slots mc ms ls' F a1 a2 a3 a4 a5 a6 hl' hR hS)
theorem x_br {G : xG} {M : xM} {pc p1 p2 : Nat} {l : List (Nat × Value)} {st st' : List Value} {h : xH} {z kc ks : Nat} {Q : xQ} {A B : Prop}
    (f : ∀ {p : Program} {la : Launch} {e : Env} {R : Room} {s : State} {m : MethodId} {args : Array Value} {below : List Frame} {meth : Method} {c : Code} {H : Heap} {locs : List Loc} {cells slots : Nat} {Qf : State → Prop} {ls : Array Slot}, p.tables.exec = Jvm.exec → c.code = m_c M →
      (A → W p la e R s m args below meth c H locs cells slots Qf (F0 m p1 ls st')) → (B → W p la e R s m args below meth c H locs cells slots Qf (F0 m p2 ls st')) → W p la e R s m args below meth c H locs cells slots Qf (F0 m pc ls st))
    (k1 : A → xEx G M p1 l st' h z kc ks Q) (k2 : B → xEx G M p2 l st' h z kc ks Q) : xEx G M pc l st h z kc ks Q := by
  intro p la e R s m args below meth c H locs cells slots mc ms ls F a1 a2 a3 a4 a5 a6 hl hR hS
  exact f F.1 F.2.1 (fun q => k1 q p la e R s m args below meth c H locs cells slots mc ms ls F a1 a2 a3 a4 a5 a6 hl hR hS) (fun q => k2 q p la e R s m args below meth c H locs cells slots mc ms ls F a1 a2 a3 a4 a5 a6 hl hR hS)
/-- fewer locals are asked for, in another order -/
theorem xEx.loc {G : xG} {M : xM} {pc : Nat} {l l' : List (Nat × Value)} {st : List Value} {h : xH} {z kc ks : Nat} {Q : xQ} (hl : ∀ q ∈ l', q ∈ l) (k : xEx G M pc l' st h z kc ks Q) : xEx G M pc l st h z kc ks Q :=
  fun p la e R s m args below meth c H locs cells slots mc ms ls F a1 a2 a3 a4 a5 a6 hv hR hS => k p la e R s m args below meth c H locs cells slots mc ms ls F a1 a2 a3 a4 a5 a6 ⟨hv.1, hv.2.1, fun q hq => hv.2.2 q (hl q hq)⟩ hR hS
/-- more room than is asked for -/
theorem xEx.room {G : xG} {M : xM} {pc : Nat} {l : List (Nat × Value)} {st : List Value} {h : xH} {z kc ks kc' ks' : Nat} {Q : xQ} (h1 : kc' ≤ kc) (h2 : ks' ≤ ks) (k : xEx G M pc l st h z kc' ks' Q) : xEx G M pc l st h z kc ks Q :=
  fun p la e R s m args below meth c H locs cells slots mc ms ls F a1 a2 a3 a4 a5 a6 hv hR hS => k p la e R s m args below meth c H locs cells slots mc ms ls F a1 a2 a3 a4 (by omega) (by omega) hv hR hS
/-- a contract out of a run from the entry -/
theorem xC.of {G : xG} {M : xM} {as : List Value} {h : xH} {z kc ks : Nat} {Q : xQ} {ws' : List Cond} (hW : xW G) (hy : plainName (m_y M).cls = true) (hw : m_w M = Cond.code (m_y M) (m_c M) (m_n M) (m_r M) :: ws') (hn : (lg_sl as).length ≤ m_n M)
    (k : xEx G M 0 (lv_args 0 as) [] h z kc ks Q) : xC G M as h z kc ks Q := by
  intro la
  refine Met.ofW (cc := m_c M) (maxL := m_n M) (ret := m_r M) hy hw ?_
  intro p e s m args below meth c s₁ B hml hv
  obtain ⟨rfl, hK, hZ, hR⟩ := hv
  have hown : s.vm.findClass (m_y M).cls = some m.cls := findClass_of_methodNamed B.named
  have hts := atoms_spec (ws := m_w M) B.pre
  have hl := lv_entry as (n := m_n M) hn
  rw [lg_entry_eq]
  exact k p la e _ s m _ below meth c s.heap [] 0 0 kc ks _ ⟨B.exec, B.bytes, B.returns, B.notSynchronized, hml, hown, (fun h9 => (name_of_methodNamed B.named B.method).1.trans h9), hts, hK, hZ, hW⟩ (Nat.le_refl _) (Nat.le_refl _) rfl rfl (by omega) (by omega) hl hR va_S.rf
/-- the end of a method -/
theorem x_iret {G : xG} {M : xM} {pc : Nat} {l : List (Nat × Value)} {h : xH} {z kc ks : Nat} {Q : xQ} {v : Int32} {ty : FieldType} (hr : m_r M = some ty) (hn : narrow ty (.int v) = .int v) (hdg : decode (m_c M) pc = .ok (.ireturn, 1)) (hq : Q (some (.int v)) h z) : xEx G M pc l [.int v] h z kc ks Q := by
  intro p la e R s m args below meth c H locs cells slots mc ms ls F a1 a2 a3 a4 a5 a6 hl hR hS
  have hlk : meth.locks = false := F.2.2.2.1
  refine W.widen (k := mc) (n := ms) (by omega) (by omega) ?_
  exact W.zret F.1 F.2.1 (F.2.2.1.trans hr) hn (fun t ht hW => ⟨⟨some (.int v), h, z, rfl, hq, by rw [ht]; exact hR⟩, hS.F ht⟩) hS.2.2 hdg hlk
theorem x_lret {G : xG} {M : xM} {pc : Nat} {l : List (Nat × Value)} {h : xH} {z kc ks : Nat} {Q : xQ} {v : Int64} (hr : m_r M = some .long) (hdg : decode (m_c M) pc = .ok (.lreturn, 1)) (hq : Q (some (.long v)) h z) : xEx G M pc l [.long v] h z kc ks Q := by
  intro p la e R s m args below meth c H locs cells slots mc ms ls F a1 a2 a3 a4 a5 a6 hl hR hS
  have hlk : meth.locks = false := F.2.2.2.1
  refine W.widen (k := mc) (n := ms) (by omega) (by omega) ?_
  exact W.lret F.1 F.2.1 (F.2.2.1.trans hr) (fun t ht hW => ⟨⟨some (.long v), h, z, rfl, hq, by rw [ht]; exact hR⟩, hS.F ht⟩) hS.2.2 hdg hlk
theorem x_aret {G : xG} {M : xM} {pc : Nat} {l : List (Nat × Value)} {h : xH} {z kc ks : Nat} {Q : xQ} {a : Nat} {n : String} (hr : m_r M = some (.object n)) (hdg : decode (m_c M) pc = .ok (.areturn, 1)) (hq : Q (some (.ref a)) h z) : xEx G M pc l [.ref a] h z kc ks Q := by
  intro p la e R s m args below meth c H locs cells slots mc ms ls F a1 a2 a3 a4 a5 a6 hl hR hS
  have hlk : meth.locks = false := F.2.2.2.1
  refine W.widen (k := mc) (n := ms) (by omega) (by omega) ?_
  exact W.aret F.1 F.2.1 (F.2.2.1.trans hr) (Or.inl ⟨n, rfl⟩) (Or.inr ⟨a, rfl⟩) (fun t ht hW => ⟨⟨some (.ref a), h, z, rfl, hq, by rw [ht]; exact hR⟩, hS.F ht⟩) hS.2.2 hdg hlk
theorem x_vret {G : xG} {M : xM} {pc : Nat} {l : List (Nat × Value)} {h : xH} {z kc ks : Nat} {Q : xQ} (hr : m_r M = none) (hdg : decode (m_c M) pc = .ok (.return_, 1)) (hq : Q none h z) : xEx G M pc l [] h z kc ks Q := by
  intro p la e R s m args below meth c H locs cells slots mc ms ls F a1 a2 a3 a4 a5 a6 hl hR hS
  have hlk : meth.locks = false := F.2.2.2.1
  refine W.widen (k := mc) (n := ms) (by omega) (by omega) ?_
  exact W.vret F.1 F.2.1 (F.2.2.1.trans hr) (fun t ht hW => ⟨⟨none, h, z, rfl, hq, by rw [ht]; exact hR⟩, hS.F ht⟩) hS.2.2 hdg hlk
