/-! ===== cells: reading, writing, making ===== -/
theorem xR.get {G : xG} {h : xH} {z : Nat} {H : Heap} (hR : xR G h z H) {a : Nat} {e : xE} (he : h a = some e) : va_at (q_D G) (q_cl G) (a, x_e G e) H := (hR.2.2 a e he).2
theorem xR.lt {G : xG} {h : xH} {z : Nat} {H : Heap} (hR : xR G h z H) {a : Nat} {e : xE} (he : h a = some e) : a < z := by
  have := (hR.get he).lt
  rw [hR.1] at this
  exact this
theorem xR.set {G : xG} {h : xH} {z : Nat} {H H1 : Heap} (hR : xR G h z H) {a : Nat} {e0 e : xE} (h0 : h a = some e0) (he : va_at (q_D G) (q_cl G) (a, x_e G e) H1) (hz : H1.size = H.size) (oq : ∀ q : Nat, q ≠ a → H1[q]? = H[q]?) : xR G (va_up h a (some e)) z H1 := by
  refine ⟨hz.trans hR.1, hR.2.1, fun b f hb => ?_⟩
  by_cases hba : b = a
  · subst hba
    rw [va_up_self] at hb
    cases hb
    exact ⟨(hR.2.2 b e0 h0).1, he⟩
  · rw [va_up_ne _ _ hba] at hb
    obtain ⟨g1, g2⟩ := hR.2.2 b f hb
    exact ⟨g1, g2.kept (oq b hba)⟩
theorem xR.push {G : xG} {h : xH} {z : Nat} {H H1 : Heap} (hR : xR G h z H) {e : xE} (he : va_at (q_D G) (q_cl G) (z, x_e G e) H1) (hz : H1.size = z + 1) (oq : ∀ q : Nat, q < z → H1[q]? = H[q]?) : xR G (va_up h z (some e)) (z + 1) H1 := by
  refine ⟨hz, Nat.le_trans hR.2.1 (Nat.le_succ z), fun b f hb => ?_⟩
  by_cases hba : b = z
  · subst hba
    rw [va_up_self] at hb
    cases hb
    exact ⟨hR.2.1, he⟩
  · rw [va_up_ne _ _ hba] at hb
    obtain ⟨g1, g2⟩ := hR.2.2 b f hb
    exact ⟨g1, g2.kept (oq b (hR.lt hb))⟩
theorem xS.push {A : Nat → Prop} {H0 H H1 : Heap} {locs : List Loc} (hS : va_S A H0 H locs) (hz : H.size ≤ H1.size) (oq : ∀ q : Nat, q < H.size → H1[q]? = H[q]?) : va_S A H0 H1 locs :=
  ⟨Nat.le_trans hS.1 hz, fun q h1 h2 => (oq q (Nat.lt_of_lt_of_le h1 hS.1)).trans (hS.2.1 q h1 h2), hS.2.2⟩
theorem x_tyI {G : xG} : (x_tys G)[0]? = some (q_A G .int, .int) := rfl
theorem x_tyB {G : xG} : (x_tys G)[1]? = some (q_A G .byte, .byte) := rfl
theorem x_tyZ {G : xG} : (x_tys G)[2]? = some (q_A G .boolean, .boolean) := rfl
theorem x_tyJ {G : xG} : (x_tys G)[3]? = some (q_A G .long, .long) := rfl
/-- what a place of the pool that names a field has to say in a method's words -/
def xFd (G : xG) (M : xM) (idx ci k : Nat) : Prop := ∃ (C : String) (T : u_T) (N : Nat), (q_cl G)[ci]? = some (C, T, N) ∧ k < N ∧ Cond.fieldLink (m_y M).cls idx (T k).1 (T k).2.1 (T k).2.2.1 ∈ m_w M ∧ (∀ w ∈ u_ws C T N, w ∈ m_w M) ∧ ((T k).2.2.2 = false ∨ ((T k).2.2.2 = true ∧ (m_y M).name = "<init>" ∧ (T k).1 = (m_y M).cls))
/-- what is enough to read -/
def xFg (G : xG) (M : xM) (idx ci k : Nat) : Prop := ∃ (C : String) (T : u_T) (N : Nat), (q_cl G)[ci]? = some (C, T, N) ∧ k < N ∧ Cond.fieldLink (m_y M).cls idx (T k).1 (T k).2.1 (T k).2.2.1 ∈ m_w M ∧ (∀ w ∈ u_ws C T N, w ∈ m_w M)
section XRules
variable {G : xG} {M : xM} {pc : Nat} {l : List (Nat × Value)} {st rest : List Value} {h : xH} {z kc ks : Nat} {Q : xQ}
theorem x_get {idx ci k a : Nat} {fs : List Value} {v : Value} (hf : xFg G M idx ci k) (ha : h a = some (.inr (ci, fs))) (hv : fs[k]? = some v) (hdg : decode (m_c M) pc = .ok (.getfield idx, 3)) (kk : xEx G M (pc + 3) l (v :: rest) h z kc ks Q) : xEx G M pc l (.ref a :: rest) h z kc ks Q := by
  obtain ⟨C, T, N, hc, hk, hlk, hin⟩ := hf
  intro p la e R s m args below meth c H locs cells slots mc ms ls F a1 a2 a3 a4 a5 a6 hl hR hS
  obtain ⟨hx, hb, hr, hlo, hml, hown, hnm, hts, hK, hZ, hW⟩ := id F
  exact va_get (D := q_D G) (ci := ci) (ws := [(a, .inr (ci, fs))]) (C := C) (T := T) (N := N) hx hb hts hin hown hK (fun j q hj => by
    cases j with
    | zero => cases hj; exact hR.get ha
    | succ j => simp at hj) 0 rfl hc k hk (hts _ hlk) (fun _ h9 => h9) hv hdg (kk p la e R s m args below meth c H locs cells slots mc ms ls F a1 a2 a3 a4 a5 a6 hl hR hS)
theorem x_put {idx ci k a : Nat} {fs : List Value} {v : Value} (hf : xFd G M idx ci k) (ha : h a = some (.inr (ci, fs))) (hlen : k < fs.length) (hn : narrow (q_ty G ci k) v = v) (hfit : fits (q_ty G ci k) v = true) (hdg : decode (m_c M) pc = .ok (.putfield idx, 3)) (kk : xEx G M (pc + 3) l rest (va_up h a (some (.inr (ci, fs.set k v)))) z kc ks Q) : xEx G M pc l (v :: .ref a :: rest) h z kc ks Q := by
  obtain ⟨C, T, N, hc, hk, hlk, hin, hfin⟩ := hf
  intro p la e R s m args below meth c H locs cells slots mc ms ls F a1 a2 a3 a4 a5 a6 hl hR hS
  obtain ⟨hx, hb, hr, hlo, hml, hown, hnm, hts, hK, hZ, hW⟩ := id F
  obtain ⟨hty, hnms⟩ := hW.2 ci C T N hc
  have hap := va_apart (own := C) hts hin (q_ty G ci) hty hnms hK hc
  obtain ⟨r, h1, cell, q1, q2, q3, q4⟩ := hR.get ha
  have hrr : r = (C, T, N) := Option.some.inj (h1.symm.trans hc)
  subst hrr
  obtain ⟨hSl, hfc, kC, hkC, hkind⟩ := hK.1 ci _ hc
  obtain ⟨cf, kf, fi, f, hi, hsl⟩ := hSl k hk
  have hst := (u_facts hfc hkC (u_lays hts hin hk) hi).1
  have hA : x_A G a := (hR.2.2 a _ ha).1
  have fin : ∀ H' : Heap, H'[a]? = some (cell.setSlot f.slot v) → H'.size = H.size → (∀ q, q ≠ a → H'[q]? = H[q]?) → W p la e R s m args below meth c H' (locs ++ [⟨a, f.slot⟩]) cells slots (MQ below (xQc G Q) args s mc ms (x_A G)) (F0 m (pc + 3) ls rest) := by
    intro H' e1 e2 e3
    rw [hsl] at e1
    exact kk p la e R s m args below meth c H' _ cells slots mc ms ls F a1 a2 a3 a4 a5 a6 hl (hR.set ha (e := .inr (ci, fs.set k v)) ⟨_, hc, t_OB.to (V := updV (vp_V fs) k v) ⟨_, e1, q2, q3, t_set q4 hap hk v⟩ (fun j _ => vp_updV_set hlen v j)⟩ e2 e3) (hS.put e2 e3 hA)
  rcases hfin with hfin | ⟨hfin, hin2, hdecl⟩
  · have hlay := hts _ (hin _ (u_in_lay hk))
    unfold u_lay at hlay
    rw [if_neg (by rw [hfin]; decide)] at hlay
    have h6 := u_store hfc hkC hkind hlay hi (hty k hk) hn hfit
    exact W.putK hx hb (f := f) ⟨hown, hts _ hlk, ⟨_, _, _, hi⟩, hst⟩ (by rw [q2]; exact h6) q1 q3 (by rw [hsl]; exact k2_hasslot (q4 k hk)) rfl rfl hdg fin
  · have h6 := u_fits hfc hkC hkind (u_lays hts hin hk) hi (hty k hk) hn hfit
    have hlay := hts _ (hin _ (u_in_lay hk))
    unfold u_lay at hlay
    rw [if_pos hfin] at hlay
    have hcf : m.cls = cf := by
      obtain ⟨_, _, c', _, _, _, -, -, hf', -, -, -, hown2, -⟩ := Cond.laysFinal_spec hlay
      have e1 : c' = cf := by have := hi.symm.trans hf'; simp at this; exact this.1.symm
      rw [hdecl] at hown2
      rw [← e1]; exact Option.some.inj (hown.symm.trans hown2)
    exact W.putFinK hx hb hown (hts _ hlk) hi hst hcf (hnm hin2) (by rw [q2]; exact h6) q1 q3 (by rw [hsl]; exact k2_hasslot (q4 k hk)) rfl rfl hdg fin
theorem x_iald {a nn : Nat} {i : Int32} {f : Nat → Int32} (ha : h a = some (.inl (.int, nn, .inl f))) (hin : vp_in i nn) (hdg : decode (m_c M) pc = .ok (.iaload, 1)) (kk : xEx G M (pc + 1) l (.int (f i.toNatClampNeg) :: rest) h z kc ks Q) : xEx G M pc l (.int i :: .ref a :: rest) h z kc ks Q := by
  intro p la e R s m args below meth c H locs cells slots mc ms ls F a1 a2 a3 a4 a5 a6 hl hR hS
  obtain ⟨hx, hb, hr, hlo, hml, hown, hnm, hts, hK, hZ, hW⟩ := id F
  have hlt : i.toNatClampNeg < nn := Nat.not_le.mp fun q => hin (Or.inr q)
  exact W.iald (v := .int (f i.toNatClampNeg)) hx hb (hR.get ha) ((hK.2 _ _ x_tyI).1 nn (fun j => .int (f j))) (fun q => by cases q) (by show ¬ (i < 0 ∨ (arrV _ _ _).slots.size ≤ _); rw [arrV_size]; exact hin) (by show (arrV _ _ _).slots[_]? = _; rw [arrV_read _ _ hlt]) rfl rfl hdg (kk p la e R s m args below meth c H locs cells slots mc ms ls F a1 a2 a3 a4 a5 a6 hl hR hS)
theorem x_bald {a nn : Nat} {i : Int32} {f : Nat → Int32} (ha : h a = some (.inl (.byte, nn, .inl f))) (hin : vp_in i nn) (hdg : decode (m_c M) pc = .ok (.baload, 1)) (kk : xEx G M (pc + 1) l (.int (f i.toNatClampNeg) :: rest) h z kc ks Q) : xEx G M pc l (.int i :: .ref a :: rest) h z kc ks Q := by
  intro p la e R s m args below meth c H locs cells slots mc ms ls F a1 a2 a3 a4 a5 a6 hl hR hS
  obtain ⟨hx, hb, hr, hlo, hml, hown, hnm, hts, hK, hZ, hW⟩ := id F
  have hlt : i.toNatClampNeg < nn := Nat.not_le.mp fun q => hin (Or.inr q)
  exact W.bald (v := .int (f i.toNatClampNeg)) hx hb (hR.get ha) ((hK.2 _ _ x_tyB).1 nn (fun j => .int (f j))) (fun q => by cases q) (by show ¬ (i < 0 ∨ (arrV _ _ _).slots.size ≤ _); rw [arrV_size]; exact hin) (by show (arrV _ _ _).slots[_]? = _; rw [arrV_read _ _ hlt]) rfl rfl hdg (kk p la e R s m args below meth c H locs cells slots mc ms ls F a1 a2 a3 a4 a5 a6 hl hR hS)
theorem x_zald {a nn : Nat} {i : Int32} {f : Nat → Int32} (ha : h a = some (.inl (.boolean, nn, .inl f))) (hin : vp_in i nn) (hdg : decode (m_c M) pc = .ok (.baload, 1)) (kk : xEx G M (pc + 1) l (.int (f i.toNatClampNeg) :: rest) h z kc ks Q) : xEx G M pc l (.int i :: .ref a :: rest) h z kc ks Q := by
  intro p la e R s m args below meth c H locs cells slots mc ms ls F a1 a2 a3 a4 a5 a6 hl hR hS
  obtain ⟨hx, hb, hr, hlo, hml, hown, hnm, hts, hK, hZ, hW⟩ := id F
  have hlt : i.toNatClampNeg < nn := Nat.not_le.mp fun q => hin (Or.inr q)
  exact W.zald (v := .int (f i.toNatClampNeg)) hx hb (hR.get ha) ((hK.2 _ _ x_tyZ).1 nn (fun j => .int (f j))) (fun q => by cases q) (by show ¬ (i < 0 ∨ (arrV _ _ _).slots.size ≤ _); rw [arrV_size]; exact hin) (by show (arrV _ _ _).slots[_]? = _; rw [arrV_read _ _ hlt]) rfl rfl hdg (kk p la e R s m args below meth c H locs cells slots mc ms ls F a1 a2 a3 a4 a5 a6 hl hR hS)
theorem x_lald {a nn : Nat} {i : Int32} {f : Nat → Int64} (ha : h a = some (.inl (.long, nn, .inr (.inl f)))) (hin : vp_in i nn) (hdg : decode (m_c M) pc = .ok (.laload, 1)) (kk : xEx G M (pc + 1) l (.long (f i.toNatClampNeg) :: rest) h z kc ks Q) : xEx G M pc l (.int i :: .ref a :: rest) h z kc ks Q := by
  intro p la e R s m args below meth c H locs cells slots mc ms ls F a1 a2 a3 a4 a5 a6 hl hR hS
  obtain ⟨hx, hb, hr, hlo, hml, hown, hnm, hts, hK, hZ, hW⟩ := id F
  have hlt : i.toNatClampNeg < nn := Nat.not_le.mp fun q => hin (Or.inr q)
  exact W.lald (v := .long (f i.toNatClampNeg)) hx hb (hR.get ha) ((hK.2 _ _ x_tyJ).1 nn (fun j => .long (f j))) (fun q => by cases q) (by show ¬ (i < 0 ∨ (arrV _ _ _).slots.size ≤ _); rw [arrV_size]; exact hin) (by show (arrV _ _ _).slots[_]? = _; rw [arrV_read _ _ hlt]) rfl rfl hdg (kk p la e R s m args below meth c H locs cells slots mc ms ls F a1 a2 a3 a4 a5 a6 hl hR hS)
theorem x_iast {a nn : Nat} {i : Int32} {x : Int32} {f : Nat → Int32} (ha : h a = some (.inl (.int, nn, .inl f))) (hin : vp_in i nn) (hdg : decode (m_c M) pc = .ok (.iastore, 1)) (kk : xEx G M (pc + 1) l rest (va_up h a (some (.inl (.int, nn, .inl (upd f i.toNatClampNeg x))))) z kc ks Q) : xEx G M pc l (.int x :: .int i :: .ref a :: rest) h z kc ks Q := by
  intro p la e R s m args below meth c H locs cells slots mc ms ls F a1 a2 a3 a4 a5 a6 hl hR hS
  obtain ⟨hx, hb, hr, hlo, hml, hown, hnm, hts, hK, hZ, hW⟩ := id F
  refine W.iast hx hb (hR.get ha) ((hK.2 _ _ x_tyI).1 nn (fun j => .int (f j))) (fun q => by cases q) (by show ¬ (i < 0 ∨ (arrV _ _ _).slots.size ≤ _); rw [arrV_size]; exact hin) rfl rfl hdg fun H1 e1 z1 oq => ?_
  refine kk p la e R s m args below meth c H1 _ cells slots mc ms ls F a1 a2 a3 a4 a5 a6 hl (hR.set ha ?_ z1 oq) (hS.put z1 oq (hR.2.2 a _ ha).1)
  show H1[a]? = some (vp_cell _ _)
  rw [e1]
  show some ((vp_cell _ _).setSlot _ _) = some (vp_cell _ _)
  rw [vp_cell_i, vp_cell_i, arrV_store]
  congr 2
  funext q
  by_cases hq : q = i.toNatClampNeg
  · subst hq
    simp [updV, upd]
    
  · simp [updV, upd, hq]
theorem x_bast {a nn : Nat} {i : Int32} {x : Int32} {f : Nat → Int32} (ha : h a = some (.inl (.byte, nn, .inl f))) (hin : vp_in i nn) (hdg : decode (m_c M) pc = .ok (.bastore, 1)) (kk : xEx G M (pc + 1) l rest (va_up h a (some (.inl (.byte, nn, .inl (upd f i.toNatClampNeg (vp_nar .byte x)))))) z kc ks Q) : xEx G M pc l (.int x :: .int i :: .ref a :: rest) h z kc ks Q := by
  intro p la e R s m args below meth c H locs cells slots mc ms ls F a1 a2 a3 a4 a5 a6 hl hR hS
  obtain ⟨hx, hb, hr, hlo, hml, hown, hnm, hts, hK, hZ, hW⟩ := id F
  refine W.bast hx hb (hR.get ha) ((hK.2 _ _ x_tyB).1 nn (fun j => .int (f j))) (fun q => by cases q) (by show ¬ (i < 0 ∨ (arrV _ _ _).slots.size ≤ _); rw [arrV_size]; exact hin) rfl rfl hdg fun H1 e1 z1 oq => ?_
  refine kk p la e R s m args below meth c H1 _ cells slots mc ms ls F a1 a2 a3 a4 a5 a6 hl (hR.set ha ?_ z1 oq) (hS.put z1 oq (hR.2.2 a _ ha).1)
  show H1[a]? = some (vp_cell _ _)
  rw [e1]
  show some ((vp_cell _ _).setSlot _ _) = some (vp_cell _ _)
  rw [vp_cell_i, vp_cell_i, arrV_store]
  congr 2
  funext q
  by_cases hq : q = i.toNatClampNeg
  · subst hq
    simp [updV, upd]
    rfl
  · simp [updV, upd, hq]
theorem x_zast {a nn : Nat} {i : Int32} {x : Int32} {f : Nat → Int32} (ha : h a = some (.inl (.boolean, nn, .inl f))) (hin : vp_in i nn) (hdg : decode (m_c M) pc = .ok (.bastore, 1)) (kk : xEx G M (pc + 1) l rest (va_up h a (some (.inl (.boolean, nn, .inl (upd f i.toNatClampNeg (vp_nar .boolean x)))))) z kc ks Q) : xEx G M pc l (.int x :: .int i :: .ref a :: rest) h z kc ks Q := by
  intro p la e R s m args below meth c H locs cells slots mc ms ls F a1 a2 a3 a4 a5 a6 hl hR hS
  obtain ⟨hx, hb, hr, hlo, hml, hown, hnm, hts, hK, hZ, hW⟩ := id F
  refine W.zast hx hb (hR.get ha) ((hK.2 _ _ x_tyZ).1 nn (fun j => .int (f j))) (fun q => by cases q) (by show ¬ (i < 0 ∨ (arrV _ _ _).slots.size ≤ _); rw [arrV_size]; exact hin) rfl rfl hdg fun H1 e1 z1 oq => ?_
  refine kk p la e R s m args below meth c H1 _ cells slots mc ms ls F a1 a2 a3 a4 a5 a6 hl (hR.set ha ?_ z1 oq) (hS.put z1 oq (hR.2.2 a _ ha).1)
  show H1[a]? = some (vp_cell _ _)
  rw [e1]
  show some ((vp_cell _ _).setSlot _ _) = some (vp_cell _ _)
  rw [vp_cell_i, vp_cell_i, arrV_store]
  congr 2
  funext q
  by_cases hq : q = i.toNatClampNeg
  · subst hq
    simp [updV, upd]
    rfl
  · simp [updV, upd, hq]
theorem x_last {a nn : Nat} {i : Int32} {x : Int64} {f : Nat → Int64} (ha : h a = some (.inl (.long, nn, .inr (.inl f)))) (hin : vp_in i nn) (hdg : decode (m_c M) pc = .ok (.lastore, 1)) (kk : xEx G M (pc + 1) l rest (va_up h a (some (.inl (.long, nn, .inr (.inl (vp_updL f i.toNatClampNeg x)))))) z kc ks Q) : xEx G M pc l (.long x :: .int i :: .ref a :: rest) h z kc ks Q := by
  intro p la e R s m args below meth c H locs cells slots mc ms ls F a1 a2 a3 a4 a5 a6 hl hR hS
  obtain ⟨hx, hb, hr, hlo, hml, hown, hnm, hts, hK, hZ, hW⟩ := id F
  refine W.last hx hb (hR.get ha) ((hK.2 _ _ x_tyJ).1 nn (fun j => .long (f j))) (fun q => by cases q) (by show ¬ (i < 0 ∨ (arrV _ _ _).slots.size ≤ _); rw [arrV_size]; exact hin) rfl rfl hdg fun H1 e1 z1 oq => ?_
  refine kk p la e R s m args below meth c H1 _ cells slots mc ms ls F a1 a2 a3 a4 a5 a6 hl (hR.set ha ?_ z1 oq) (hS.put z1 oq (hR.2.2 a _ ha).1)
  show H1[a]? = some (vp_cell _ _)
  rw [e1]
  show some ((vp_cell _ _).setSlot _ _) = some (vp_cell _ _)
  rw [vp_cell_l, vp_cell_l, arrV_store]
  congr 2
  funext q
  by_cases hq : q = i.toNatClampNeg
  · subst hq
    simp [updV, vp_updL]
    
  · simp [updV, vp_updL, hq]
/-- how long an array is -/
theorem x_alenI {a nn : Nat} {f : Nat → Int32} {ty : FieldType} (hty : ty = .int ∨ ty = .byte ∨ ty = .boolean) (ha : h a = some (.inl (ty, nn, .inl f))) (hdg : decode (m_c M) pc = .ok (.arraylength, 1)) (kk : xEx G M (pc + 1) l (.int (Int32.ofNat nn) :: rest) h z kc ks Q) : xEx G M pc l (.ref a :: rest) h z kc ks Q := by
  intro p la e R s m args below meth c H locs cells slots mc ms ls F a1 a2 a3 a4 a5 a6 hl hR hS
  obtain ⟨hx, hb, hr, hlo, hml, hown, hnm, hts, hK, hZ, hW⟩ := id F
  have kk := kk p la e R s m args below meth c H locs cells slots mc ms ls F a1 a2 a3 a4 a5 a6 hl hR hS
  have hg := hR.get ha
  rcases hty with rfl | rfl | rfl
  · exact W.alen (n := Int32.ofNat nn) hx hb hg ((hK.2 _ _ x_tyI).1 nn (fun j => .int (f j))) (by show (arrV _ _ _).slots.size.toInt32 = _; rw [arrV_size]) rfl rfl hdg kk
  · exact W.alen (n := Int32.ofNat nn) hx hb hg ((hK.2 _ _ x_tyB).1 nn (fun j => .int (f j))) (by show (arrV _ _ _).slots.size.toInt32 = _; rw [arrV_size]) rfl rfl hdg kk
  · exact W.alen (n := Int32.ofNat nn) hx hb hg ((hK.2 _ _ x_tyZ).1 nn (fun j => .int (f j))) (by show (arrV _ _ _).slots.size.toInt32 = _; rw [arrV_size]) rfl rfl hdg kk
theorem x_alenJ {a nn : Nat} {f : Nat → Int64} (ha : h a = some (.inl (.long, nn, .inr (.inl f)))) (hdg : decode (m_c M) pc = .ok (.arraylength, 1)) (kk : xEx G M (pc + 1) l (.int (Int32.ofNat nn) :: rest) h z kc ks Q) : xEx G M pc l (.ref a :: rest) h z kc ks Q := by
  intro p la e R s m args below meth c H locs cells slots mc ms ls F a1 a2 a3 a4 a5 a6 hl hR hS
  obtain ⟨hx, hb, hr, hlo, hml, hown, hnm, hts, hK, hZ, hW⟩ := id F
  have kk := kk p la e R s m args below meth c H locs cells slots mc ms ls F a1 a2 a3 a4 a5 a6 hl hR hS
  exact W.alen (n := Int32.ofNat nn) hx hb (hR.get ha) ((hK.2 _ _ x_tyJ).1 nn (fun j => .long (f j))) (by show (arrV _ _ _).slots.size.toInt32 = _; rw [arrV_size]) rfl rfl hdg kk
/-- arrays that nobody writes -/
theorem x_roI {a nn kr : Nat} {i : Int32} {v : Value} {f : Nat → Value} (ha : q_ro G kr = some (a, .int, nn, f)) (hin : vp_in i nn) (hv : f i.toNatClampNeg = v) (hdg : decode (m_c M) pc = .ok (.iaload, 1)) (kk : xEx G M (pc + 1) l (v :: rest) h z kc ks Q) : xEx G M pc l (.int i :: .ref a :: rest) h z kc ks Q := by
  intro p la e R s m args below meth c H locs cells slots mc ms ls F a1 a2 a3 a4 a5 a6 hl hR hS
  exact va_ti F.1 F.2.1 (F.2.2.2.2.2.2.2.2.2.1.2.1 kr a _ _ _ ha) hS hin hv hdg (kk p la e R s m args below meth c H locs cells slots mc ms ls F a1 a2 a3 a4 a5 a6 hl hR hS)
theorem x_roB {a nn kr : Nat} {i : Int32} {v : Value} {f : Nat → Value} (ha : q_ro G kr = some (a, .byte, nn, f)) (hin : vp_in i nn) (hv : f i.toNatClampNeg = v) (hdg : decode (m_c M) pc = .ok (.baload, 1)) (kk : xEx G M (pc + 1) l (v :: rest) h z kc ks Q) : xEx G M pc l (.int i :: .ref a :: rest) h z kc ks Q := by
  intro p la e R s m args below meth c H locs cells slots mc ms ls F a1 a2 a3 a4 a5 a6 hl hR hS
  exact va_tb F.1 F.2.1 (F.2.2.2.2.2.2.2.2.2.1.2.1 kr a _ _ _ ha) hS hin hv hdg (kk p la e R s m args below meth c H locs cells slots mc ms ls F a1 a2 a3 a4 a5 a6 hl hR hS)
theorem x_rolen {a nn kr : Nat} {ty : FieldType} {f : Nat → Value} (ha : q_ro G kr = some (a, ty, nn, f)) (hdg : decode (m_c M) pc = .ok (.arraylength, 1)) (kk : xEx G M (pc + 1) l (.int (Int32.ofNat nn) :: rest) h z kc ks Q) : xEx G M pc l (.ref a :: rest) h z kc ks Q := by
  intro p la e R s m args below meth c H locs cells slots mc ms ls F a1 a2 a3 a4 a5 a6 hl hR hS
  exact va_tlen F.1 F.2.1 (F.2.2.2.2.2.2.2.2.2.1.2.1 kr a _ _ _ ha) hS rfl hdg (kk p la e R s m args below meth c H locs cells slots mc ms ls F a1 a2 a3 a4 a5 a6 hl hR hS)
theorem x_gets {idx k : Nat} {C n d : String} {v : Value} (hk : q_sf G k = some (C, n, d, v)) (hlk : Cond.fieldLink (m_y M).cls idx C n d ∈ m_w M) (hdg : decode (m_c M) pc = .ok (.getstatic idx, 3)) (kk : xEx G M (pc + 3) l (v :: rest) h z kc ks Q) : xEx G M pc l rest h z kc ks Q := by
  intro p la e R s m args below meth c H locs cells slots mc ms ls F a1 a2 a3 a4 a5 a6 hl hR hS
  obtain ⟨hx, hb, hr, hlo, hml, hown, hnm, hts, hK, hZ, hW⟩ := id F
  exact va_gets hx hb (hZ.1 k _ _ _ _ hk) hS hown (hts _ hlk) (fun _ h9 => h9) hdg (kk p la e R s m args below meth c H locs cells slots mc ms ls F a1 a2 a3 a4 a5 a6 hl hR hS)
/-- a new object -/
theorem x_new {idx ci N : Nat} {C : String} {T : u_T} (hc : (q_cl G)[ci]? = some (C, T, N)) (hlk : Cond.classLink (m_y M).cls idx C ∈ m_w M) (hins : Cond.instantiable C N ∈ m_w M) (hini : Cond.initialized C ∈ m_w M) (hin : ∀ w ∈ u_ws C T N, w ∈ m_w M) (hkc : 1 ≤ kc) (hks : N ≤ ks) {fs : List Value} (hfs : ∀ j, j < N → defaultValue (q_ty G ci j) = vp_V fs j)
    (hdg : decode (m_c M) pc = .ok (.new idx, 3)) (kk : xEx G M (pc + 3) l (.ref z :: rest) (va_up h z (some (.inr (ci, fs)))) (z + 1) (kc - 1) (ks - N) Q) : xEx G M pc l rest h z kc ks Q := by
  intro p la e R s m args below meth c H locs cells slots mc ms ls F a1 a2 a3 a4 a5 a6 hl hR hS
  obtain ⟨hx, hb, hr, hlo, hml, hown, hnm, hts, hK, hZ, hW⟩ := id F
  obtain ⟨hty, hnms⟩ := hW.2 ci C T N hc
  have hKn := hK.1 ci _ hc
  refine W.newcK hx hb hown (hts _ hlk) (hts _ hins) (hts _ hini) rfl hdg (by omega) (by omega) hKn.2.1 hR.1 fun H1 kC hkC e1 z1 o1 => ?_
  refine kk p la e R s m args below meth c H1 locs (cells + 1) (slots + N) mc ms ls F a1 a2 a3 a4 (by omega) (by omega) hl (hR.push (e := .inr (ci, fs)) ⟨_, hc, (u_born (q_ty G ci) hts hin hKn hkC e1 hty).to hfs⟩ z1 o1) (xS.push hS (by rw [z1, hR.1]; omega) (by rw [hR.1]; exact o1))
theorem x_newI {nn : Int32} {N : Nat} (harr : Cond.arrayClass .int ∈ m_w M) (hn : ¬ nn < 0) (hN : nn.toNatClampNeg = N) (hby : N * componentBytes .int ≤ 536870912) (hkc : 1 ≤ kc) (hks : N ≤ ks) (hdg : decode (m_c M) pc = .ok (.newarray .int, 2)) (kk : xEx G M (pc + 2) l (.ref z :: rest) (va_up h z (some (.inl (.int, N, .inl (fun _ => 0))))) (z + 1) (kc - 1) (ks - N) Q) : xEx G M pc l (.int nn :: rest) h z kc ks Q := by
  intro p la e R s m args below meth c H locs cells slots mc ms ls F a1 a2 a3 a4 a5 a6 hl hR hS
  obtain ⟨hx, hb, hr, hlo, hml, hown, hnm, hts, hK, hZ, hW⟩ := id F
  refine va_newaK (atype := .int) hx hb (hts _ harr) rfl hdg rfl hn hN hby (by omega) (by omega) hR.1 fun H1 cA e1 z1 o1 hAr hNm => ?_
  have hcA : cA = q_A G .int := by
    have h9 : s.vm.findClass ("[" ++ (FieldType.toString .int)) = some (q_A G .int) := (hK.2 _ _ x_tyI).2
    exact Option.some.inj (hNm.symm.trans h9)
  subst hcA
  exact kk p la e R s m args below meth c H1 locs (cells + 1) (slots + N) mc ms ls F a1 a2 a3 a4 (by omega) (by omega) hl (hR.push (e := .inl (.int, N, .inl (fun _ => 0))) e1 z1 o1) (xS.push hS (by rw [z1, hR.1]; omega) (by rw [hR.1]; exact o1))
theorem x_newB {nn : Int32} {N : Nat} (harr : Cond.arrayClass .byte ∈ m_w M) (hn : ¬ nn < 0) (hN : nn.toNatClampNeg = N) (hby : N * componentBytes .byte ≤ 536870912) (hkc : 1 ≤ kc) (hks : N ≤ ks) (hdg : decode (m_c M) pc = .ok (.newarray .byte, 2)) (kk : xEx G M (pc + 2) l (.ref z :: rest) (va_up h z (some (.inl (.byte, N, .inl (fun _ => 0))))) (z + 1) (kc - 1) (ks - N) Q) : xEx G M pc l (.int nn :: rest) h z kc ks Q := by
  intro p la e R s m args below meth c H locs cells slots mc ms ls F a1 a2 a3 a4 a5 a6 hl hR hS
  obtain ⟨hx, hb, hr, hlo, hml, hown, hnm, hts, hK, hZ, hW⟩ := id F
  refine va_newaK (atype := .byte) hx hb (hts _ harr) rfl hdg rfl hn hN hby (by omega) (by omega) hR.1 fun H1 cA e1 z1 o1 hAr hNm => ?_
  have hcA : cA = q_A G .byte := by
    have h9 : s.vm.findClass ("[" ++ (FieldType.toString .byte)) = some (q_A G .byte) := (hK.2 _ _ x_tyB).2
    exact Option.some.inj (hNm.symm.trans h9)
  subst hcA
  exact kk p la e R s m args below meth c H1 locs (cells + 1) (slots + N) mc ms ls F a1 a2 a3 a4 (by omega) (by omega) hl (hR.push (e := .inl (.byte, N, .inl (fun _ => 0))) e1 z1 o1) (xS.push hS (by rw [z1, hR.1]; omega) (by rw [hR.1]; exact o1))
theorem x_newZ {nn : Int32} {N : Nat} (harr : Cond.arrayClass .boolean ∈ m_w M) (hn : ¬ nn < 0) (hN : nn.toNatClampNeg = N) (hby : N * componentBytes .boolean ≤ 536870912) (hkc : 1 ≤ kc) (hks : N ≤ ks) (hdg : decode (m_c M) pc = .ok (.newarray .boolean, 2)) (kk : xEx G M (pc + 2) l (.ref z :: rest) (va_up h z (some (.inl (.boolean, N, .inl (fun _ => 0))))) (z + 1) (kc - 1) (ks - N) Q) : xEx G M pc l (.int nn :: rest) h z kc ks Q := by
  intro p la e R s m args below meth c H locs cells slots mc ms ls F a1 a2 a3 a4 a5 a6 hl hR hS
  obtain ⟨hx, hb, hr, hlo, hml, hown, hnm, hts, hK, hZ, hW⟩ := id F
  refine va_newaK (atype := .boolean) hx hb (hts _ harr) rfl hdg rfl hn hN hby (by omega) (by omega) hR.1 fun H1 cA e1 z1 o1 hAr hNm => ?_
  have hcA : cA = q_A G .boolean := by
    have h9 : s.vm.findClass ("[" ++ (FieldType.toString .boolean)) = some (q_A G .boolean) := (hK.2 _ _ x_tyZ).2
    exact Option.some.inj (hNm.symm.trans h9)
  subst hcA
  exact kk p la e R s m args below meth c H1 locs (cells + 1) (slots + N) mc ms ls F a1 a2 a3 a4 (by omega) (by omega) hl (hR.push (e := .inl (.boolean, N, .inl (fun _ => 0))) e1 z1 o1) (xS.push hS (by rw [z1, hR.1]; omega) (by rw [hR.1]; exact o1))
theorem x_newJ {nn : Int32} {N : Nat} (harr : Cond.arrayClass .long ∈ m_w M) (hn : ¬ nn < 0) (hN : nn.toNatClampNeg = N) (hby : N * componentBytes .long ≤ 536870912) (hkc : 1 ≤ kc) (hks : N ≤ ks) (hdg : decode (m_c M) pc = .ok (.newarray .long, 2)) (kk : xEx G M (pc + 2) l (.ref z :: rest) (va_up h z (some (.inl (.long, N, .inr (.inl (fun _ => 0)))))) (z + 1) (kc - 1) (ks - N) Q) : xEx G M pc l (.int nn :: rest) h z kc ks Q := by
  intro p la e R s m args below meth c H locs cells slots mc ms ls F a1 a2 a3 a4 a5 a6 hl hR hS
  obtain ⟨hx, hb, hr, hlo, hml, hown, hnm, hts, hK, hZ, hW⟩ := id F
  refine va_newaK (atype := .long) hx hb (hts _ harr) rfl hdg rfl hn hN hby (by omega) (by omega) hR.1 fun H1 cA e1 z1 o1 hAr hNm => ?_
  have hcA : cA = q_A G .long := by
    have h9 : s.vm.findClass ("[" ++ (FieldType.toString .long)) = some (q_A G .long) := (hK.2 _ _ x_tyJ).2
    exact Option.some.inj (hNm.symm.trans h9)
  subst hcA
  exact kk p la e R s m args below meth c H1 locs (cells + 1) (slots + N) mc ms ls F a1 a2 a3 a4 (by omega) (by omega) hl (hR.push (e := .inl (.long, N, .inr (.inl (fun _ => 0)))) e1 z1 o1) (xS.push hS (by rw [z1, hR.1]; omega) (by rw [hR.1]; exact o1))
end XRules
