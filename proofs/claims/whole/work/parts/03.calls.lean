/-! ===== calls ===== -/
theorem x_blind {G : xG} (hW : xW G) {as : List Value} {h : xH} {z : Nat} : FrameBlind (xPc G as h z) := fun a U g mk q => ⟨q.1, va_K.moved (u := U) (U := U.calling g mk a) (Vm.Alike.refl U.vm) q.2.1, xZ.moved hW (u := U) (U := U.calling g mk a) (Or.inr rfl) (fun _ _ _ => rfl) q.2.2.1, q.2.2.2⟩
theorem x_pre {G : xG} {M : xM} {p : Program} {s : State} {m : MethodId} {args : Array Value} {meth : Method} {c : Code} {H : Heap} {locs : List Loc} {as : List Value} {h : xH} {z : Nat} (F : xFr G M p s m args meth c) (hR : xR G h z H) (hS : va_S (x_A G) s.heap H locs) : ∀ U : State, U.heap = H → s.WarmedH U.vm → xPc G as h z as.toArray U := by
  intro U hU hV
  obtain ⟨hx, hb, hr, hlo, hml, hown, hnm, hts, hK, hZ, hW⟩ := F
  exact ⟨rfl, va_K.moved hV.alike hK, xZ.moved hW (Or.inl hV) (by rw [hU]; exact hS.2.1) hZ, by rw [hU]; exact hR⟩
theorem x_run {G : xG} {p : Program} {la : Launch} {e : Env} {R : Room} {s : State} {m : MethodId} {args : Array Value} {below : List Frame} {meth : Method} {c : Code} {H : Heap} {locs : List Loc} {cells slots c' s' pc : Nat} {ls : Array Slot} {st0 rest : List Value} {Q' : xQ} {a : Array Value} {Qf : State → Prop}
    (hr : va_Run p la e R s m args below meth c H locs cells slots c' s' (F0 m pc ls st0) rest (xQc G Q' a) (x_A G)) (hS : va_S (x_A G) s.heap H locs)
    (kk : ∀ (v : Option Value) (h' : xH) (z' : Nat) (H1 : Heap) (locs1 : List Loc), Q' v h' z' → xR G h' z' H1 → va_S (x_A G) s.heap H1 locs1 → W p la e R s m args below meth c H1 locs1 (cells + c') (slots + s') Qf (F0 m (pc + 3) ls (v.toList ++ rest))) : W p la e R s m args below meth c H locs cells slots Qf (F0 m pc ls st0) := by
  intro T hT X
  obtain ⟨v, st₀, t, T', L, h0, X', hL, e1, e2, ⟨⟨v', h', z', hv, hq, hR'⟩, hz, hk⟩, st⟩ := hr T hT X
  cases hv
  rw [h0] at hz hk
  obtain ⟨t2, a1, b1⟩ := kk v h' z' T'.heap (locs ++ L) hq (by rw [e1]; exact hR')
    ⟨Nat.le_trans hS.1 (by rw [e1]; exact hz), fun q h1 h2 => by rw [e1, hk q (Nat.lt_of_lt_of_le h1 hS.1) h2]; exact hS.2.1 q h1 h2, fun q hq => by
      rcases List.mem_append.mp hq with h | h
      · exact hS.2.2 q h
      · exact hL q h⟩ T' rfl X'
  exact ⟨t2, st t2 a1, b1⟩
/-- what a place of the pool that names a method has to say: of an instance method, a static one, a constructor -/
def xCv (M : xM) (idx : Nat) (J : xM) (n : Nat) : Prop := GoodIn (m_w M) (wsV (m_y M).cls idx (m_y J).cls (m_y J) (m_w J)) ∧ (∃ ws', m_w J = Cond.code (m_y J) (m_c J) (m_n J) (m_r J) :: ws') ∧ ((m_y J).cls ≠ "java/lang/invoke/MethodHandle" ∧ (m_y J).cls ≠ "java/lang/invoke/VarHandle" ∧ (parseMethodDescriptor (m_y J).desc).map (fun d => d.parameters.length) = some n) ∧ m_f J + 1 ≤ m_f M ∧ 8 + (m_n J + 11) + m_l J ≤ m_l M
def xCs (M : xM) (idx : Nat) (J : xM) (n : Nat) : Prop := GoodIn (m_w M) (va_wsS (m_y M).cls idx (m_y J) (m_w J)) ∧ (∃ ws', m_w J = Cond.code (m_y J) (m_c J) (m_n J) (m_r J) :: ws') ∧ ((m_y J).cls ≠ "java/lang/invoke/MethodHandle" ∧ (m_y J).cls ≠ "java/lang/invoke/VarHandle" ∧ (parseMethodDescriptor (m_y J).desc).map (fun d => d.parameters.length) = some n) ∧ m_f J + 1 ≤ m_f M ∧ 8 + (m_n J + 11) + m_l J ≤ m_l M
def xCi (M : xM) (idx : Nat) (J : xM) (n : Nat) : Prop := GoodIn (m_w M) (m_w J) ∧ (∃ ws', m_w J = Cond.code (m_y J) (m_c J) (m_n J) none :: ws') ∧ Cond.initialized (m_y J).cls ∈ m_w M ∧ Cond.methodLink (m_y M).cls idx (m_y J) ∈ m_w M ∧ Cond.instanceMethod (m_y J) ∈ m_w M ∧ (m_y J).name = "<init>" ∧ ((m_y J).cls ≠ "java/lang/invoke/MethodHandle" ∧ (m_y J).cls ≠ "java/lang/invoke/VarHandle" ∧ (parseMethodDescriptor (m_y J).desc).map (fun d => d.parameters.length) = some n) ∧ m_f J + 1 ≤ m_f M ∧ 8 + (m_n J + 11) + m_l J ≤ m_l M
section XCalls
variable {G : xG} {M : xM} {pc : Nat} {l : List (Nat × Value)} {st rest : List Value} {h : xH} {z kc ks : Nat} {Q : xQ}
theorem x_callV {idx n ci b c' s' : Nat} {J : xM} {As : List Value} {Q' : xQ} {T : u_T} {N : Nat} {fs : List Value} (hC : xCv M idx J n) (hc : (q_cl G)[ci]? = some ((m_y J).cls, T, N)) (hb : h b = some (.inr (ci, fs))) (hn : As.length = n) (hrm : (rest.map fun v => v.category).sum ≤ 8) (h1 : c' ≤ kc) (h2 : s' ≤ ks) (hJ : xC G J (.ref b :: As) h z c' s' Q')
    (hdg : decode (m_c M) pc = .ok (.invokevirtual idx, 3)) (kk : ∀ (v : Option Value) (h' : xH) (z' : Nat), Q' v h' z' → xEx G M (pc + 3) l (v.toList ++ rest) h' z' (kc - c') (ks - s') Q) : xEx G M pc l (As.reverse ++ .ref b :: rest) h z kc ks Q := by
  intro p la e R s m args below meth c H locs cells slots mc ms ls F a1 a2 a3 a4 a5 a6 hl hR hS
  obtain ⟨hx, hcode, hr, hlo, hml, hown, hnm, hts, hK, hZ, hW⟩ := id F
  obtain ⟨hG, ⟨ws', hw⟩, hd, hf1, hf2⟩ := hC
  refine x_run (a := (Value.ref b :: As).toArray) (va_runV (As := As) (rest := rest) ⟨hx, hcode, hml, hown, hts⟩ (hJ la) (cwV n hts hG hw rfl rfl ⟨rfl, hd⟩ ⟨Nat.le_trans hf1 a1, Nat.le_trans hf2 a2⟩) ⟨x_blind hW, ?_, x_pre F hR hS⟩ rfl hn hl.1 rfl (lv_room hrm) hdg ⟨by omega, by omega⟩) hS (fun v h' z' H1 locs1 hq hR1 hS1 => ?_)
  · obtain ⟨q', g1, cell, g2, g3, g4, -⟩ := hR.get hb
    have e1 : q' = ((m_y J).cls, T, N) := Option.some.inj (g1.symm.trans hc)
    subst e1
    exact ⟨cell, g2, by rw [g4]; rfl, by rw [g3]; exact (hK.1 ci _ hc).2.1⟩
  · exact kk v h' z' hq p la e R s m args below meth c H1 locs1 _ _ mc ms ls F a1 a2 a3 a4 (by omega) (by omega) hl hR1 hS1
theorem x_callS {idx n c' s' : Nat} {J : xM} {As : List Value} {Q' : xQ} (hC : xCs M idx J n) (hn : As.length = n) (hrm : (rest.map fun v => v.category).sum ≤ 8) (h1 : c' ≤ kc) (h2 : s' ≤ ks) (hJ : xC G J As h z c' s' Q')
    (hdg : decode (m_c M) pc = .ok (.invokestatic idx, 3)) (kk : ∀ (v : Option Value) (h' : xH) (z' : Nat), Q' v h' z' → xEx G M (pc + 3) l (v.toList ++ rest) h' z' (kc - c') (ks - s') Q) : xEx G M pc l (As.reverse ++ rest) h z kc ks Q := by
  intro p la e R s m args below meth c H locs cells slots mc ms ls F a1 a2 a3 a4 a5 a6 hl hR hS
  obtain ⟨hx, hcode, hr, hlo, hml, hown, hnm, hts, hK, hZ, hW⟩ := id F
  obtain ⟨hG, ⟨ws', hw⟩, hd, hf1, hf2⟩ := hC
  refine x_run (a := As.toArray) (va_runS (As := As) (rest := rest) ⟨hx, hcode, hml, hown, hts⟩ (hJ la) (va_cwS n hts hG hw rfl rfl hd ⟨Nat.le_trans hf1 a1, Nat.le_trans hf2 a2⟩) ⟨x_blind hW, x_pre F hR hS⟩ rfl hn hl.1 rfl (lv_room hrm) hdg ⟨by omega, by omega⟩) hS (fun v h' z' H1 locs1 hq hR1 hS1 => ?_)
  exact kk v h' z' hq p la e R s m args below meth c H1 locs1 _ _ mc ms ls F a1 a2 a3 a4 (by omega) (by omega) hl hR1 hS1
theorem x_callI {idx n b c' s' : Nat} {J : xM} {As : List Value} {Q' : xQ} (hC : xCi M idx J n) (hn : As.length = n) (hrm : (rest.map fun v => v.category).sum ≤ 8) (h1 : c' ≤ kc) (h2 : s' ≤ ks) (hJ : xC G J (.ref b :: As) h z c' s' Q')
    (hdg : decode (m_c M) pc = .ok (.invokespecial idx, 3)) (kk : ∀ (v : Option Value) (h' : xH) (z' : Nat), Q' v h' z' → xEx G M (pc + 3) l (v.toList ++ rest) h' z' (kc - c') (ks - s') Q) : xEx G M pc l (As.reverse ++ .ref b :: rest) h z kc ks Q := by
  intro p la e R s m args below meth c H locs cells slots mc ms ls F a1 a2 a3 a4 a5 a6 hl hR hS
  obtain ⟨hx, hcode, hr, hlo, hml, hown, hnm, hts, hK, hZ, hW⟩ := id F
  obtain ⟨hG, ⟨ws', hw⟩, hini, hlk, hins, hy1, hd, hf1, hf2⟩ := hC
  refine x_run (a := (Value.ref b :: As).toArray) (va_runI (As := As) (rest := rest) ⟨hx, hcode, hml, hown, hts⟩ (hJ la) (cwI n hts hG hw rfl rfl (hts _ hini) (hts _ hlk) (hts _ hins) hy1 hd ⟨Nat.le_trans hf1 a1, Nat.le_trans hf2 a2⟩) ⟨x_blind hW, x_pre F hR hS⟩ rfl hn hl.1 rfl (lv_room hrm) hdg ⟨by omega, by omega⟩) hS (fun v h' z' H1 locs1 hq hR1 hS1 => ?_)
  exact kk v h' z' hq p la e R s m args below meth c H1 locs1 _ _ mc ms ls F a1 a2 a3 a4 (by omega) (by omega) hl hR1 hS1
/-- a private constructor of a nest mate -/
def xCn (M : xM) (J : xM) (n : Nat) : Prop := GoodIn (m_w M) (m_w J) ∧ (∃ ws', m_w J = Cond.code (m_y J) (m_c J) (m_n J) none :: ws') ∧ Cond.initialized (m_y J).cls ∈ m_w M ∧ Cond.instanceMethod (m_y J) ∈ m_w M ∧ (m_y J).name = "<init>" ∧ ((m_y J).cls ≠ "java/lang/invoke/MethodHandle" ∧ (m_y J).cls ≠ "java/lang/invoke/VarHandle" ∧ (parseMethodDescriptor (m_y J).desc).map (fun d => d.parameters.length) = some n) ∧ m_f J + 1 ≤ m_f M ∧ 8 + (m_n J + 11) + m_l J ≤ m_l M
theorem x_callN {idx n b c' s' : Nat} {J : xM} {host : String} {As : List Value} {Q' : xQ} (hC : xCn M J n) (hN : ∀ (U : State) (H : Heap), q_X G U H → va_Nw (.methodLinkNest (m_y M).cls idx (m_y J) host) U) (hn : As.length = n) (hrm : (rest.map fun v => v.category).sum ≤ 8) (h1 : c' ≤ kc) (h2 : s' ≤ ks) (hJ : xC G J (.ref b :: As) h z c' s' Q')
    (hdg : decode (m_c M) pc = .ok (.invokespecial idx, 3)) (kk : ∀ (v : Option Value) (h' : xH) (z' : Nat), Q' v h' z' → xEx G M (pc + 3) l (v.toList ++ rest) h' z' (kc - c') (ks - s') Q) : xEx G M pc l (As.reverse ++ .ref b :: rest) h z kc ks Q := by
  intro p la e R s m args below meth c H locs cells slots mc ms ls F a1 a2 a3 a4 a5 a6 hl hR hS
  obtain ⟨hx, hcode, hr, hlo, hml, hown, hnm, hts, hK, hZ, hW⟩ := id F
  obtain ⟨hG, ⟨ws', hw⟩, hini, hins, hy1, hd, hf1, hf2⟩ := hC
  refine x_run (a := (Value.ref b :: As).toArray) (va_runIN (As := As) (rest := rest) (host := host) ⟨hx, hcode, hml, hown, hts⟩ (hJ la) ⟨va_cnB n hts hG hw rfl rfl (hN s _ hZ.2.2) (hts _ hini) hd ⟨Nat.le_trans hf1 a1, Nat.le_trans hf2 a2⟩, hy1, hts _ hins⟩ ⟨x_blind hW, x_pre F hR hS⟩ rfl hn hl.1 rfl (lv_room hrm) hdg ⟨by omega, by omega⟩) hS (fun v h' z' H1 locs1 hq hR1 hS1 => ?_)
  exact kk v h' z' hq p la e R s m args below meth c H1 locs1 _ _ mc ms ls F a1 a2 a3 a4 (by omega) (by omega) hl hR1 hS1
/-- the constructor of Object -/
theorem x_obj {idx b : Nat} (hlk : Cond.methodLink (m_y M).cls idx objectInit ∈ m_w M) (hins : Cond.instanceMethod objectInit ∈ m_w M) (hco : Cond.code objectInit ⟨#[0xb1]⟩ 1 none ∈ m_w M) (hf : 1 ≤ m_f M) (hlo : (rest.map fun v => v.category).sum + 12 ≤ m_l M) (hdg : decode (m_c M) pc = .ok (.invokespecial idx, 3)) (kk : xEx G M (pc + 3) l rest h z kc ks Q) : xEx G M pc l (.ref b :: rest) h z kc ks Q := by
  intro p la e R s m args below meth c H locs cells slots mc ms ls F a1 a2 a3 a4 a5 a6 hl hR hS
  obtain ⟨hx, hcode, hr, hlk', hml, hown, hnm, hts, hK, hZ, hW⟩ := id F
  refine W.objInit hx hcode hown (hts _ hlk) (hts _ hins) (hts _ hco) rfl (by rw [hml]; exact hl.1) rfl hdg (Nat.le_trans hf a1) (by show 2 * 0 + _ + 12 ≤ _; omega) ?_
  exact kk p la e R s m args below meth c H locs cells slots mc ms ls F a1 a2 a3 a4 a5 a6 hl hR hS
/-- System.arraycopy between arrays of small whole numbers of one kind -/
theorem x_copy {idx a0 a n0 n1 t0 : Nat} {ty : FieldType} {f g : Nat → Int32} {sp dp n : Int32} (ht : (x_tys G)[t0]? = some (q_A G ty, ty)) (hprim : refKind ty = false) (ha0 : h a0 = some (.inl (ty, n0, .inl f))) (ha1 : h a = some (.inl (ty, n1, .inl g))) (h1 : ¬ sp < 0) (h2 : ¬ dp < 0) (h3 : ¬ n < 0) (h4 : sp.toNatClampNeg + n.toNatClampNeg ≤ n0) (h5 : dp.toNatClampNeg + n.toNatClampNeg ≤ n1) (hfit : ∀ i, i < n.toNatClampNeg → fits ty (.int (f (sp.toNatClampNeg + i))) = true)
    (hlk : Cond.methodLink (m_y M).cls idx arraycopyName ∈ m_w M) (hnat : Cond.native arraycopyName ∈ m_w M) (hstat : Cond.static arraycopyName ∈ m_w M) (hini : Cond.initialized "java/lang/System" ∈ m_w M) (hfr : 1 ≤ m_f M) (hlo : (rest.map fun v => v.category).sum + (nativeFrameWords "java/lang/System" "arraycopy" 5 + 11) ≤ m_l M) (hdg : decode (m_c M) pc = .ok (.invokestatic idx, 3))
    (kk : xEx G M (pc + 3) l rest (va_up h a (some (.inl (ty, n1, .inl (va_cpy f g sp.toNatClampNeg dp.toNatClampNeg n.toNatClampNeg))))) z kc ks Q) : xEx G M pc l (.int n :: .int dp :: .ref a :: .int sp :: .ref a0 :: rest) h z kc ks Q := by
  have nn : ∀ z : Int32, ¬ z < 0 → z.toInt = (z.toNatClampNeg : Int) := by
    intro z hz
    have hz0 : (0 : Int) ≤ z.toInt := by
      have := Int32.not_lt.mp hz
      simpa using Int32.le_iff_toInt_le.mp this
    show z.toInt = ((z.toInt.toNat : Nat) : Int)
    omega
  intro p la e R s m args below meth c H locs cells slots mc ms ls F a1 a2 a3 a4 a5 a6 hl hR hS
  obtain ⟨hx, hcode, hr, hlk', hml, hown, hnm, hts, hK, hZ, hW⟩ := id F
  intro T hT X
  have hc0 : H[a0]? = some (vp_cell (q_A G ty) (n0, .inl f)) := hR.get ha0
  have hc1 : H[a]? = some (vp_cell (q_A G ty) (n1, .inl g)) := hR.get ha1
  obtain ⟨-, k0, hk0, cm0, hkk0⟩ := (hK.2 t0 _ ht).1 n0 (fun j => .int (f j))
  obtain ⟨-, k1, hk1, cm1, hkk1⟩ := (hK.2 t0 _ ht).1 n1 (fun j => .int (g j))
  obtain ⟨vm', X', step⟩ := X.arraycopy hx hown (hts _ hlk) (hts _ hnat) (hts _ hstat) (hts _ hini) (src := a0) (dst := a) (cs := vp_cell (q_A G ty) (n0, .inl f)) (cd := vp_cell (q_A G ty) (n1, .inl g)) (srcPos := sp) (destPos := dp) (n := n) (by rw [hT]; exact hc0) (by rw [hT]; exact hc1)
    (fun _ h => by cases h) (fun _ h => by cases h) (fun h => by cases h) (fun h => by cases h) hk0 hk1 hkk0 hkk1 (by simp [hprim]) h1 h2 h3
    (by rw [nn sp h1, nn n h3]; show ¬ _ > ((arrV _ n0 (fun j => .int (f j))).slots.size : Int); rw [arrV_size]; omega)
    (by rw [nn dp h2, nn n h3]; show ¬ _ > ((arrV _ n1 (fun j => .int (g j))).slots.size : Int); rw [arrV_size]; omega)
    (fun vm₁ _ i hi => by
      have e : (vp_cell (q_A G ty) (n0, .inl f)).slots.getD (sp.toNatClampNeg + i) .null = .int (f (sp.toNatClampNeg + i)) := by
        show (arrV _ n0 (fun j => .int (f j))).slots.getD _ _ = _
        rw [Array.getD_eq_getD_getElem?, arrV_read _ _ (by omega)]
        rfl
      refine ⟨?_, ?_⟩
      · rw [e]
        exact hfit i hi
      · rw [e]
        exact trivial)
    (g := F0 m pc ls (.int n :: .int dp :: .ref a :: .int sp :: .ref a0 :: rest)) rfl (by rw [hml]; exact hl.1) (rest := rest) rfl (by rw [hcode]; exact hdg) (Nat.le_trans hfr a1) (by show 2 * 0 + _ + _ ≤ _; omega)
  have e1 : copied (vp_cell (q_A G ty) (n0, .inl f)) (vp_cell (q_A G ty) (n1, .inl g)) sp dp n = vp_cell (q_A G ty) (n1, .inl (va_cpy f g sp.toNatClampNeg dp.toNatClampNeg n.toNatClampNeg)) := va_copied (fun z => .int z) _ _ f g h4
  rw [e1] at X' step
  have hlt : a < H.size := (Array.getElem?_eq_some_iff.mp hc1).1
  have hheap : ((T.setVm vm').setCell a (vp_cell (q_A G ty) (n1, .inl (va_cpy f g sp.toNatClampNeg dp.toNatClampNeg n.toNatClampNeg)))).heap = H.setIfInBounds a (vp_cell (q_A G ty) (n1, .inl (va_cpy f g sp.toNatClampNeg dp.toNatClampNeg n.toNatClampNeg))) := by rw [← hT]; rfl
  have oq : ∀ q : Nat, q ≠ a → (H.setIfInBounds a (vp_cell (q_A G ty) (n1, .inl (va_cpy f g sp.toNatClampNeg dp.toNatClampNeg n.toNatClampNeg))))[q]? = H[q]? := fun q hq => by simp [Array.getElem?_setIfInBounds, Ne.symm hq]
  have hAa : x_A G a := (hR.2.2 a _ ha1).1
  obtain ⟨t, b1, b2⟩ := kk p la e R s m args below meth c _ _ cells slots mc ms ls F a1 a2 a3 a4 a5 a6 hl (hR.set ha1 (e := .inl (ty, n1, .inl (va_cpy f g sp.toNatClampNeg dp.toNatClampNeg n.toNatClampNeg))) (show (H.setIfInBounds a _)[a]? = some _ by simp [Array.getElem?_setIfInBounds, hlt]) (by simp) oq) ⟨by simp; exact hS.1, fun q g1 g2 => by
      rw [oq q (fun e => g2 (by rw [e]; exact hAa))]
      exact hS.2.1 q g1 g2, fun q hq => by
      rcases List.mem_append.mp hq with h | h
      · exact hS.2.2 q h
      · obtain ⟨z, -, hz⟩ := List.mem_map.mp h
        rw [← hz]
        exact hAa⟩ _ hheap X'
  exact ⟨t, step t b1, b2⟩
end XCalls
