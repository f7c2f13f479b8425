/-! ===== the rules, all of them: an instruction's run out of what has to be so ===== -/
theorem x_lk {l : List (Nat × Value)} {i : Nat} {v : Value} (h : l.lookup i = some v) : (i, v) ∈ l := by
  induction l with
  | nil => simp at h
  | cons q r ih =>
    obtain ⟨j, w⟩ := q
    rw [List.lookup_cons] at h
    by_cases hij : (i == j) = true
    · rw [hij] at h
      have e1 : i = j := by simpa using hij
      subst e1
      cases h
      exact List.mem_cons_self
    · rw [show (i == j) = false by simpa using hij] at h
      exact List.mem_cons_of_mem _ (ih h)
theorem x_lat {ls : Array Slot} {n : Nat} {l : List (Nat × Value)} {i : Nat} {v : Value} (hl : lv_has ls n l) (h : l.lookup i = some v) : ls[i]? = some (.val v) := hl.2.2 (i, v) (x_lk h)
theorem x_li_ok {l : List (Nat × Value)} {i : Nat} {K : Int32 → Prop} (h : x_li l i K) : ∃ x, l.lookup i = some (.int x) ∧ K x := by
  unfold x_li at h
  split at h
  · exact ⟨_, ‹_›, h⟩
  · exact h.elim
theorem x_ll_ok {l : List (Nat × Value)} {i : Nat} {K : Int64 → Prop} (h : x_ll l i K) : ∃ x, l.lookup i = some (.long x) ∧ K x := by
  unfold x_ll at h
  split at h
  · exact ⟨_, ‹_›, h⟩
  · exact h.elim
theorem x_la_ok {l : List (Nat × Value)} {i : Nat} {K : Nat → Prop} (h : x_la l i K) : ∃ x, l.lookup i = some (.ref x) ∧ K x := by
  unfold x_la at h
  split at h
  · exact ⟨_, ‹_›, h⟩
  · exact h.elim
section XS
variable {G : xG} {M : xM} {P : xP} {Q : xQ} {n pc : Nat} {ts : List Nat} {l : List (Nat × Value)} {st : List Value} {h : xH} {z kc ks : Nat}
abbrev xKx (G : xG) (M : xM) (Q : xQ) : xKt := fun pc l st h z kc ks => xEx G M pc l st h z kc ks Q
variable {K : xKt}
theorem xs_iconst {v : Int} (hd : decode (m_c M) pc = .ok (.iconst v, n)) (hK : ∀ pc l st h z kc ks, K pc l st h z kc ks → xEx G M pc l st h z kc ks Q) (hs : x_s G M P Q (.iconst v) n ts pc l st h z kc ks K) : xEx G M pc l st h z kc ks Q := by
  obtain ⟨rfl, k⟩ := hs
  exact x_go (fun hx hb _ _ hl kk => lv_iconst hx hb hd rfl (kk _ hl)) (hK _ _ _ _ _ _ _ k)
theorem xs_bipush {v : Int} (hd : decode (m_c M) pc = .ok (.bipush v, n)) (hK : ∀ pc l st h z kc ks, K pc l st h z kc ks → xEx G M pc l st h z kc ks Q) (hs : x_s G M P Q (.bipush v) n ts pc l st h z kc ks K) : xEx G M pc l st h z kc ks Q := by
  obtain ⟨rfl, e, k⟩ := hs
  exact x_go (fun hx hb _ _ hl kk => lv_bipush hx hb hd e (kk _ hl)) (hK _ _ _ _ _ _ _ k)
theorem xs_sipush {v : Int} (hd : decode (m_c M) pc = .ok (.sipush v, n)) (hK : ∀ pc l st h z kc ks, K pc l st h z kc ks → xEx G M pc l st h z kc ks Q) (hs : x_s G M P Q (.sipush v) n ts pc l st h z kc ks K) : xEx G M pc l st h z kc ks Q := by
  obtain ⟨rfl, e, k⟩ := hs
  exact x_go (fun hx hb _ _ hl kk => lv_sipush hx hb hd e (kk _ hl)) (hK _ _ _ _ _ _ _ k)
theorem xs_lconst {v : Fin 2} (hd : decode (m_c M) pc = .ok (.lconst v, n)) (hK : ∀ pc l st h z kc ks, K pc l st h z kc ks → xEx G M pc l st h z kc ks Q) (hs : x_s G M P Q (.lconst v) n ts pc l st h z kc ks K) : xEx G M pc l st h z kc ks Q := by
  obtain ⟨rfl, k⟩ := hs
  exact x_go (fun hx hb _ _ hl kk => lv_lconst hx hb hd rfl (kk _ hl)) (hK _ _ _ _ _ _ _ k)
theorem xs_ldc {j : Nat} (hd : decode (m_c M) pc = .ok (.ldc j, n)) (hP : xPok G M P) (hK : ∀ pc l st h z kc ks, K pc l st h z kc ks → xEx G M pc l st h z kc ks Q) (hs : x_s G M P Q (.ldc j) n ts pc l st h z kc ks K) : xEx G M pc l st h z kc ks Q := by
  obtain ⟨rfl, k⟩ := hs
  split at k
  · exact x_go (fun hx hb ho ht hl kk => lv_ldc hx hb ho (ht _ (hP.2.1 j _ ‹_›)) hd (kk _ hl)) (hK _ _ _ _ _ _ _ k)
  · exact k.elim
theorem xs_ldc_w {j : Nat} (hd : decode (m_c M) pc = .ok (.ldc_w j, n)) (hP : xPok G M P) (hK : ∀ pc l st h z kc ks, K pc l st h z kc ks → xEx G M pc l st h z kc ks Q) (hs : x_s G M P Q (.ldc_w j) n ts pc l st h z kc ks K) : xEx G M pc l st h z kc ks Q := by
  obtain ⟨rfl, k⟩ := hs
  split at k
  · exact x_go (fun hx hb ho ht hl kk => lv_ldcw hx hb ho (ht _ (hP.2.1 j _ ‹_›)) hd (kk _ hl)) (hK _ _ _ _ _ _ _ k)
  · exact k.elim
theorem xs_ldc2_w {j : Nat} (hd : decode (m_c M) pc = .ok (.ldc2_w j, n)) (hP : xPok G M P) (hK : ∀ pc l st h z kc ks, K pc l st h z kc ks → xEx G M pc l st h z kc ks Q) (hs : x_s G M P Q (.ldc2_w j) n ts pc l st h z kc ks K) : xEx G M pc l st h z kc ks Q := by
  obtain ⟨rfl, k⟩ := hs
  split at k
  · exact x_go (fun hx hb ho ht hl kk => lv_ldc2 hx hb ho (ht _ (hP.2.2.1 j _ ‹_›)) hd (kk _ hl)) (hK _ _ _ _ _ _ _ k)
  · exact k.elim
theorem xs_iload {j : Nat} (hd : decode (m_c M) pc = .ok (.iload j, n)) (hK : ∀ pc l st h z kc ks, K pc l st h z kc ks → xEx G M pc l st h z kc ks Q) (hs : x_s G M P Q (.iload j) n ts pc l st h z kc ks K) : xEx G M pc l st h z kc ks Q := by
  obtain ⟨rfl, k⟩ := hs
  obtain ⟨x, e, k⟩ := x_li_ok k
  exact x_go (fun hx hb _ _ hl kk => lv_iload hx hb hd (x_lat hl e) (kk _ hl)) (hK _ _ _ _ _ _ _ k)
theorem xs_iload_n {j : Fin 4} (hd : decode (m_c M) pc = .ok (.iload_n j, n)) (hK : ∀ pc l st h z kc ks, K pc l st h z kc ks → xEx G M pc l st h z kc ks Q) (hs : x_s G M P Q (.iload_n j) n ts pc l st h z kc ks K) : xEx G M pc l st h z kc ks Q := by
  obtain ⟨rfl, k⟩ := hs
  obtain ⟨x, e, k⟩ := x_li_ok k
  exact x_go (fun hx hb _ _ hl kk => lv_iload_n hx hb hd rfl (x_lat hl e) (kk _ hl)) (hK _ _ _ _ _ _ _ k)
theorem xs_lload {j : Nat} (hd : decode (m_c M) pc = .ok (.lload j, n)) (hK : ∀ pc l st h z kc ks, K pc l st h z kc ks → xEx G M pc l st h z kc ks Q) (hs : x_s G M P Q (.lload j) n ts pc l st h z kc ks K) : xEx G M pc l st h z kc ks Q := by
  obtain ⟨rfl, k⟩ := hs
  obtain ⟨x, e, k⟩ := x_ll_ok k
  exact x_go (fun hx hb _ _ hl kk => lv_lload hx hb hd (x_lat hl e) (kk _ hl)) (hK _ _ _ _ _ _ _ k)
theorem xs_lload_n {j : Fin 4} (hd : decode (m_c M) pc = .ok (.lload_n j, n)) (hK : ∀ pc l st h z kc ks, K pc l st h z kc ks → xEx G M pc l st h z kc ks Q) (hs : x_s G M P Q (.lload_n j) n ts pc l st h z kc ks K) : xEx G M pc l st h z kc ks Q := by
  obtain ⟨rfl, k⟩ := hs
  obtain ⟨x, e, k⟩ := x_ll_ok k
  exact x_go (fun hx hb _ _ hl kk => lv_lload_n hx hb hd rfl (x_lat hl e) (kk _ hl)) (hK _ _ _ _ _ _ _ k)
theorem xs_aload {j : Nat} (hd : decode (m_c M) pc = .ok (.aload j, n)) (hK : ∀ pc l st h z kc ks, K pc l st h z kc ks → xEx G M pc l st h z kc ks Q) (hs : x_s G M P Q (.aload j) n ts pc l st h z kc ks K) : xEx G M pc l st h z kc ks Q := by
  obtain ⟨rfl, k⟩ := hs
  obtain ⟨x, e, k⟩ := x_la_ok k
  exact x_go (fun hx hb _ _ hl kk => lv_aload hx hb hd (x_lat hl e) (kk _ hl)) (hK _ _ _ _ _ _ _ k)
theorem xs_aload_n {j : Fin 4} (hd : decode (m_c M) pc = .ok (.aload_n j, n)) (hK : ∀ pc l st h z kc ks, K pc l st h z kc ks → xEx G M pc l st h z kc ks Q) (hs : x_s G M P Q (.aload_n j) n ts pc l st h z kc ks K) : xEx G M pc l st h z kc ks Q := by
  obtain ⟨rfl, k⟩ := hs
  obtain ⟨x, e, k⟩ := x_la_ok k
  exact x_go (fun hx hb _ _ hl kk => lv_aload_n hx hb hd rfl (x_lat hl e) (kk _ hl)) (hK _ _ _ _ _ _ _ k)
theorem xs_istore {j : Nat} (hd : decode (m_c M) pc = .ok (.istore j, n)) (hK : ∀ pc l st h z kc ks, K pc l st h z kc ks → xEx G M pc l st h z kc ks Q) (hs : x_s G M P Q (.istore j) n ts pc l st h z kc ks K) : xEx G M pc l st h z kc ks Q := by
  obtain ⟨rfl, hj, k⟩ := hs
  split at k
  · exact x_go (fun hx hb _ _ hl kk => lv_istore hx hb hd hl hj rfl kk) (hK _ _ _ _ _ _ _ k)
  · exact k.elim
theorem xs_istore_n {j : Fin 4} (hd : decode (m_c M) pc = .ok (.istore_n j, n)) (hK : ∀ pc l st h z kc ks, K pc l st h z kc ks → xEx G M pc l st h z kc ks Q) (hs : x_s G M P Q (.istore_n j) n ts pc l st h z kc ks K) : xEx G M pc l st h z kc ks Q := by
  obtain ⟨rfl, hj, k⟩ := hs
  split at k
  · exact x_go (fun hx hb _ _ hl kk => lv_istore_n hx hb hd rfl hl hj rfl kk) (hK _ _ _ _ _ _ _ k)
  · exact k.elim
theorem xs_lstore {j : Nat} (hd : decode (m_c M) pc = .ok (.lstore j, n)) (hK : ∀ pc l st h z kc ks, K pc l st h z kc ks → xEx G M pc l st h z kc ks Q) (hs : x_s G M P Q (.lstore j) n ts pc l st h z kc ks K) : xEx G M pc l st h z kc ks Q := by
  obtain ⟨rfl, hj, k⟩ := hs
  split at k
  · exact x_go (fun hx hb _ _ hl kk => lv_lstore hx hb hd hl hj rfl kk) (hK _ _ _ _ _ _ _ k)
  · exact k.elim
theorem xs_lstore_n {j : Fin 4} (hd : decode (m_c M) pc = .ok (.lstore_n j, n)) (hK : ∀ pc l st h z kc ks, K pc l st h z kc ks → xEx G M pc l st h z kc ks Q) (hs : x_s G M P Q (.lstore_n j) n ts pc l st h z kc ks K) : xEx G M pc l st h z kc ks Q := by
  obtain ⟨rfl, hj, k⟩ := hs
  split at k
  · exact x_go (fun hx hb _ _ hl kk => lv_lstore_n hx hb hd rfl hl hj rfl kk) (hK _ _ _ _ _ _ _ k)
  · exact k.elim
theorem xs_astore {j : Nat} (hd : decode (m_c M) pc = .ok (.astore j, n)) (hK : ∀ pc l st h z kc ks, K pc l st h z kc ks → xEx G M pc l st h z kc ks Q) (hs : x_s G M P Q (.astore j) n ts pc l st h z kc ks K) : xEx G M pc l st h z kc ks Q := by
  obtain ⟨rfl, hj, k⟩ := hs
  split at k
  · exact x_go (fun hx hb _ _ hl kk => lv_astore hx hb hd hl hj rfl kk) (hK _ _ _ _ _ _ _ k)
  · exact k.elim
theorem xs_astore_n {j : Fin 4} (hd : decode (m_c M) pc = .ok (.astore_n j, n)) (hK : ∀ pc l st h z kc ks, K pc l st h z kc ks → xEx G M pc l st h z kc ks Q) (hs : x_s G M P Q (.astore_n j) n ts pc l st h z kc ks K) : xEx G M pc l st h z kc ks Q := by
  obtain ⟨rfl, hj, k⟩ := hs
  split at k
  · exact x_go (fun hx hb _ _ hl kk => lv_astore_n hx hb hd rfl hl hj rfl kk) (hK _ _ _ _ _ _ _ k)
  · exact k.elim
theorem xs_iinc {j : Nat} {v : Int} (hd : decode (m_c M) pc = .ok (.iinc j v, n)) (hK : ∀ pc l st h z kc ks, K pc l st h z kc ks → xEx G M pc l st h z kc ks Q) (hs : x_s G M P Q (.iinc j v) n ts pc l st h z kc ks K) : xEx G M pc l st h z kc ks Q := by
  obtain ⟨rfl, hj, k⟩ := hs
  obtain ⟨x, e, k⟩ := x_li_ok k
  obtain ⟨i, hi⟩ := List.getElem?_of_mem (x_lk e)
  exact x_go (fun hx hb _ _ hl kk => lv_iinc hx hb hd hl hi rfl hj rfl kk) (hK _ _ _ _ _ _ _ k)
theorem xs_iadd (hd : decode (m_c M) pc = .ok (.iadd, n)) (hK : ∀ pc l st h z kc ks, K pc l st h z kc ks → xEx G M pc l st h z kc ks Q) (hs : x_s G M P Q (.iadd) n ts pc l st h z kc ks K) : xEx G M pc l st h z kc ks Q := by
  obtain ⟨rfl, k⟩ := hs
  split at k
  · exact x_go (fun hx hb _ _ hl kk => lv_iadd hx hb hd (kk _ hl)) (hK _ _ _ _ _ _ _ k)
  · exact k.elim
theorem xs_isub (hd : decode (m_c M) pc = .ok (.isub, n)) (hK : ∀ pc l st h z kc ks, K pc l st h z kc ks → xEx G M pc l st h z kc ks Q) (hs : x_s G M P Q (.isub) n ts pc l st h z kc ks K) : xEx G M pc l st h z kc ks Q := by
  obtain ⟨rfl, k⟩ := hs
  split at k
  · exact x_go (fun hx hb _ _ hl kk => lv_isub hx hb hd (kk _ hl)) (hK _ _ _ _ _ _ _ k)
  · exact k.elim
theorem xs_imul (hd : decode (m_c M) pc = .ok (.imul, n)) (hK : ∀ pc l st h z kc ks, K pc l st h z kc ks → xEx G M pc l st h z kc ks Q) (hs : x_s G M P Q (.imul) n ts pc l st h z kc ks K) : xEx G M pc l st h z kc ks Q := by
  obtain ⟨rfl, k⟩ := hs
  split at k
  · exact x_go (fun hx hb _ _ hl kk => lv_imul hx hb hd (kk _ hl)) (hK _ _ _ _ _ _ _ k)
  · exact k.elim
theorem xs_iand (hd : decode (m_c M) pc = .ok (.iand, n)) (hK : ∀ pc l st h z kc ks, K pc l st h z kc ks → xEx G M pc l st h z kc ks Q) (hs : x_s G M P Q (.iand) n ts pc l st h z kc ks K) : xEx G M pc l st h z kc ks Q := by
  obtain ⟨rfl, k⟩ := hs
  split at k
  · exact x_go (fun hx hb _ _ hl kk => lv_iand hx hb hd (kk _ hl)) (hK _ _ _ _ _ _ _ k)
  · exact k.elim
theorem xs_ior (hd : decode (m_c M) pc = .ok (.ior, n)) (hK : ∀ pc l st h z kc ks, K pc l st h z kc ks → xEx G M pc l st h z kc ks Q) (hs : x_s G M P Q (.ior) n ts pc l st h z kc ks K) : xEx G M pc l st h z kc ks Q := by
  obtain ⟨rfl, k⟩ := hs
  split at k
  · exact x_go (fun hx hb _ _ hl kk => lv_ior hx hb hd (kk _ hl)) (hK _ _ _ _ _ _ _ k)
  · exact k.elim
theorem xs_ixor (hd : decode (m_c M) pc = .ok (.ixor, n)) (hK : ∀ pc l st h z kc ks, K pc l st h z kc ks → xEx G M pc l st h z kc ks Q) (hs : x_s G M P Q (.ixor) n ts pc l st h z kc ks K) : xEx G M pc l st h z kc ks Q := by
  obtain ⟨rfl, k⟩ := hs
  split at k
  · exact x_go (fun hx hb _ _ hl kk => lv_ixor hx hb hd (kk _ hl)) (hK _ _ _ _ _ _ _ k)
  · exact k.elim
theorem xs_ishl (hd : decode (m_c M) pc = .ok (.ishl, n)) (hK : ∀ pc l st h z kc ks, K pc l st h z kc ks → xEx G M pc l st h z kc ks Q) (hs : x_s G M P Q (.ishl) n ts pc l st h z kc ks K) : xEx G M pc l st h z kc ks Q := by
  obtain ⟨rfl, k⟩ := hs
  split at k
  · exact x_go (fun hx hb _ _ hl kk => lv_ishl hx hb hd (kk _ hl)) (hK _ _ _ _ _ _ _ k)
  · exact k.elim
theorem xs_ishr (hd : decode (m_c M) pc = .ok (.ishr, n)) (hK : ∀ pc l st h z kc ks, K pc l st h z kc ks → xEx G M pc l st h z kc ks Q) (hs : x_s G M P Q (.ishr) n ts pc l st h z kc ks K) : xEx G M pc l st h z kc ks Q := by
  obtain ⟨rfl, k⟩ := hs
  split at k
  · exact x_go (fun hx hb _ _ hl kk => lv_ishr hx hb hd (kk _ hl)) (hK _ _ _ _ _ _ _ k)
  · exact k.elim
theorem xs_ladd (hd : decode (m_c M) pc = .ok (.ladd, n)) (hK : ∀ pc l st h z kc ks, K pc l st h z kc ks → xEx G M pc l st h z kc ks Q) (hs : x_s G M P Q (.ladd) n ts pc l st h z kc ks K) : xEx G M pc l st h z kc ks Q := by
  obtain ⟨rfl, k⟩ := hs
  split at k
  · exact x_go (fun hx hb _ _ hl kk => lv_ladd hx hb hd (kk _ hl)) (hK _ _ _ _ _ _ _ k)
  · exact k.elim
theorem xs_lsub (hd : decode (m_c M) pc = .ok (.lsub, n)) (hK : ∀ pc l st h z kc ks, K pc l st h z kc ks → xEx G M pc l st h z kc ks Q) (hs : x_s G M P Q (.lsub) n ts pc l st h z kc ks K) : xEx G M pc l st h z kc ks Q := by
  obtain ⟨rfl, k⟩ := hs
  split at k
  · exact x_go (fun hx hb _ _ hl kk => lv_lsub hx hb hd (kk _ hl)) (hK _ _ _ _ _ _ _ k)
  · exact k.elim
theorem xs_lmul (hd : decode (m_c M) pc = .ok (.lmul, n)) (hK : ∀ pc l st h z kc ks, K pc l st h z kc ks → xEx G M pc l st h z kc ks Q) (hs : x_s G M P Q (.lmul) n ts pc l st h z kc ks K) : xEx G M pc l st h z kc ks Q := by
  obtain ⟨rfl, k⟩ := hs
  split at k
  · exact x_go (fun hx hb _ _ hl kk => lv_lmul hx hb hd (kk _ hl)) (hK _ _ _ _ _ _ _ k)
  · exact k.elim
theorem xs_land (hd : decode (m_c M) pc = .ok (.land, n)) (hK : ∀ pc l st h z kc ks, K pc l st h z kc ks → xEx G M pc l st h z kc ks Q) (hs : x_s G M P Q (.land) n ts pc l st h z kc ks K) : xEx G M pc l st h z kc ks Q := by
  obtain ⟨rfl, k⟩ := hs
  split at k
  · exact x_go (fun hx hb _ _ hl kk => lv_land hx hb hd (kk _ hl)) (hK _ _ _ _ _ _ _ k)
  · exact k.elim
theorem xs_lor (hd : decode (m_c M) pc = .ok (.lor, n)) (hK : ∀ pc l st h z kc ks, K pc l st h z kc ks → xEx G M pc l st h z kc ks Q) (hs : x_s G M P Q (.lor) n ts pc l st h z kc ks K) : xEx G M pc l st h z kc ks Q := by
  obtain ⟨rfl, k⟩ := hs
  split at k
  · exact x_go (fun hx hb _ _ hl kk => lv_lor hx hb hd (kk _ hl)) (hK _ _ _ _ _ _ _ k)
  · exact k.elim
theorem xs_lxor (hd : decode (m_c M) pc = .ok (.lxor, n)) (hK : ∀ pc l st h z kc ks, K pc l st h z kc ks → xEx G M pc l st h z kc ks Q) (hs : x_s G M P Q (.lxor) n ts pc l st h z kc ks K) : xEx G M pc l st h z kc ks Q := by
  obtain ⟨rfl, k⟩ := hs
  split at k
  · exact x_go (fun hx hb _ _ hl kk => lv_lxor hx hb hd (kk _ hl)) (hK _ _ _ _ _ _ _ k)
  · exact k.elim
theorem xs_ineg (hd : decode (m_c M) pc = .ok (.ineg, n)) (hK : ∀ pc l st h z kc ks, K pc l st h z kc ks → xEx G M pc l st h z kc ks Q) (hs : x_s G M P Q (.ineg) n ts pc l st h z kc ks K) : xEx G M pc l st h z kc ks Q := by
  obtain ⟨rfl, k⟩ := hs
  split at k
  · exact x_go (fun hx hb _ _ hl kk => lv_ineg hx hb hd (kk _ hl)) (hK _ _ _ _ _ _ _ k)
  · exact k.elim
theorem xs_lneg (hd : decode (m_c M) pc = .ok (.lneg, n)) (hK : ∀ pc l st h z kc ks, K pc l st h z kc ks → xEx G M pc l st h z kc ks Q) (hs : x_s G M P Q (.lneg) n ts pc l st h z kc ks K) : xEx G M pc l st h z kc ks Q := by
  obtain ⟨rfl, k⟩ := hs
  split at k
  · exact x_go (fun hx hb _ _ hl kk => lv_lneg hx hb hd (kk _ hl)) (hK _ _ _ _ _ _ _ k)
  · exact k.elim
theorem xs_lshl (hd : decode (m_c M) pc = .ok (.lshl, n)) (hK : ∀ pc l st h z kc ks, K pc l st h z kc ks → xEx G M pc l st h z kc ks Q) (hs : x_s G M P Q (.lshl) n ts pc l st h z kc ks K) : xEx G M pc l st h z kc ks Q := by
  obtain ⟨rfl, k⟩ := hs
  split at k
  · exact x_go (fun hx hb _ _ hl kk => lv_lshl hx hb hd rfl (kk _ hl)) (hK _ _ _ _ _ _ _ k)
  · exact k.elim
theorem xs_lshr (hd : decode (m_c M) pc = .ok (.lshr, n)) (hK : ∀ pc l st h z kc ks, K pc l st h z kc ks → xEx G M pc l st h z kc ks Q) (hs : x_s G M P Q (.lshr) n ts pc l st h z kc ks K) : xEx G M pc l st h z kc ks Q := by
  obtain ⟨rfl, k⟩ := hs
  split at k
  · exact x_go (fun hx hb _ _ hl kk => lv_lshr hx hb hd rfl (kk _ hl)) (hK _ _ _ _ _ _ _ k)
  · exact k.elim
theorem xs_i2l (hd : decode (m_c M) pc = .ok (.i2l, n)) (hK : ∀ pc l st h z kc ks, K pc l st h z kc ks → xEx G M pc l st h z kc ks Q) (hs : x_s G M P Q (.i2l) n ts pc l st h z kc ks K) : xEx G M pc l st h z kc ks Q := by
  obtain ⟨rfl, k⟩ := hs
  split at k
  · exact x_go (fun hx hb _ _ hl kk => lv_i2l hx hb hd rfl (kk _ hl)) (hK _ _ _ _ _ _ _ k)
  · exact k.elim
theorem xs_l2i (hd : decode (m_c M) pc = .ok (.l2i, n)) (hK : ∀ pc l st h z kc ks, K pc l st h z kc ks → xEx G M pc l st h z kc ks Q) (hs : x_s G M P Q (.l2i) n ts pc l st h z kc ks K) : xEx G M pc l st h z kc ks Q := by
  obtain ⟨rfl, k⟩ := hs
  split at k
  · exact x_go (fun hx hb _ _ hl kk => lv_l2i hx hb hd rfl (kk _ hl)) (hK _ _ _ _ _ _ _ k)
  · exact k.elim
theorem xs_i2b (hd : decode (m_c M) pc = .ok (.i2b, n)) (hK : ∀ pc l st h z kc ks, K pc l st h z kc ks → xEx G M pc l st h z kc ks Q) (hs : x_s G M P Q (.i2b) n ts pc l st h z kc ks K) : xEx G M pc l st h z kc ks Q := by
  obtain ⟨rfl, k⟩ := hs
  split at k
  · exact x_go (fun hx hb _ _ hl kk => lv_i2b hx hb hd rfl (kk _ hl)) (hK _ _ _ _ _ _ _ k)
  · exact k.elim
theorem xs_idiv (hd : decode (m_c M) pc = .ok (.idiv, n)) (hK : ∀ pc l st h z kc ks, K pc l st h z kc ks → xEx G M pc l st h z kc ks Q) (hs : x_s G M P Q (.idiv) n ts pc l st h z kc ks K) : xEx G M pc l st h z kc ks Q := by
  obtain ⟨rfl, k⟩ := hs
  split at k
  · obtain ⟨hy, k⟩ := k
    exact x_go (fun hx hb _ _ hl kk => lv_idiv hx hb hd hy (kk _ hl)) (hK _ _ _ _ _ _ _ k)
  · exact k.elim
theorem xs_irem (hd : decode (m_c M) pc = .ok (.irem, n)) (hK : ∀ pc l st h z kc ks, K pc l st h z kc ks → xEx G M pc l st h z kc ks Q) (hs : x_s G M P Q (.irem) n ts pc l st h z kc ks K) : xEx G M pc l st h z kc ks Q := by
  obtain ⟨rfl, k⟩ := hs
  split at k
  · obtain ⟨hy, k⟩ := k
    exact x_go (fun hx hb _ _ hl kk => lv_irem hx hb hd hy (kk _ hl)) (hK _ _ _ _ _ _ _ k)
  · exact k.elim
theorem xs_lcmp (hd : decode (m_c M) pc = .ok (.lcmp, n)) (hK : ∀ pc l st h z kc ks, K pc l st h z kc ks → xEx G M pc l st h z kc ks Q) (hs : x_s G M P Q (.lcmp) n ts pc l st h z kc ks K) : xEx G M pc l st h z kc ks Q := by
  obtain ⟨rfl, k⟩ := hs
  split at k
  · exact x_go (fun hx hb _ _ hl kk => W.lcmp hx hb hd (kk _ hl)) (hK _ _ _ _ _ _ _ k)
  · exact k.elim
theorem xs_dup (hd : decode (m_c M) pc = .ok (.dup, n)) (hK : ∀ pc l st h z kc ks, K pc l st h z kc ks → xEx G M pc l st h z kc ks Q) (hs : x_s G M P Q (.dup) n ts pc l st h z kc ks K) : xEx G M pc l st h z kc ks Q := by
  obtain ⟨rfl, k⟩ := hs
  split at k
  · obtain ⟨hy, k⟩ := k
    exact x_go (fun hx hb _ _ hl kk => lv_dup hx hb hd hy (kk _ hl)) (hK _ _ _ _ _ _ _ k)
  · exact k.elim
theorem xs_pop (hd : decode (m_c M) pc = .ok (.pop, n)) (hK : ∀ pc l st h z kc ks, K pc l st h z kc ks → xEx G M pc l st h z kc ks Q) (hs : x_s G M P Q (.pop) n ts pc l st h z kc ks K) : xEx G M pc l st h z kc ks Q := by
  obtain ⟨rfl, k⟩ := hs
  split at k
  · obtain ⟨hy, k⟩ := k
    exact x_go (fun hx hb _ _ hl kk => lv_pop hx hb hd hy (kk _ hl)) (hK _ _ _ _ _ _ _ k)
  · exact k.elim
theorem xs_dup2 (hd : decode (m_c M) pc = .ok (.dup2, n)) (hK : ∀ pc l st h z kc ks, K pc l st h z kc ks → xEx G M pc l st h z kc ks Q) (hs : x_s G M P Q (.dup2) n ts pc l st h z kc ks K) : xEx G M pc l st h z kc ks Q := by
  obtain ⟨rfl, k⟩ := hs
  split at k
  · obtain ⟨hy, hw, k⟩ := k
    exact x_go (fun hx hb _ _ hl kk => lv_dup2_11 hx hb hd hy hw (kk _ hl)) (hK _ _ _ _ _ _ _ k)
  · exact k.elim
theorem x_tg1 {pc t : Nat} {off : Int} (h : ([t].map Int.ofNat == [(pc : Int) + off]) = true) : (pc : Int) + off = (t : Int) := by
  simp at h
  omega
theorem xs_goto {off : Int} (hd : decode (m_c M) pc = .ok (.goto off, n)) (ht : x_tg pc (.goto off) ts = true) (hK : ∀ pc l st h z kc ks, K pc l st h z kc ks → xEx G M pc l st h z kc ks Q) (hs : x_s G M P Q (.goto off) n ts pc l st h z kc ks K) : xEx G M pc l st h z kc ks Q := by
  obtain ⟨rfl, k⟩ := hs
  split at k
  · exact x_go (fun hx hb _ _ hl kk => lv_goto hx hb hd (x_tg1 ht) (kk _ hl)) (hK _ _ _ _ _ _ _ k)
  · exact k.elim
theorem xs_ifCond {c : Jvm.ClassFile.Cond} {off : Int} (hd : decode (m_c M) pc = .ok (.ifCond c off, n)) (ht : x_tg pc (.ifCond c off) ts = true) (hK : ∀ pc l st h z kc ks, K pc l st h z kc ks → xEx G M pc l st h z kc ks Q) (hs : x_s G M P Q (.ifCond c off) n ts pc l st h z kc ks K) : xEx G M pc l st h z kc ks Q := by
  obtain ⟨rfl, k⟩ := hs
  split at k
  · obtain ⟨k1, k2⟩ := k
    cases c
    · exact x_br (fun hx hb q1 q2 => lv_if_eq hx hb hd (x_tg1 ht) q1 q2) (fun q => hK _ _ _ _ _ _ _ (k1 q)) (fun q => hK _ _ _ _ _ _ _ (k2 q))
    · exact x_br (fun hx hb q1 q2 => lv_if_ne hx hb hd (x_tg1 ht) q1 q2) (fun q => hK _ _ _ _ _ _ _ (k1 q)) (fun q => hK _ _ _ _ _ _ _ (k2 q))
    · exact x_br (fun hx hb q1 q2 => lv_if_lt hx hb hd (x_tg1 ht) q1 q2) (fun q => hK _ _ _ _ _ _ _ (k1 q)) (fun q => hK _ _ _ _ _ _ _ (k2 q))
    · exact x_br (fun hx hb q1 q2 => lv_if_ge hx hb hd (x_tg1 ht) q1 q2) (fun q => hK _ _ _ _ _ _ _ (k1 q)) (fun q => hK _ _ _ _ _ _ _ (k2 q))
    · exact x_br (fun hx hb q1 q2 => lv_if_gt hx hb hd (x_tg1 ht) q1 q2) (fun q => hK _ _ _ _ _ _ _ (k1 q)) (fun q => hK _ _ _ _ _ _ _ (k2 q))
    · exact x_br (fun hx hb q1 q2 => lv_if_le hx hb hd (x_tg1 ht) q1 q2) (fun q => hK _ _ _ _ _ _ _ (k1 q)) (fun q => hK _ _ _ _ _ _ _ (k2 q))
  · exact k.elim
theorem xs_if_icmp {c : Jvm.ClassFile.Cond} {off : Int} (hd : decode (m_c M) pc = .ok (.if_icmp c off, n)) (ht : x_tg pc (.if_icmp c off) ts = true) (hK : ∀ pc l st h z kc ks, K pc l st h z kc ks → xEx G M pc l st h z kc ks Q) (hs : x_s G M P Q (.if_icmp c off) n ts pc l st h z kc ks K) : xEx G M pc l st h z kc ks Q := by
  obtain ⟨rfl, k⟩ := hs
  split at k
  · obtain ⟨k1, k2⟩ := k
    cases c
    · exact x_br (fun hx hb q1 q2 => lv_icmp_eq hx hb hd (x_tg1 ht) q1 q2) (fun q => hK _ _ _ _ _ _ _ (k1 q)) (fun q => hK _ _ _ _ _ _ _ (k2 q))
    · exact x_br (fun hx hb q1 q2 => lv_icmp_ne hx hb hd (x_tg1 ht) q1 q2) (fun q => hK _ _ _ _ _ _ _ (k1 q)) (fun q => hK _ _ _ _ _ _ _ (k2 q))
    · exact x_br (fun hx hb q1 q2 => lv_icmp_lt hx hb hd (x_tg1 ht) q1 q2) (fun q => hK _ _ _ _ _ _ _ (k1 q)) (fun q => hK _ _ _ _ _ _ _ (k2 q))
    · exact x_br (fun hx hb q1 q2 => lv_icmp_ge hx hb hd (x_tg1 ht) q1 q2) (fun q => hK _ _ _ _ _ _ _ (k1 q)) (fun q => hK _ _ _ _ _ _ _ (k2 q))
    · exact x_br (fun hx hb q1 q2 => lv_icmp_gt hx hb hd (x_tg1 ht) q1 q2) (fun q => hK _ _ _ _ _ _ _ (k1 q)) (fun q => hK _ _ _ _ _ _ _ (k2 q))
    · exact x_br (fun hx hb q1 q2 => lv_icmp_le hx hb hd (x_tg1 ht) q1 q2) (fun q => hK _ _ _ _ _ _ _ (k1 q)) (fun q => hK _ _ _ _ _ _ _ (k2 q))
  · exact k.elim
theorem x_tgs {pc : Nat} {d lo hi : Int} {offs : Array Int} {e : Nat} {us : List Nat} (h : x_tg pc (.tableswitch d lo hi offs) (e :: us) = true) : (pc : Int) + d = (e : Int) ∧ ∀ (j : Nat) (t : Nat), us[j]? = some t → ∃ off : Int, offs[j]? = some off ∧ (pc : Int) + off = (t : Int) := by
  unfold x_tg at h
  rw [Bool.and_eq_true] at h
  have h1 : (e :: us).map Int.ofNat = (d :: offs.toList).map (fun o => (pc : Int) + o) := by simpa using h.1
  rw [List.map_cons, List.map_cons] at h1
  obtain ⟨g1, g2⟩ := List.cons.inj h1
  refine ⟨g1.symm, fun j t hj => ?_⟩
  have h3 : (us.map Int.ofNat)[j]? = some (Int.ofNat t) := by rw [List.getElem?_map, hj]; rfl
  rw [g2, List.getElem?_map] at h3
  cases ho : offs.toList[j]? with
  | none => rw [ho] at h3; cases h3
  | some off =>
    rw [ho] at h3
    exact ⟨off, by rw [← Array.getElem?_toList]; exact ho, Option.some.inj h3⟩
theorem xs_tableswitch {d lo hi : Int} {offs : Array Int} (hd : decode (m_c M) pc = .ok (.tableswitch d lo hi offs, n)) (ht : x_tg pc (.tableswitch d lo hi offs) ts = true) (hK : ∀ pc l st h z kc ks, K pc l st h z kc ks → xEx G M pc l st h z kc ks Q) (hs : x_s G M P Q (.tableswitch d lo hi offs) n ts pc l st h z kc ks K) : xEx G M pc l st h z kc ks Q := by
  dsimp only [x_s] at hs
  split at hs
  · obtain ⟨k1, k2⟩ := hs
    obtain ⟨t1, t2⟩ := x_tgs ht
    rename_i x _
    by_cases q1 : x.toInt < lo
    · exact x_go (fun hx hb _ _ hl kk => lv_tableOut hx hb hd (Or.inl q1) t1 (kk _ hl)) (hK _ _ _ _ _ _ _ (k1 (Or.inl q1)))
    · by_cases q2 : hi < x.toInt
      · exact x_go (fun hx hb _ _ hl kk => lv_tableOut hx hb hd (Or.inr q2) t1 (kk _ hl)) (hK _ _ _ _ _ _ _ (k1 (Or.inr q2)))
      · obtain ⟨t, e1, k⟩ := k2 q1 q2
        obtain ⟨off, e2, e3⟩ := t2 _ _ e1
        exact x_go (fun hx hb _ _ hl kk => lv_tableIn hx hb hd q1 q2 e2 e3 (kk _ hl)) (hK _ _ _ _ _ _ _ k)
  · exact hs.elim
theorem xs_getfield {j : Nat} (hd : decode (m_c M) pc = .ok (.getfield j, n)) (hP : xPok G M P) (hK : ∀ pc l st h z kc ks, K pc l st h z kc ks → xEx G M pc l st h z kc ks Q) (hs : x_s G M P Q (.getfield j) n ts pc l st h z kc ks K) : xEx G M pc l st h z kc ks Q := by
  obtain ⟨rfl, k⟩ := hs
  split at k
  · unfold x_gf at k
    split at k
    · obtain ⟨e, k⟩ := k
      subst e
      split at k
      · exact x_get (hP.1 _ _ _ ‹_›) ‹_› ‹_› hd (hK _ _ _ _ _ _ _ k)
      · exact k.elim
    · exact k.elim
  · exact k.elim
theorem xs_putfield {j : Nat} (hd : decode (m_c M) pc = .ok (.putfield j, n)) (hP : xPok G M P) (hK : ∀ pc l st h z kc ks, K pc l st h z kc ks → xEx G M pc l st h z kc ks Q) (hs : x_s G M P Q (.putfield j) n ts pc l st h z kc ks K) : xEx G M pc l st h z kc ks Q := by
  obtain ⟨rfl, k⟩ := hs
  split at k
  · unfold x_pf at k
    split at k
    · obtain ⟨e, k1, k2, k3, k⟩ := k
      subst e
      exact x_put (hP.2.2.2.2.2 _ _ _ ‹_›) ‹_› k1 k2 k3 hd (hK _ _ _ _ _ _ _ k)
    · exact k.elim
  · exact k.elim
theorem xs_getstatic {j : Nat} (hd : decode (m_c M) pc = .ok (.getstatic j, n)) (hP : xPok G M P) (hK : ∀ pc l st h z kc ks, K pc l st h z kc ks → xEx G M pc l st h z kc ks Q) (hs : x_s G M P Q (.getstatic j) n ts pc l st h z kc ks K) : xEx G M pc l st h z kc ks Q := by
  obtain ⟨rfl, k⟩ := hs
  split at k
  · rename_i k0 hk0
    obtain ⟨C, nm, d, v, e1, e2⟩ := hP.2.2.2.2.1 _ _ hk0
    rw [e1] at k
    exact x_gets e1 e2 hd (hK _ _ _ _ _ _ _ k)
  · exact k.elim
theorem xs_iaload (hd : decode (m_c M) pc = .ok (.iaload, n)) (hK : ∀ pc l st h z kc ks, K pc l st h z kc ks → xEx G M pc l st h z kc ks Q) (hs : x_s G M P Q .iaload n ts pc l st h z kc ks K) : xEx G M pc l st h z kc ks Q := by
  obtain ⟨rfl, k⟩ := hs
  split at k
  · unfold x_aI at k
    split at k
    · obtain ⟨rfl, k1, k⟩ := k
      exact x_iald ‹_› k1 hd (hK _ _ _ _ _ _ _ k)
    · exact k.elim
  · exact k.elim
theorem xs_baload (hd : decode (m_c M) pc = .ok (.baload, n)) (hK : ∀ pc l st h z kc ks, K pc l st h z kc ks → xEx G M pc l st h z kc ks Q) (hs : x_s G M P Q .baload n ts pc l st h z kc ks K) : xEx G M pc l st h z kc ks Q := by
  obtain ⟨rfl, k⟩ := hs
  split at k
  · unfold x_aB at k
    split at k
    · obtain ⟨e, k1, k⟩ := k
      rcases e with rfl | rfl
      · exact x_bald ‹_› k1 hd (hK _ _ _ _ _ _ _ k)
      · exact x_zald ‹_› k1 hd (hK _ _ _ _ _ _ _ k)
    · exact k.elim
  · exact k.elim
theorem xs_laload (hd : decode (m_c M) pc = .ok (.laload, n)) (hK : ∀ pc l st h z kc ks, K pc l st h z kc ks → xEx G M pc l st h z kc ks Q) (hs : x_s G M P Q .laload n ts pc l st h z kc ks K) : xEx G M pc l st h z kc ks Q := by
  obtain ⟨rfl, k⟩ := hs
  split at k
  · unfold x_aJ at k
    split at k
    · obtain ⟨rfl, k1, k⟩ := k
      exact x_lald ‹_› k1 hd (hK _ _ _ _ _ _ _ k)
    · exact k.elim
  · exact k.elim
theorem xs_iastore (hd : decode (m_c M) pc = .ok (.iastore, n)) (hK : ∀ pc l st h z kc ks, K pc l st h z kc ks → xEx G M pc l st h z kc ks Q) (hs : x_s G M P Q .iastore n ts pc l st h z kc ks K) : xEx G M pc l st h z kc ks Q := by
  obtain ⟨rfl, k⟩ := hs
  split at k
  · unfold x_wI at k
    split at k
    · obtain ⟨rfl, k1, k⟩ := k
      exact x_iast ‹_› k1 hd (hK _ _ _ _ _ _ _ k)
    · exact k.elim
  · exact k.elim
theorem xs_bastore (hd : decode (m_c M) pc = .ok (.bastore, n)) (hK : ∀ pc l st h z kc ks, K pc l st h z kc ks → xEx G M pc l st h z kc ks Q) (hs : x_s G M P Q .bastore n ts pc l st h z kc ks K) : xEx G M pc l st h z kc ks Q := by
  obtain ⟨rfl, k⟩ := hs
  split at k
  · unfold x_wB at k
    split at k
    · obtain ⟨e, k1, k⟩ := k
      rcases e with rfl | rfl
      · exact x_bast ‹_› k1 hd (hK _ _ _ _ _ _ _ k)
      · exact x_zast ‹_› k1 hd (hK _ _ _ _ _ _ _ k)
    · exact k.elim
  · exact k.elim
theorem xs_lastore (hd : decode (m_c M) pc = .ok (.lastore, n)) (hK : ∀ pc l st h z kc ks, K pc l st h z kc ks → xEx G M pc l st h z kc ks Q) (hs : x_s G M P Q .lastore n ts pc l st h z kc ks K) : xEx G M pc l st h z kc ks Q := by
  obtain ⟨rfl, k⟩ := hs
  split at k
  · unfold x_wJ at k
    split at k
    · obtain ⟨rfl, k1, k⟩ := k
      exact x_last ‹_› k1 hd (hK _ _ _ _ _ _ _ k)
    · exact k.elim
  · exact k.elim
theorem xs_arraylength (hd : decode (m_c M) pc = .ok (.arraylength, n)) (hK : ∀ pc l st h z kc ks, K pc l st h z kc ks → xEx G M pc l st h z kc ks Q) (hs : x_s G M P Q .arraylength n ts pc l st h z kc ks K) : xEx G M pc l st h z kc ks Q := by
  obtain ⟨rfl, k⟩ := hs
  split at k
  · unfold x_al at k
    split at k
    · exact x_alenI k.1 ‹_› hd (hK _ _ _ _ _ _ _ k.2)
    · obtain ⟨rfl, k⟩ := k
      exact x_alenJ ‹_› hd (hK _ _ _ _ _ _ _ k)
    · exact k.elim
  · exact k.elim
theorem xs_newarray {t : ArrayType} (hd : decode (m_c M) pc = .ok (.newarray t, n)) (harr : ∀ ty, ty = .int ∨ ty = .byte ∨ ty = .boolean ∨ ty = .long → newarray.typeOf t = ty → Cond.arrayClass ty ∈ m_w M) (hK : ∀ pc l st h z kc ks, K pc l st h z kc ks → xEx G M pc l st h z kc ks Q) (hs : x_s G M P Q (.newarray t) n ts pc l st h z kc ks K) : xEx G M pc l st h z kc ks Q := by
  obtain ⟨rfl, k⟩ := hs
  split at k
  · obtain ⟨k1, k2, k3, k4, k⟩ := k
    unfold x_na at k
    split at k
    · exact x_newI (harr .int (by simp) rfl) k1 rfl (by show _ * 4 ≤ _; omega) k2 k3 hd (hK _ _ _ _ _ _ _ k)
    · exact x_newB (harr .byte (by simp) rfl) k1 rfl (by show _ * 1 ≤ _; omega) k2 k3 hd (hK _ _ _ _ _ _ _ k)
    · exact x_newZ (harr .boolean (by simp) rfl) k1 rfl (by show _ * 1 ≤ _; omega) k2 k3 hd (hK _ _ _ _ _ _ _ k)
    · exact x_newJ (harr .long (by simp) rfl) k1 rfl (by show _ * 8 ≤ _; omega) k2 k3 hd (hK _ _ _ _ _ _ _ k)
    · exact k.elim
  · exact k.elim
theorem xs_new {j : Nat} (hd : decode (m_c M) pc = .ok (.new j, n)) (hP : xPok G M P) (hK : ∀ pc l st h z kc ks, K pc l st h z kc ks → xEx G M pc l st h z kc ks Q) (hs : x_s G M P Q (.new j) n ts pc l st h z kc ks K) : xEx G M pc l st h z kc ks Q := by
  obtain ⟨rfl, k⟩ := hs
  split at k
  · rename_i ci hci
    obtain ⟨C, T, N, e1, e2, e3, e4, e5⟩ := hP.2.2.2.1 _ _ hci
    rw [e1] at k
    obtain ⟨k1, k2, k⟩ := k
    exact x_new e1 e2 e3 e4 e5 k1 k2 (fun i hi => by simp [vp_V, hi]) hd (hK _ _ _ _ _ _ _ k)
  · exact k.elim
theorem xs_ireturn (hd : decode (m_c M) pc = .ok (.ireturn, n)) (hs : x_s G M P Q .ireturn n ts pc l st h z kc ks K) : xEx G M pc l st h z kc ks Q := by
  obtain ⟨rfl, k⟩ := hs
  split at k
  · exact x_iret ‹_› k.1 hd k.2
  · exact k.elim
theorem xs_lreturn (hd : decode (m_c M) pc = .ok (.lreturn, n)) (hs : x_s G M P Q .lreturn n ts pc l st h z kc ks K) : xEx G M pc l st h z kc ks Q := by
  obtain ⟨rfl, k⟩ := hs
  split at k
  · exact x_lret ‹_› hd k
  · exact k.elim
theorem xs_areturn (hd : decode (m_c M) pc = .ok (.areturn, n)) (hs : x_s G M P Q .areturn n ts pc l st h z kc ks K) : xEx G M pc l st h z kc ks Q := by
  obtain ⟨rfl, k⟩ := hs
  split at k
  · exact x_aret ‹_› hd k
  · exact k.elim
theorem xs_return (hd : decode (m_c M) pc = .ok (.return_, n)) (hs : x_s G M P Q .return_ n ts pc l st h z kc ks K) : xEx G M pc l st h z kc ks Q := by
  obtain ⟨rfl, k⟩ := hs
  split at k
  · exact x_vret ‹_› hd k
  · exact k.elim
end XS
