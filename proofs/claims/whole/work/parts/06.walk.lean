/-! ===== a stretch of instructions ===== -/
theorem xs_ok {G : xG} {M : xM} {P : xP} {Q : xQ} {n pc : Nat} {ts : List Nat} {l : List (Nat × Value)} {st : List Value} {h : xH} {z kc ks : Nat} {K : xKt} {i : Instr} (hd : decode (m_c M) pc = .ok (i, n)) (ht : x_tg pc i ts = true) (hna : x_naB M i = true) (hP : xPok G M P) (hK : ∀ pc l st h z kc ks, K pc l st h z kc ks → xEx G M pc l st h z kc ks Q) (hs : x_s G M P Q i n ts pc l st h z kc ks K) : xEx G M pc l st h z kc ks Q := by
  cases i with
  | iconst v => exact xs_iconst hd hK hs
  | bipush v => exact xs_bipush hd hK hs
  | sipush v => exact xs_sipush hd hK hs
  | lconst v => exact xs_lconst hd hK hs
  | ldc j => exact xs_ldc hd hP hK hs
  | ldc_w j => exact xs_ldc_w hd hP hK hs
  | ldc2_w j => exact xs_ldc2_w hd hP hK hs
  | iload j => exact xs_iload hd hK hs
  | lload j => exact xs_lload hd hK hs
  | aload j => exact xs_aload hd hK hs
  | iload_n j => exact xs_iload_n hd hK hs
  | lload_n j => exact xs_lload_n hd hK hs
  | aload_n j => exact xs_aload_n hd hK hs
  | istore j => exact xs_istore hd hK hs
  | lstore j => exact xs_lstore hd hK hs
  | astore j => exact xs_astore hd hK hs
  | istore_n j => exact xs_istore_n hd hK hs
  | lstore_n j => exact xs_lstore_n hd hK hs
  | astore_n j => exact xs_astore_n hd hK hs
  | iinc j v => exact xs_iinc hd hK hs
  | iadd => exact xs_iadd hd hK hs
  | isub => exact xs_isub hd hK hs
  | imul => exact xs_imul hd hK hs
  | iand => exact xs_iand hd hK hs
  | ior => exact xs_ior hd hK hs
  | ixor => exact xs_ixor hd hK hs
  | ishl => exact xs_ishl hd hK hs
  | ishr => exact xs_ishr hd hK hs
  | ladd => exact xs_ladd hd hK hs
  | lsub => exact xs_lsub hd hK hs
  | lmul => exact xs_lmul hd hK hs
  | land => exact xs_land hd hK hs
  | lor => exact xs_lor hd hK hs
  | lxor => exact xs_lxor hd hK hs
  | ineg => exact xs_ineg hd hK hs
  | lneg => exact xs_lneg hd hK hs
  | lshl => exact xs_lshl hd hK hs
  | lshr => exact xs_lshr hd hK hs
  | i2l => exact xs_i2l hd hK hs
  | l2i => exact xs_l2i hd hK hs
  | i2b => exact xs_i2b hd hK hs
  | idiv => exact xs_idiv hd hK hs
  | irem => exact xs_irem hd hK hs
  | lcmp => exact xs_lcmp hd hK hs
  | dup => exact xs_dup hd hK hs
  | pop => exact xs_pop hd hK hs
  | dup2 => exact xs_dup2 hd hK hs
  | iaload => exact xs_iaload hd hK hs
  | baload => exact xs_baload hd hK hs
  | laload => exact xs_laload hd hK hs
  | iastore => exact xs_iastore hd hK hs
  | bastore => exact xs_bastore hd hK hs
  | lastore => exact xs_lastore hd hK hs
  | arraylength => exact xs_arraylength hd hK hs
  | goto off => exact xs_goto hd ht hK hs
  | ifCond c off => exact xs_ifCond hd ht hK hs
  | if_icmp c off => exact xs_if_icmp hd ht hK hs
  | tableswitch d lo hi offs => exact xs_tableswitch hd ht hK hs
  | getfield j => exact xs_getfield hd hP hK hs
  | putfield j => exact xs_putfield hd hP hK hs
  | getstatic j => exact xs_getstatic hd hP hK hs
  | new j => exact xs_new hd hP hK hs
  | newarray t => exact xs_newarray hd (fun ty _ e => by subst e; simpa [x_naB] using hna) hK hs
  | ireturn => exact xs_ireturn hd hs
  | lreturn => exact xs_lreturn hd hs
  | areturn => exact xs_areturn hd hs
  | return_ => exact xs_return hd hs
  | _ => exact hs.elim
def xwp (G : xG) (M : xM) (P : xP) (T : xT) (cs : List Nat) (Q : xQ) : Nat → xKt
  | 0 => xKx G M Q
  | k + 1 => fun pc l st h z kc ks => match T.lookup pc with
    | none => xEx G M pc l st h z kc ks Q
    | some (i, n, ts) => x_s G M P Q i n ts pc l st h z kc ks (fun pc' l' st' h' z' kc' ks' => bif cs.elem pc' then xEx G M pc' l' st' h' z' kc' ks' Q else xwp G M P T cs Q k pc' l' st' h' z' kc' ks')
theorem x_lkT {T : xT} {pc : Nat} {v : Instr × Nat × List Nat} (h : T.lookup pc = some v) : (pc, v) ∈ T := by
  induction T with
  | nil => simp at h
  | cons q r ih =>
    obtain ⟨j, w⟩ := q
    rw [List.lookup_cons] at h
    by_cases hij : (pc == j) = true
    · rw [hij] at h
      have e1 : pc = j := by simpa using hij
      subst e1
      cases h
      exact List.mem_cons_self
    · rw [show (pc == j) = false by simpa using hij] at h
      exact List.mem_cons_of_mem _ (ih h)
theorem xwp_ok {G : xG} {M : xM} {P : xP} {T : xT} {cs : List Nat} {Q : xQ} (hT : xTok M T) (hP : xPok G M P) : ∀ (k pc : Nat) (l : List (Nat × Value)) (st : List Value) (h : xH) (z kc ks : Nat), xwp G M P T cs Q k pc l st h z kc ks → xEx G M pc l st h z kc ks Q := by
  intro k
  induction k with
  | zero => exact fun _ _ _ _ _ _ _ q => q
  | succ k ih =>
    intro pc l st h z kc ks q
    unfold xwp at q
    split at q
    · exact q
    · rename_i i n ts e
      obtain ⟨g1, g2, g3⟩ := hT _ (x_lkT e)
      refine xs_ok g1 g2 g3 hP (fun pc' l' st' h' z' kc' ks' r => ?_) q
      cases hc : cs.elem pc' with
      | true => rw [hc] at r; exact r
      | false => rw [hc] at r; exact ih _ _ _ _ _ _ _ r
