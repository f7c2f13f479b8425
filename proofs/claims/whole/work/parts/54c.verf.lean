/-! ===== PURE: the other one verifies a function ===== -/
section
variable {s : yS} {g f n : Nat} {l : List Fn}
theorem vOK.dr {V : VS} {i : Nat} (ho : vOK n V) : vOK n (V.1, upF V.2 i false) := by
  refine ⟨fun j hj => ?_, ho.2⟩
  have hj : upF V.2 i false j = true := hj
  by_cases c : j = i
  · subst c; rw [upF_at] at hj; exact absurd hj (by decide)
  · rw [upF_ne c] at hj; exact ho.1 j hj
theorem vOK.nn {V : VS} {i : Nat} (ho : vOK n V) (h : n ≤ i) : V.1 i = none := by
  cases hv : V.1 i with
  | none => rfl
  | some st => have := (ho.2 i st hv).2; omega
theorem c_verifyFunction {Q : yS → Prop} (hc : vcC s g f l) (hok : pgOK l) (hf : f < l.length) (hD : ∀ i, i < (fC l[f]).length → (sI s (g + 9)) (f * 400 + i) = -1 ∧ (sI s (g + 10)) (f * 400 + i) = 0)
    (H1 : ∀ V, vFun l l[f] f = .ok V → ∀ s', frM (dVk g f (fC l[f]).length) s s' → vsC s' g f (fC l[f]).length V → Q s')
    (H0 : ∀ e, vFun l l[f] f = .error e → ∀ s', frM (dVr g f (fC l[f]).length) s s' → erV s' e → Q s') : W_X9_verifyFunction s Q := by
  obtain ⟨hg, hr, hfn, hp⟩ := id hc
  have hgv : g = 37 ∨ g = 55 ∨ g = 73 := hg
  obtain ⟨ok1, ok2, ok3, ok4⟩ := id hok
  have hfo := ok3 f hf
  have hc1 := hfo.2.2.2.2.2.2.2.1
  have hc400 := hfo.2.2.2.2.2.2.2.2.1
  have hfm := hp.2 f hf
  have hsz := hfm.2.2.2.2.1
  have kr : ∀ {u t : yS}, frM (dVk g f (fC l[f]).length) u t → frM (dVr g f (fC l[f]).length) u t := fun h => h.mono (fun a i h => by unfold dVk at h; unfold dVr; omega)
  unfold W_X9_verifyFunction
  refine ⟨g, hr, hg.kd, ?_⟩
  rw [hfn, nI_ix (n := f) (by omega), hsz]
  refine ⟨nI_inU (by omega) (by omega), ?_⟩
  intro x3 e3 P15 hP15
  subst e3
  -- behind the first loop
  have fin : ∀ s5 : yS, frM (fun a _ => a = 115) s s5 → (∀ j, j < (fC l[f]).length → (sI s5 115) j = 0) → P15 (nI (fC l[f]).length) s5 := by
    intro s5 F5 w5
    apply hP15
    rw [nI_leU (by omega) (by omega)]
    refine ⟨fun _ => ?_, fun hz => absurd (Nat.le_refl _) hz⟩
    intro s6 e6
    have F6 : frM (dVk g f (fC l[f]).length) s s6 := by
      subst e6
      exact (F5.mono (fun a i h => by unfold dVk; omega)).wI (by unfold dVk; omega)
    have c6 : vcC s6 g f l := hc.fr (kr F6)
    have V6 : vsC s6 g f (fC l[f]).length (fun _ => none, fun _ => false) := fun i hi => by
      subst e6
      refine ⟨?_, ?_, ?_⟩
      · rw [sI_w, if_neg (by omega), F5.1 _ _ (by omega), (hD i hi).1]; rfl
      · rw [sI_w, if_neg (by omega), F5.1 _ _ (by omega), (hD i hi).2]; rfl
      · rw [sI_w, if_neg (by omega), w5 i hi]; rfl
    have L6 : lsC s6 (fC l[f]).length 0 (fun _ => none, fun _ => false) := ⟨by subst e6; rw [sI_w, if_pos ⟨rfl, rfl⟩]; rfl, by omega, fun j hj => by omega⟩
    have o6 : vOK (fC l[f]).length (fun _ => none, fun _ => false) := ⟨fun i h => absurd h Bool.false_ne_true, fun i st h => no_so h⟩
    refine c_comeTo (i := 0) (st := []) hg c6.2.1 (by omega) c6.2.2.1 hc400 hc1 (Nat.zero_le _) V6 L6 o6 ?_ (fun hno => so_no hno)
    intro V1 hV1 s8 L8 F8 V8 l8
    have hV0 : V1 = V0 := (Option.some.inj hV1).symm
    subst hV0
    have F8' : frM (dVk g f (fC l[f]).length) s s8 := F6.trans (F8.mono (fun a i h => by unfold dVk; omega))
    intro P50 hP50
    -- the rounds
    suffices hR : ∀ (r k : Nat) (V : VS) (L : Nat) (s11 : yS), k + r = (fC l[f]).length → vFun l l[f] f = vLoop l l[f] f r V → frM (dVk g f (fC l[f]).length) s s11 → vsC s11 g f (fC l[f]).length V → lsC s11 (fC l[f]).length L V → vOK (fC l[f]).length V → P50 1 (nI k) s11 from
      hR (fC l[f]).length 0 V0 L8 s8 (by omega) rfl F8' V8 l8 (V0_ok hc1)
    intro r
    induction r with
    | zero =>
      intro k V L s11 hk hv F11 V11 l11 o11
      apply hP50
      rw [nI_leU (by omega) (by omega)]
      exact ⟨fun _ => H1 V hv s11 F11 V11, fun hz => absurd (by omega) hz⟩
    | succ r ih =>
      intro k V L s11 hk hv F11 V11 l11 o11
      apply hP50
      rw [nI_leU (by omega) (by omega)]
      refine ⟨fun hz => absurd hz (by omega), fun _ => ?_⟩
      intro P59 hP59
      refine ⟨fun hz => absurd hz (by decide), fun _ => ?_⟩
      suffices hS : ∀ (q L : Nat) (s12 : yS), L + q = (fC l[f]).length → frM (dVk g f (fC l[f]).length) s s12 → vsC s12 g f (fC l[f]).length V → lsC s12 (fC l[f]).length L V → P59 s12 from
        hS ((fC l[f]).length - L) L s11 (by have := l11.2.1; omega) F11 V11 l11
      intro q
      induction q with
      | zero =>
        intro L s12 hL F12 V12 l12
        apply hP59
        intro P92 hP92
        have hl := l12.1
        rw [show L = (fC l[f]).length by omega] at hl
        rw [hl, nI_leU (by omega) (by omega)]
        refine ⟨fun _ => hP92 ⟨fun hz => absurd hl hz, fun _ => ?_⟩, fun hz => absurd (Nat.le_refl _) hz⟩
        refine H1 V ?_ s12 F12 V12
        rw [hv, vLoop, lsW_no (fun j hj => l12.2.2 j (by omega))]
      | succ q ih2 =>
        intro L s12 hL F12 V12 l12
        have hLn : L < (fC l[f]).length := by omega
        have c12 : vcC s12 g f l := hc.fr (kr F12)
        have hin : vp_in (nI L) 400 := nI_inU (by omega) (by omega)
        apply hP59
        intro P92 hP92
        rw [l12.1] at hP92 ⊢
        rw [nI_ix (n := L) (by omega)] at hP92 ⊢
        rw [nI_inj (by omega) (by omega)] at hP92
        rw [nI_leU (by omega) (by omega)]
        refine ⟨fun hz => absurd hz (by omega), fun _ => ⟨hin, ?_⟩⟩
        rw [(V12 L hLn).2.2]
        cases hw : V.2 L with
        | false =>
          refine ⟨fun hz => absurd rfl hz, fun _ => ?_⟩
          rw [nI_s]
          intro s19 e19
          have F19 : frM (fun a i => a = 114 ∧ i = 6) s12 s19 := by subst e19; exact frM.rfl'.wI ⟨rfl, rfl⟩
          refine ih2 (L + 1) s19 (by omega) (F12.trans (F19.mono (fun a i h => by unfold dVk; omega))) (fun i hi => ⟨(F19.1 _ _ (by omega)).trans (V12 i hi).1, (F19.1 _ _ (by omega)).trans (V12 i hi).2.1, (F19.1 _ _ (by omega)).trans (V12 i hi).2.2⟩) ⟨by subst e19; rw [sI_w, if_pos ⟨rfl, rfl⟩], by omega, fun j hj => ?_⟩
          by_cases c : j = L
          · subst c; exact hw
          · exact l12.2.2 j (by omega)
        | true =>
          refine ⟨fun _ => hP92 ⟨fun _ => ⟨hin, ?_⟩, fun hz => absurd hz (by omega)⟩, fun hz => absurd hz (by decide)⟩
          intro s14 e14
          have F14 : frM (fun a i => a = 115) s12 s14 := by subst e14; exact frM.rfl'.wI rfl
          have hls : lsW (fC l[f]).length V.2 = some L := lsW_of hLn hw l12.2.2
          obtain ⟨st, hst⟩ : ∃ st, V.1 L = some st := by
            cases hq : V.1 L with
            | none => exact absurd hq (o11.1 L hw)
            | some st => exact ⟨st, rfl⟩
          have F14' : frM (dVk g f (fC l[f]).length) s s14 := F12.trans (F14.mono (fun a i h => by unfold dVk; omega))
          have c14 : vcC s14 g f l := hc.fr (kr F14')
          have V14 : vsC s14 g f (fC l[f]).length (V.1, upF V.2 L false) := fun i hi => by
            refine ⟨(F14.1 _ _ (by omega)).trans (V12 i hi).1, (F14.1 _ _ (by omega)).trans (V12 i hi).2.1, ?_⟩
            show _ = bI (upF V.2 L false i)
            by_cases c : i = L
            · subst c; rw [upF_at]; subst e14; rw [sI_w, if_pos ⟨rfl, rfl⟩]; rfl
            · rw [upF_ne c]; subst e14; rw [sI_w, if_neg (by omega)]; exact (V12 i hi).2.2
          have l14 : lsC s14 (fC l[f]).length L (V.1, upF V.2 L false) := ⟨(F14.1 _ _ (by omega)).trans l12.1, by omega, fun j hj => by
            show upF V.2 L false j = false
            rw [upF_ne (by omega)]; exact l12.2.2 j hj⟩
          have o14 : vOK (fC l[f]).length (V.1, upF V.2 L false) := o11.dr
          have hv2 : vFun l l[f] f = bnd (vLook l l[f] f L st (fC l[f])[L] (V.1, upF V.2 L false)) (vLoop l l[f] f r) := by
            rw [hv, vLoop, hls]; dsimp only; rw [hst, getD_at hLn]; rfl
          rw [l14.1]
          refine c_look (V := (V.1, upF V.2 L false)) c14 hok hf hLn hst V14 l14 o14 (fun V' hV' s' L' F' V'' l' => ?_) (fun e he s' F' b' => ?_)
          · intro x17 e17; subst e17; rw [nI_s]
            refine ih (k + 1) V' L' s' (by omega) (by rw [hv2, hV']; rfl) (F14'.trans F') V'' l' (vLook_step hfo hV' o14 hLn rfl hst).1.2.1
          · intro x17 e17; subst e17; rw [nI_s]
            have hq : Q s' := H0 e (by rw [hv2, he]; rfl) s' ((kr F14').trans F') b'
            apply hP50
            exact ⟨fun _ => hq, fun _ => fun P59 hP59 => ⟨fun _ => hq, fun hz => absurd rfl hz⟩⟩
  suffices hL : ∀ (r k : Nat) (s5 : yS), k + r = (fC l[f]).length → frM (fun a _ => a = 115) s s5 → (∀ j, j < k → (sI s5 115) j = 0) → P15 (nI k) s5 from
    hL (fC l[f]).length 0 s (by omega) frM.rfl' (fun j hj => by omega)
  intro r
  induction r with
  | zero =>
    intro k s5 hk F5 w5
    rw [show k = (fC l[f]).length by omega]
    exact fin s5 F5 (fun j hj => w5 j (by omega))
  | succ r ih =>
    intro k s5 hk F5 w5
    apply hP15
    rw [nI_leU (by omega) (by omega)]
    refine ⟨fun hz => absurd hz (by omega), fun _ => ⟨nI_inU (by omega) (by omega), ?_⟩⟩
    rw [nI_ix (n := k) (by omega)]
    intro s21 e21 x22 e22
    subst e22; rw [nI_s]
    refine ih (k + 1) s21 (by omega) (by subst e21; exact F5.wI rfl) (fun j hj => ?_)
    subst e21
    by_cases c : j = k
    · subst c; rw [sI_w, if_pos ⟨rfl, rfl⟩]; rfl
    · rw [sI_w, if_neg (by omega)]; exact w5 j (by omega)
/-! all functions -/
def vAt (l : List Fn) (k : Nat) : Option (Nat × Nat) := match vFun l (l.getD k dFn) k with
  | .error e => some e
  | .ok _ => none
/-- the first fault of a program's functions -/
def vAll (l : List Fn) : Option (Nat × Nat) := (List.range l.length).findSome? (vAt l)
/-- the stacks -/
def vTy (l : List Fn) (f : Nat) : Nat → Option (List Bool) := match vFun l (l.getD f dFn) f with
  | .ok V => V.1
  | .error _ => fun _ => none
theorem vCom_err {x : Fn} {i : Nat} {st : List Bool} {V : VS} {e : Nat × Nat} (h : vCom f i st V = .error e) : e = (7, 512 * f + i) := by
  unfold vCom at h
  split at h
  · cases h; rfl
  · exact ok_er h
theorem bnd_err {α β : Type} {x : PE α} {k : α → PE β} {e : Nat × Nat} (h : bnd x k = .error e) : x = .error e ∨ ∃ a, x = .ok a ∧ k a = .error e := by
  cases x with
  | error e' =>
    have h : (Except.error e' : PE β) = .error e := h
    cases h; exact Or.inl rfl
  | ok a => exact Or.inr ⟨a, rfl, h⟩
theorem vHs_err {i : Nat} {e : Nat × Nat} : ∀ (hs : List Hn) (V : VS), vHs f i hs V = .error e → ∃ j, e = (7, 512 * f + j)
  | [], V, h => ok_er h
  | k :: hs, V, h => by
    rw [vHs] at h
    split at h
    · rcases bnd_err h with h | ⟨a, _, h⟩
      · exact ⟨_, vCom_err (x := dFn) h⟩
      · exact vHs_err hs a h
    · exact vHs_err hs V h
theorem vLook_err {x : Fn} {i : Nat} {st : List Bool} {y : Nat × Int32} {V : VS} {e : Nat × Nat} (h : vLook l x f i st y V = .error e) : 5 ≤ e.1 ∧ e.1 ≤ 8 := by
  unfold vLook at h
  split at h
  · cases h; exact ⟨Nat.le_refl _, by omega⟩
  · split at h
    · cases h; exact ⟨by omega, by omega⟩
    · rcases bnd_err h with h | ⟨a, _, h⟩
      · obtain ⟨j, hj⟩ := vHs_err _ _ h; subst hj; exact ⟨by omega, by omega⟩
      · unfold vEnd at h
        rcases bnd_err h with h | ⟨b, _, h⟩
        · split at h
          · have := vCom_err (x := dFn) h; subst this; exact ⟨by omega, by omega⟩
          · exact ok_er h
        · split at h
          · exact ok_er h
          · split at h
            · cases h; exact ⟨by omega, by omega⟩
            · have := vCom_err (x := dFn) h; subst this; exact ⟨by omega, by omega⟩
theorem vLoop_err {x : Fn} {e : Nat × Nat} : ∀ (r : Nat) (V : VS), vLoop l x f r V = .error e → 5 ≤ e.1 ∧ e.1 ≤ 8
  | 0, V, h => ok_er h
  | r + 1, V, h => by
    rw [vLoop] at h
    split at h
    · exact ok_er h
    · rcases bnd_err h with h | ⟨a, _, h⟩
      · exact vLook_err h
      · exact vLoop_err r a h
theorem vFun_err {x : Fn} {e : Nat × Nat} (h : vFun l x f = .error e) : 5 ≤ e.1 ∧ e.1 ≤ 8 := vLoop_err _ _ h
theorem vAll_err {k : Nat} {e : Nat × Nat} (hk : k < l.length) (hn : ∀ j, j < k → vAt l j = none) (he : vAt l k = some e) : vAll l = some e := by
  unfold vAll
  rw [List.findSome?_eq_some_iff]
  refine ⟨List.range k, k, (List.range (l.length - (k + 1))).map (fun j => k + 1 + j), ?_, he, fun j hj => hn j (List.mem_range.mp hj)⟩
  apply List.ext_getElem
  · rw [List.length_append, List.length_cons, List.length_map, List.length_range, List.length_range, List.length_range]; omega
  · intro i h1 h2
    rw [List.getElem_range]
    rw [List.length_range] at h1
    by_cases c : i < k
    · rw [List.getElem_append_left (by rw [List.length_range]; exact c), List.getElem_range]
    · rw [List.getElem_append_right (by rw [List.length_range]; omega)]
      simp only [List.length_range]
      by_cases c2 : i = k
      · subst c2; simp only [Nat.sub_self, List.getElem_cons_zero]
      · obtain ⟨q, rfl⟩ : ∃ q, i = k + 1 + q := ⟨i - k - 1, by omega⟩
        have : k + 1 + q - k = q + 1 := by omega
        simp only [this, List.getElem_cons_succ, List.getElem_map, List.getElem_range]
theorem vAll_none (hn : ∀ j, j < l.length → vAt l j = none) : vAll l = none := by
  unfold vAll
  rw [List.findSome?_eq_none_iff]
  intro j hj
  exact hn j (List.mem_range.mp hj)
theorem vAll_at (h : vAll l = none) {j : Nat} (hj : j < l.length) : vAt l j = none := by
  unfold vAll at h
  rw [List.findSome?_eq_none_iff] at h
  exact h j (List.mem_range.mpr hj)
theorem vTy_of {V : VS} (hf : f < l.length) (h : vFun l l[f] f = .ok V) : vTy l f = V.1 ∧ vAt l f = none := by
  unfold vTy vAt
  rw [getD_at hf, h]
  exact ⟨rfl, rfl⟩
theorem vAt_err {e : Nat × Nat} (hf : f < l.length) (h : vFun l l[f] f = .error e) : vAt l f = some e := by
  unfold vAt
  rw [getD_at hf, h]
theorem vAt_ok (hf : f < l.length) (h : vAt l f = none) : ∃ V, vFun l l[f] f = .ok V := by
  unfold vAt at h
  rw [getD_at hf] at h
  cases hv : vFun l l[f] f with
  | error e => rw [hv] at h; exact so_no h
  | ok V => exact ⟨V, rfl⟩
/-- a program whose functions are all right -/
theorem vTy_ty (hok : pgOK l) (h : vAll l = none) (hf : f < l.length) : tyF l l[f] (vTy l f) := by
  obtain ⟨V, hV⟩ := vAt_ok hf (vAll_at h hf)
  rw [(vTy_of hf hV).1]
  exact (vFun_ok (hok.2.2.1 f hf) hV).1
def tyD (s : yS) (g : Nat) (l : List Fn) : Prop := ∀ f, f < l.length → ∀ i, i < 400 → (sI s (g + 9)) (f * 400 + i) = dI (vTy l f i) ∧ (sI s (g + 10)) (f * 400 + i) = tI (vTy l f i)
def dVy (g a i : Nat) : Prop := (a = 114 ∧ (i ≤ 1 ∨ (3 ≤ i ∧ i ≤ 6))) ∨ a = 115 ∨ a = g + 9 ∨ a = g + 10
def frV (g : Nat) (s s' : yS) : Prop := (∀ a i, ¬ dVy g a i → sI s' a i = sI s a i) ∧ (∀ a i, ¬ dVy g a i → sJ s' a i = sJ s a i) ∧ ∀ a i, ¬ (a = 114 ∧ i = 2) → sR s' a i = sR s a i
theorem c_verify {Q : Int32 → yS → Prop} (hg : gOK g) (hp : pgC s g l) (hok : pgOK l)
    (H1 : vAll l = none → ∀ s', frV g s s' → tyD s' g l → (sI s' 114 1) = 0 → (sI s' 114 0) = -1 → Q 0 s')
    (H0 : ∀ e, vAll l = some e → ∀ s', frV g s s' → erV s' e → Q (nI e.1) s') : W_X9_verify s g Q := by
  have hgv : g = 37 ∨ g = 55 ∨ g = 73 := hg
  unfold W_X9_verify
  intro s1 e1 s2 e2 s3 e3
  have R3 : sR s3 114 2 = g + 1 := by subst e3; subst e2; subst e1; exact (sR_w.trans (if_pos ⟨rfl, rfl⟩))
  have fv3 : sI s3 114 1 = 0 := by subst e3; rw [sI_w, if_neg (by omega)]; subst e2; rw [sI_w, if_pos ⟨rfl, rfl⟩]
  have fp3 : sI s3 114 0 = -1 := by subst e3; rw [sI_w, if_pos ⟨rfl, rfl⟩]
  have F3 : frV g s s3 := by
    have h1 : frV g s s1 := by
      subst e1
      exact ⟨fun _ _ _ => rfl, fun _ _ _ => rfl, fun a i h => by rw [sR_w, if_neg h]⟩
    have h2 : frM (fun a i => a = 114 ∧ i ≤ 1) s1 s3 := by subst e3; subst e2; exact (frM.rfl'.wI (by omega)).wI (by omega)
    exact ⟨fun a i h => (h2.1 a i (fun hh => h (by unfold dVy; omega))).trans (h1.1 a i h), fun a i h => (h2.2.1 a i (fun hh => h (by unfold dVy; omega))).trans (h1.2.1 a i h), fun a i h => (h2.2.2 a i).trans (h1.2.2 a i h)⟩
  have nxt : ∀ {u t : yS}, frV g s u → frM (dVy g) u t → frV g s t := fun h1 h2 => ⟨fun a i h => (h2.1 a i h).trans (h1.1 a i h), fun a i h => (h2.2.1 a i h).trans (h1.2.1 a i h), fun a i h => (h2.2.2 a i).trans (h1.2.2 a i h)⟩
  clear e1 e2 e3
  refine c_fill (by omega) (fun s4 F4 v4 => ?_)
  refine c_fill (by omega) (fun s5 F5 v5 => ?_)
  have F5' : frM (dVy g) s3 s5 := (F4.mono (fun a i h => by unfold dVy; omega)).trans (F5.mono (fun a i h => by unfold dVy; omega))
  have w5 : ∀ f i, f < 12 → i < 400 → (sI s5 (g + 9)) (f * 400 + i) = -1 ∧ (sI s5 (g + 10)) (f * 400 + i) = 0 := fun f i hf hi => ⟨(F5.1 _ _ (by omega)).trans (v4 _ (by omega)), v5 _ (by omega)⟩
  have fv5 : sI s5 114 1 = 0 := by rw [F5.1 _ _ (by omega), F4.1 _ _ (by omega)]; exact fv3
  have fp5 : sI s5 114 0 = -1 := by rw [F5.1 _ _ (by omega), F4.1 _ _ (by omega)]; exact fp3
  have R5 : sR s5 114 2 = g + 1 := (F5'.2.2 _ _).trans R3
  intro P33 hP33
  obtain ⟨ok1, ok2, ok3, ok4⟩ := id hok
  have hpg : ∀ {t : yS}, frV g s t → pgC t g l := fun h => hp.fr (fun a i ha => h.1 a i (by unfold dVy; omega))
  suffices hL : ∀ (r k : Nat) (s7 : yS), k + r = l.length → frV g s s7 → sR s7 114 2 = g + 1 → sI s7 114 1 = 0 → sI s7 114 0 = -1 → (∀ j, j < k → vAt l j = none) → (∀ f, f < k → ∀ i, i < 400 → (sI s7 (g + 9)) (f * 400 + i) = dI (vTy l f i) ∧ (sI s7 (g + 10)) (f * 400 + i) = tI (vTy l f i)) → (∀ f, k ≤ f → f < 12 → ∀ i, i < 400 → (sI s7 (g + 9)) (f * 400 + i) = -1 ∧ (sI s7 (g + 10)) (f * 400 + i) = 0) → P33 (nI k) s7 from
    hL l.length 0 s5 (by omega) (nxt F3 F5') R5 fv5 fp5 (fun j hj => by omega) (fun f hf => by omega) (fun f _ hf i hi => w5 f i hf hi)
  intro r
  induction r with
  | zero =>
    intro k s7 hk F7 R7 fv7 fp7 n7 d7 w7
    have p7 := hpg F7
    apply hP33
    rw [p7.1, nI_leU (by omega) (by omega), fv7]
    exact ⟨fun _ => H1 (vAll_none (fun j hj => n7 j (by omega))) s7 F7 (fun f hf i hi => d7 f (by omega) i hi) fv7 fp7, fun hz => absurd (by omega) hz⟩
  | succ r ih =>
    intro k s7 hk F7 R7 fv7 fp7 n7 d7 w7
    have p7 := hpg F7
    have hkl : k < l.length := by omega
    apply hP33
    rw [p7.1, nI_leU (by omega) (by omega), fv7]
    refine ⟨fun hz => absurd hz (by omega), fun _ => ⟨fun hz => absurd rfl hz, fun _ => ?_⟩⟩
    intro s8 e8
    have F8 : frM (dVy g) s7 s8 := by subst e8; exact frM.rfl'.wI (by unfold dVy; omega)
    have p8 := hpg (nxt F7 F8)
    have n8 : ∀ a i, ¬ (a = 114 ∧ i = 3) → sI s8 a i = sI s7 a i := fun a i h => by subst e8; rw [sI_w, if_neg h]
    have c8 : vcC s8 g k l := ⟨hg, (F8.2.2 _ _).trans R7, by subst e8; rw [sI_w, if_pos ⟨rfl, rfl⟩], p8⟩
    have hfo := ok3 k hkl
    have hc400 := hfo.2.2.2.2.2.2.2.2.1
    have kr : ∀ {u t : yS}, frM (dVk g k (fC l[k]).length) u t → frM (dVr g k (fC l[k]).length) u t := fun h => h.mono (fun a i h => by unfold dVk at h; unfold dVr; omega)
    have ry : ∀ {u t : yS}, frM (dVr g k (fC l[k]).length) u t → frM (dVy g) u t := fun h => h.mono (fun a i h => by unfold dVr at h; unfold dVy; omega)
    refine c_verifyFunction c8 hok hkl (fun i hi => ?_) (fun V hV s9 F9 V9 => ?_) (fun e he s9 F9 b9 => ?_)
    · rw [n8 _ _ (by omega), n8 _ _ (by omega)]; exact w7 k (by omega) (by omega) i (by omega)
    · intro x10 e10; subst e10; rw [nI_s]
      have hv := vTy_of hkl hV
      have hov := vLoop_ok hfo _ _ _ hV (V0_ok hfo.2.2.2.2.2.2.2.1) (by
        intro i hi
        left
        show upF (fun _ => false) 0 true i = true
        by_cases c : i = 0
        · subst c; exact upF_at
        · exfalso; apply hi; show upF (fun _ => none) 0 (some []) i = none; rw [upF_ne c])
      have kp : ∀ a i, ¬ dVk g k (fC l[k]).length a i → ¬ (a = 114 ∧ i = 3) → sI s9 a i = sI s7 a i := fun a i h1 h2 => (F9.1 a i h1).trans (n8 a i h2)
      refine ih (k + 1) s9 (by omega) (nxt F7 (F8.trans (ry (kr F9)))) ((F9.2.2 _ _).trans c8.2.1) ((kp _ _ (by unfold dVk; omega) (by omega)).trans fv7) ((kp _ _ (by unfold dVk; omega) (by omega)).trans fp7) (fun j hj => ?_) (fun f hf i hi => ?_) (fun f hf1 hf2 i hi => ?_)
      · by_cases c : j = k
        · subst c; exact hv.2
        · exact n7 j (by omega)
      · by_cases c : f = k
        · subst c
          rw [hv.1]
          by_cases ci : i < (fC l[f]).length
          · exact ⟨(V9 i ci).1, (V9 i ci).2.1⟩
          · rw [hov.2.1.nn (by omega), kp _ _ (by unfold dVk; omega) (by omega), kp _ _ (by unfold dVk; omega) (by omega)]
            exact w7 f (Nat.le_refl _) (by omega) i hi
        · rw [kp _ _ (by unfold dVk; omega) (by omega), kp _ _ (by unfold dVk; omega) (by omega)]
          exact d7 f (by omega) i hi
      · rw [kp _ _ (by unfold dVk; omega) (by omega), kp _ _ (by unfold dVk; omega) (by omega)]
        exact w7 f (by omega) hf2 i hi
    · intro x10 e10; subst e10; rw [nI_s]
      have hall : vAll l = some e := vAll_err hkl n7 (vAt_err hkl he)
      have F9' := nxt F7 (F8.trans (ry F9))
      have p9 := hpg F9'
      have hq := H0 e hall s9 F9' b9
      have hne : ¬ sI s9 114 1 = 0 := by
        have h58 := vFun_err he
        rw [b9.1, nI_0U, nI_inj (by omega) (by omega)]; omega
      apply hP33
      rw [b9.1] at hne ⊢
      exact ⟨fun _ => hq, fun _ => ⟨fun _ => hq, fun hz => absurd hz hne⟩⟩
end
