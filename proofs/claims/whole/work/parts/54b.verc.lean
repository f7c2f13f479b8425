/-! ===== PURE: the other one verifies ===== -/
theorem no_so {α : Type} {a : α} {P : Prop} (h : none = some a) : P := by cases h
theorem so_no {α : Type} {a : α} {P : Prop} (h : some a = none) : P := by cases h
theorem ok_er {α : Type} {a : α} {e : Nat × Nat} {P : Prop} (h : (Except.ok a : PE α) = .error e) : P := by cases h
theorem er_ok {α : Type} {a : α} {e : Nat × Nat} {P : Prop} (h : (Except.error e : PE α) = .ok a) : P := by cases h
def dI (o : Option (List Bool)) : Int32 := match o with
  | none => -1
  | some st => nI st.length
def tI (o : Option (List Bool)) : Int32 := match o with
  | none => 0
  | some st => enc st
theorem dI_none {o : Option (List Bool)} (h : ∀ st, o = some st → st.length ≤ 16) : (dI o = -1 ↔ o = none) ∧ (0 ≤ dI o ↔ o ≠ none) := by
  cases o with
  | none => exact ⟨⟨fun _ => rfl, fun _ => rfl⟩, ⟨fun hh => absurd hh (by decide), fun hh => absurd rfl hh⟩⟩
  | some st =>
    have := h st rfl
    exact ⟨⟨fun hh => absurd hh (nI_ne1 (n := st.length) (by omega)), fun hh => absurd hh (by simp)⟩, ⟨fun _ => by simp, fun _ => nI_ge0 (n := st.length) (by omega)⟩⟩
theorem dtI_eq {u st : List Bool} (hu : u.length ≤ 16) (hs : st.length ≤ 16) : (nI u.length = nI st.length ∧ enc u = enc st) ↔ u = st := by
  constructor
  · rintro ⟨h1, h2⟩
    rw [nI_inj (by omega) (by omega)] at h1
    exact enc_inj h1 (by omega) h2
  · intro h; subst h; exact ⟨rfl, rfl⟩
theorem tkQ_len {x : Fn} : ∀ {n : Nat} {st r : List Bool}, tkQ x n st = some r → st.length = r.length + n
  | 0, st, r, h => by rw [tkQ] at h; cases h; rfl
  | n + 1, st, r, h => by
    rw [tkQ, Option.bind_eq_some_iff] at h
    obtain ⟨u, h1, h2⟩ := h
    have := tkT_len h1
    have := tkQ_len h2
    omega
theorem chg_len {l : List Fn} {x : Fn} {o v : Nat} {st r : List Bool} (h : chg l x o v st = some r) : r.length ≤ st.length + 1 := by
  have L : ∀ (a : Bool) (u : List Bool), (a :: u).length = u.length + 1 := fun _ _ => rfl
  have mp : ∀ {q : Option (List Bool)} {t : Bool} {r : List Bool}, q.map (fun u => t :: u) = some r → ∃ u, q = some u ∧ r = t :: u := by
    intro q t r hh
    cases q with
    | none => exact no_so hh
    | some u => exact ⟨u, rfl, (Option.some.inj hh).symm⟩
  have g1 : chg l x o v st = some r := h
  clear h
  by_cases c : o = 0
  · unfold chg at g1; rw [if_pos c] at g1; rw [← Option.some.inj g1, L]; omega
  by_cases c1 : o = 1
  · unfold chg at g1; rw [if_neg c, if_pos c1] at g1
    cases st with
    | nil => exact no_so g1
    | cons a u => rw [← Option.some.inj g1, L]; omega
  by_cases c2 : o = 2
  · unfold chg at g1; rw [if_neg c, if_neg c1, if_pos c2] at g1
    cases st with
    | nil => exact no_so g1
    | cons a u => rw [← Option.some.inj g1, L, L]; omega
  by_cases c3 : o = 3
  · unfold chg at g1; rw [if_neg c, if_neg c1, if_neg c2, if_pos c3] at g1
    cases st with
    | nil => exact no_so g1
    | cons a u =>
      cases u with
      | nil => exact no_so g1
      | cons b w => rw [← Option.some.inj g1, L, L, L, L]; omega
  unfold chg at g1; rw [if_neg c, if_neg c1, if_neg c2, if_neg c3] at g1
  by_cases c4 : o = 4
  · rw [if_pos c4] at g1; rw [← Option.some.inj g1, L]; omega
  rw [if_neg c4] at g1
  by_cases c5 : o = 5
  · rw [if_pos c5] at g1; have := tkT_len g1; omega
  rw [if_neg c5] at g1
  by_cases c6 : o < 18
  · rw [if_pos c6] at g1; obtain ⟨u, h1, h2⟩ := mp g1; have := tkI_len h1; rw [h2, L]; omega
  rw [if_neg c6] at g1
  by_cases c7 : o = 18
  · rw [if_pos c7] at g1; rw [← Option.some.inj g1]; omega
  rw [if_neg c7] at g1
  by_cases c8 : o = 19 ∨ o = 20 ∨ o = 28
  · rw [if_pos c8] at g1; have := tkT_len g1; omega
  rw [if_neg c8] at g1
  by_cases c9 : o = 21
  · rw [if_pos c9] at g1; obtain ⟨u, h1, h2⟩ := mp g1; have := tkT_len h1; rw [h2, L]; omega
  rw [if_neg c9] at g1
  by_cases d1 : o = 22
  · rw [if_pos d1] at g1; obtain ⟨u, h1, h2⟩ := mp g1
    rw [Option.bind_eq_some_iff] at h1
    obtain ⟨w, h3, h4⟩ := h1
    have := tkT_len h3; have := tkT_len h4; rw [h2, L]; omega
  rw [if_neg d1] at g1
  by_cases d2 : o = 23
  · rw [if_pos d2, Option.bind_eq_some_iff] at g1
    obtain ⟨w, h3, h4⟩ := g1
    have := tkI_len h3; have := tkT_len h4; omega
  rw [if_neg d2] at g1
  by_cases d3 : o = 24
  · rw [if_pos d3] at g1; obtain ⟨u, h1, h2⟩ := mp g1; have := tkT_len h1; rw [h2, L]; omega
  rw [if_neg d3] at g1
  by_cases d4 : o = 25
  · rw [if_pos d4] at g1
    cases hq : tkQ (l.getD v dFn) (fP (l.getD v dFn)) st with
    | none => rw [hq] at g1; exact no_so g1
    | some u =>
      rw [hq] at g1
      have := tkQ_len hq
      have h : (if fR (l.getD v dFn) = 0 then u else rTy (l.getD v dFn) :: u) = r := Option.some.inj g1
      by_cases d : fR (l.getD v dFn) = 0
      · rw [if_pos d] at h; rw [← h]; omega
      · rw [if_neg d] at h; rw [← h, L]; omega
  rw [if_neg d4] at g1
  by_cases d5 : o = 26
  · rw [if_pos d5] at g1; obtain ⟨u, h1, h2⟩ := mp g1; have := tkI_len h1; rw [h2, L]; omega
  rw [if_neg d5] at g1
  by_cases d6 : o = 27
  · rw [if_pos d6] at g1
    by_cases d : fR x = 0
    · rw [if_pos d] at g1; rw [← Option.some.inj g1]; omega
    · rw [if_neg d] at g1; have := tkT_len g1; omega
  rw [if_neg d6] at g1
  cases hq : tkI (v % 4) st with
  | none => rw [hq] at g1; exact no_so g1
  | some u => rw [hq] at g1; rw [← (Option.some.inj g1 : st = r)]; omega
section
variable {s : yS} {g f n : Nat} {l : List Fn}
def vsC (s : yS) (g f n : Nat) (V : VS) : Prop := ∀ i, i < n → (sI s (g + 9)) (f * 400 + i) = dI (V.1 i) ∧ (sI s (g + 10)) (f * 400 + i) = tI (V.1 i) ∧ (sI s 115) i = bI (V.2 i)
def lsC (s : yS) (n L : Nat) (V : VS) : Prop := (sI s 114 6) = nI L ∧ L ≤ n ∧ ∀ j, j < L → V.2 j = false
def dVr (g f n a i : Nat) : Prop := (a = 114 ∧ (i = 0 ∨ i = 1 ∨ i = 4 ∨ i = 5 ∨ i = 6)) ∨ a = 115 ∨ ((a = g + 9 ∨ a = g + 10) ∧ f * 400 ≤ i ∧ i < f * 400 + n)
def dVk (g f n a i : Nat) : Prop := (a = 114 ∧ (i = 4 ∨ i = 5 ∨ i = 6)) ∨ a = 115 ∨ ((a = g + 9 ∨ a = g + 10) ∧ f * 400 ≤ i ∧ i < f * 400 + n)
def erV (s : yS) (e : Nat × Nat) : Prop := (sI s 114 1) = nI e.1 ∧ (sI s 114 0) = nI e.2
theorem c_refuseV {c i : Nat} {Q : Int32 → yS → Prop} (hfn : (sI s 114 3) = nI f) (H : ∀ s', frM (fun a i => a = 114 ∧ (i = 0 ∨ i = 1)) s s' → erV s' (c, 512 * f + i) → Q 0 s') : W_X9_refuse s (nI c) (nI i) Q := by
  unfold W_X9_refuse
  intro s1 e1
  have f1 : sI s1 114 3 = nI f := by subst e1; rw [sI_w, if_neg (by omega)]; exact hfn
  rw [f1, nI_mul, nI_addU]
  intro s2 e2
  refine H s2 (by subst e2; subst e1; exact (frM.rfl'.wI (by omega)).wI (by omega)) ⟨?_, ?_⟩
  · subst e2; rw [sI_w, if_neg (by omega)]; subst e1; rw [sI_w, if_pos ⟨rfl, rfl⟩]
  · subst e2; rw [sI_w, if_pos ⟨rfl, rfl⟩]
theorem c_comeTo {i L : Nat} {st : List Bool} {V : VS} {Q : Int32 → yS → Prop} (hg : gOK g) (hr : sR s 114 2 = g + 1) (hf : f < 12) (hfn : (sI s 114 3) = nI f) (hn : n ≤ 400) (hi : i < n) (hs : st.length ≤ 16) (hV : vsC s g f n V) (hL : lsC s n L V) (ho : vOK n V)
    (H1 : ∀ V', cmT i st V = some V' → ∀ s' L', frM (fun a k => (a = 114 ∧ k = 6) ∨ a = 115 ∨ ((a = g + 9 ∨ a = g + 10) ∧ f * 400 ≤ k ∧ k < f * 400 + n)) s s' → vsC s' g f n V' → lsC s' n L' V' → Q 1 s')
    (H0 : cmT i st V = none → ∀ s', frM (fun a i => a = 114 ∧ (i = 0 ∨ i = 1)) s s' → erV s' (7, 512 * f + i) → Q 0 s') : W_X9_comeTo s (nI i) (nI st.length) (enc st) Q := by
  have hgv : g = 37 ∨ g = 55 ∨ g = 73 := hg
  have hVi := hV i hi
  have hdn := dI_none (fun u hu => (ho.2 i u hu).1)
  have hin : vp_in (nI (f * 400 + i)) 4800 := nI_inU (by omega) (by omega)
  unfold W_X9_comeTo
  rw [hfn, nI_mul, nI_addU]
  intro x1 e1
  subst e1
  rw [nI_ix (n := f * 400 + i) (by omega)]
  refine ⟨g, hr, hg.kd, hin, ?_⟩
  rw [hVi.1, hdn.1]
  cases hm : V.1 i with
  | none =>
    refine ⟨fun hh => absurd rfl hh, fun _ => ⟨g, hr, hg.kd, hin, ?_⟩⟩
    intro s12 e12
    refine ⟨g, by subst e12; exact hr, hg.kd, hin, ?_⟩
    intro s15 e15
    rw [nI_ix (n := i) (by omega)]
    refine ⟨nI_inU (by omega) (by omega), ?_⟩
    intro s17 e17
    have l17 : sI s17 114 6 = nI L := by
      subst e17; rw [sI_w, if_neg (by omega)]; subst e15; rw [sI_w, if_neg (by omega)]; subst e12; rw [sI_w, if_neg (by omega)]; exact hL.1
    rw [l17]
    intro s18 e18
    have hc : cmT i st V = some (upF V.1 i (some st), upF V.2 i true) := by unfold cmT; rw [hm]
    have hLn := hL.2.1
    refine H1 _ hc s18 (if i < L then i else L) ?_ (fun k hk => ?_) ⟨?_, by split <;> omega, fun j hj => ?_⟩
    · subst e18; subst e17; subst e15; subst e12
      exact (((frM.rfl'.wI (by omega)).wI (by omega)).wI (by omega)).wI (by omega)
    · have hVk := hV k hk
      by_cases c : k = i
      · subst c
        refine ⟨?_, ?_, ?_⟩
        · show _ = dI (upF V.1 k (some st) k)
          rw [upF_at]
          subst e18; rw [sI_w, if_neg (by omega)]; subst e17; rw [sI_w, if_neg (by omega)]; subst e15; rw [sI_w, if_neg (by omega)]; subst e12; rw [sI_w, if_pos ⟨rfl, rfl⟩]; rfl
        · show _ = tI (upF V.1 k (some st) k)
          rw [upF_at]
          subst e18; rw [sI_w, if_neg (by omega)]; subst e17; rw [sI_w, if_neg (by omega)]; subst e15; rw [sI_w, if_pos ⟨rfl, rfl⟩]; rfl
        · show _ = bI (upF V.2 k true k)
          rw [upF_at]
          subst e18; rw [sI_w, if_neg (by omega)]; subst e17; rw [sI_w, if_pos ⟨rfl, rfl⟩]; rfl
      · refine ⟨?_, ?_, ?_⟩
        · show _ = dI (upF V.1 i (some st) k)
          rw [upF_ne c]
          subst e18; rw [sI_w, if_neg (by omega)]; subst e17; rw [sI_w, if_neg (by omega)]; subst e15; rw [sI_w, if_neg (by omega)]; subst e12; rw [sI_w, if_neg (by omega)]; exact hVk.1
        · show _ = tI (upF V.1 i (some st) k)
          rw [upF_ne c]
          subst e18; rw [sI_w, if_neg (by omega)]; subst e17; rw [sI_w, if_neg (by omega)]; subst e15; rw [sI_w, if_neg (by omega)]; subst e12; rw [sI_w, if_neg (by omega)]; exact hVk.2.1
        · show _ = bI (upF V.2 i true k)
          rw [upF_ne c]
          subst e18; rw [sI_w, if_neg (by omega)]; subst e17; rw [sI_w, if_neg (by omega)]; subst e15; rw [sI_w, if_neg (by omega)]; subst e12; rw [sI_w, if_neg (by omega)]; exact hVk.2.2
    · subst e18; rw [sI_w, if_pos ⟨rfl, rfl⟩]
      have hlt : nI i < nI L ↔ i < L := nI_ltU (by omega) (by omega)
      by_cases c : i < L
      · rw [if_pos c, if_pos (hlt.mpr c)]
      · rw [if_neg c, if_neg (fun hh => c (hlt.mp hh))]
    · show upF V.2 i true j = false
      have hji : j ≠ i := by intro hh; subst hh; split at hj <;> omega
      rw [upF_ne hji]
      exact hL.2.2 j (by split at hj <;> omega)
  | some u =>
    have hu := (ho.2 i u hm).1
    refine ⟨fun _ => ⟨g, hr, hg.kd, hin, ?_⟩, fun hh => absurd hh (by simp)⟩
    intro P97 hP97
    have no : u ≠ st → P97 := by
      intro hne
      apply hP97
      refine c_refuseV (c := 7) hfn (fun s7 F7 b7 => ⟨fun _ => H0 ?_ s7 F7 b7, fun hz => absurd rfl hz⟩)
      unfold cmT; rw [hm]; dsimp only; rw [if_neg hne]
    have hd : dI (some u) = nI u.length := rfl
    rw [hm] at hVi
    rw [hVi.1, hd]
    have key := dtI_eq hu hs
    refine ⟨fun hne => no (fun hh => hne (key.mpr hh).1), fun he => ⟨g, hr, hg.kd, hin, ?_⟩⟩
    rw [hVi.2.1]
    refine ⟨fun he2 => ?_, fun hne => no (fun hh => hne (key.mpr hh).2)⟩
    have hus : u = st := key.mp ⟨he, he2⟩
    refine H1 V ?_ s L frM.rfl' hV hL
    unfold cmT; rw [hm]; dsimp only; rw [if_pos hus]
/-- what stays as it is while a function is verified -/
def vcC (s : yS) (g f : Nat) (l : List Fn) : Prop := gOK g ∧ sR s 114 2 = g + 1 ∧ (sI s 114 3) = nI f ∧ pgC s g l
theorem pgC.fr {s' : yS} (h : pgC s g l) (h1 : ∀ a i, (a = g ∧ i = 0) ∨ (g + 1 ≤ a ∧ a ≤ g + 8) ∨ a = g + 11 ∨ (g + 13 ≤ a ∧ a ≤ g + 17) → sI s' a i = sI s a i) : pgC s' g l :=
  ⟨(h1 _ _ (by omega)).trans h.1, fun f hf => (h.2 f hf).fr (fun a h2 h3 => h1 _ _ (by omega)) (fun a i ha _ => h1 _ _ (by omega)) (fun a i h2 h3 _ => h1 _ _ (by omega))⟩
theorem vcC.fr {s' : yS} {n : Nat} (h : vcC s g f l) (F : frM (dVr g f n) s s') : vcC s' g f l := by
  have hgv : g = 37 ∨ g = 55 ∨ g = 73 := h.1
  exact ⟨h.1, (F.2.2 _ _).trans h.2.1, (F.1 _ _ (by unfold dVr; omega)).trans h.2.2.1, h.2.2.2.fr (fun a i ha => F.1 _ _ (by unfold dVr; omega))⟩
theorem c_look {i L : Nat} {V : VS} {st : List Bool} {Q : Int32 → yS → Prop} (hc : vcC s g f l) (hok : pgOK l) (hf : f < l.length) (hi : i < (fC l[f]).length) (hst : V.1 i = some st) (hV : vsC s g f (fC l[f]).length V) (hL : lsC s (fC l[f]).length L V) (ho : vOK (fC l[f]).length V)
    (H1 : ∀ V', vLook l l[f] f i st (fC l[f])[i] V = .ok V' → ∀ s' L', frM (dVk g f (fC l[f]).length) s s' → vsC s' g f (fC l[f]).length V' → lsC s' (fC l[f]).length L' V' → Q 1 s')
    (H0 : ∀ e, vLook l l[f] f i st (fC l[f])[i] V = .error e → ∀ s', frM (dVr g f (fC l[f]).length) s s' → erV s' e → Q 0 s') : W_X9_look s (nI i) Q := by
  obtain ⟨hg, hr, hfn, hp⟩ := id hc
  have hgv : g = 37 ∨ g = 55 ∨ g = 73 := hg
  obtain ⟨ok1, ok2, ok3, ok4⟩ := id hok
  have hfo := ok3 f hf
  have hc400 := hfo.2.2.2.2.2.2.2.2.1
  have hh6 := hfo.2.2.2.2.2.2.2.2.2.1
  have hio := hfo.2.2.2.2.2.2.2.2.2.2.1 _ (List.getElem_mem hi)
  have hho := hfo.2.2.2.2.2.2.2.2.2.2.2
  have hfm := hp.2 f hf
  have hfc := hfm.2.2.2.2.2.2.1 i hi
  have hVi := hV i hi
  rw [hst] at hVi
  have hst16 := (ho.2 i st hst).1
  have hin : vp_in (nI (f * 400 + i)) 4800 := nI_inU (by omega) (by omega)
  have hinf : vp_in (nI f) 12 := nI_inU (by omega) (by omega)
  unfold W_X9_look
  rw [hfn, nI_mul, nI_addU]
  intro x1 e1
  subst e1
  rw [nI_ix (n := f * 400 + i) (by omega)]
  refine ⟨g, hr, hg.kd, hin, ?_⟩
  rw [hfc.1]
  intro x4 e4
  subst e4
  refine ⟨g, hr, hg.kd, hin, ?_⟩
  rw [hVi.1]
  intro s7 e7
  refine ⟨g, by subst e7; exact hr, hg.kd, hin, ?_⟩
  have t7 : sI s7 (g + 10) (f * 400 + i) = enc st := by subst e7; rw [sI_w, if_neg (by omega)]; exact hVi.2.1
  rw [t7]
  intro s10 e10
  have F10 : frM dDt s s10 := by subst e10; subst e7; exact (frM.rfl'.wI (by unfold dDt; omega)).wI (by unfold dDt; omega)
  have k10 : skC s10 st := ⟨by subst e10; rw [sI_w, if_neg (by omega)]; subst e7; rw [sI_w, if_pos ⟨rfl, rfl⟩]; rfl, by subst e10; rw [sI_w, if_pos ⟨rfl, rfl⟩]⟩
  clear e10 e7
  have dt : ∀ {u t : yS}, frM dDt u t → frM (dVk g f (fC l[f]).length) u t := fun h => h.mono (fun a i h => by unfold dDt at h; unfold dVk; omega)
  have kr : ∀ {u t : yS}, frM (dVk g f (fC l[f]).length) u t → frM (dVr g f (fC l[f]).length) u t := fun h => h.mono (fun a i h => by unfold dVk at h; unfold dVr; omega)
  have c10 : vcC s10 g f l := hc.fr (kr (dt F10))
  refine ⟨g, c10.2.1, hg.kd, hin, ?_⟩
  rw [F10.1 (g + 8) _ (by unfold dDt; omega), hfc.2]
  generalize hy : (fC l[f])[i] = y at *
  refine c_change hg c10.2.1 hf c10.2.2.1 c10.2.2.2 hok hio k10 hst16 (fun r hcr s14 F14 k14 => ⟨fun _ => ?_, fun hz => absurd hz (by decide)⟩) (fun hcr s14 F14 => ⟨fun hz => absurd rfl hz, fun _ => ?_⟩)
  · have F14' : frM dDt s s14 := F10.trans F14
    have c14 : vcC s14 g f l := hc.fr (kr (dt F14'))
    have hrl := chg_len hcr
    rw [k14.1, nI_leU (by omega) (by omega)]
    refine ⟨fun h16 => ?_, fun h16 => ?_⟩
    · have hvl : vLook l l[f] f i st y V = bnd (vHs f i (fH l[f]) V) (vEnd f i (fC l[f]).length y.1 y.2 r) := by
        unfold vLook; rw [hcr]; dsimp only; rw [if_neg (by omega)]
      generalize vLook l l[f] f i st y V = R at hvl H1 H0
      intro P91 hP91
      have V14 : vsC s14 g f (fC l[f]).length V := fun k hk => ⟨(F14'.1 _ _ (by unfold dDt; omega)).trans (hV k hk).1, (F14'.1 _ _ (by unfold dDt; omega)).trans (hV k hk).2.1, (F14'.1 _ _ (by unfold dDt; omega)).trans (hV k hk).2.2⟩
      have L14 : lsC s14 (fC l[f]).length L V := ⟨(F14'.1 _ _ (by unfold dDt; omega)).trans hL.1, hL.2⟩
      have cmk : ∀ {u t : yS}, frM (fun a k => (a = 114 ∧ k = 6) ∨ a = 115 ∨ ((a = g + 9 ∨ a = g + 10) ∧ f * 400 ≤ k ∧ k < f * 400 + (fC l[f]).length)) u t → frM (dVk g f (fC l[f]).length) u t := fun h => h.mono (fun a i h => by unfold dVk; omega)
      -- behind the handlers
      have fin : ∀ (V1 : VS) (L1 : Nat) (s16 : yS), frM (dVk g f (fC l[f]).length) s s16 → skC s16 r → vsC s16 g f (fC l[f]).length V1 → lsC s16 (fC l[f]).length L1 V1 → vOK (fC l[f]).length V1 → R = vEnd f i (fC l[f]).length y.1 y.2 r V1 → P91 (nI (fH l[f]).length) s16 := by
        intro V1 L1 s16 F16 k16 V16 L16 o16 RR
        have c16 : vcC s16 g f l := hc.fr (kr F16)
        have h16' := (c16.2.2.2.2 f hf).2.2.2.2.2.1
        have hsz16 := (c16.2.2.2.2 f hf).2.2.2.2.1
        have hop16 := ((c16.2.2.2.2 f hf).2.2.2.2.2.2.1 i hi).2
        rw [hy] at hop16
        apply hP91
        refine ⟨g, c16.2.1, hg.kd, ?_⟩
        rw [c16.2.2.1, nI_ix (n := f) (by omega), h16', nI_leU (by omega) (by omega)]
        refine ⟨hinf, fun _ => ?_, fun hz => absurd (by omega) hz⟩
        have hcx : ∀ k, k ≤ 29 → (nI y.1 = nI k ↔ y.1 = k) := fun k hk => nI_inj (by have := hio.1; omega) (by omega)
        -- the last part: what follows
        have last : ∀ (V2 : VS) (L2 : Nat) (s20 : yS), frM (dVk g f (fC l[f]).length) s s20 → skC s20 r → vsC s20 g f (fC l[f]).length V2 → lsC s20 (fC l[f]).length L2 V2 → vOK (fC l[f]).length V2 → R = (if y.1 = 18 ∨ y.1 = 27 ∨ y.1 = 28 then .ok V2 else if i + 1 = (fC l[f]).length then .error (8, 512 * f + i) else vCom f (i + 1) r V2) → W_X5_goesOnBehind s20 (nI y.1) 
            (fun r21 => ((¬ r21 = 0 → ∃ p22 : Nat, sR s20 114 2 = p22 + 1 ∧ kd p22 = some (9, 0) ∧ 
             vp_in (sI s20 114 3) 12 ∧ 
             (((sI s20 (p22 + 5) (ix (sI s20 114 3))) ≤ (nI i + 1) → W_X9_refuse s20 (nI 8) (nI i) 
              (fun r24 s25 => zb r24 ∧ Q r24 s25))
             ∧ (¬ (sI s20 (p22 + 5) (ix (sI s20 114 3))) ≤ (nI i + 1) → W_X9_comeTo s20 (nI i + 1) (sI s20 114 4) (sI s20 114 5) 
              (fun r27 s28 => zb r27 ∧ Q r27 s28))))
            ∧ (r21 = 0 → Q 1 s20))) := by
          intro V2 L2 s20 F20 k20 V20 L20 o20 RR2
          have c20 : vcC s20 g f l := hc.fr (kr F20)
          have hsz20 := (c20.2.2.2.2 f hf).2.2.2.2.1
          unfold W_X5_goesOnBehind
          rw [hcx 18 (by omega), hcx 27 (by omega), hcx 28 (by omega)]
          have stop : (y.1 = 18 ∨ y.1 = 27 ∨ y.1 = 28) → Q 1 s20 := fun hh => by
            rw [if_pos hh] at RR2
            exact H1 V2 RR2 s20 L2 F20 V20 L20
          refine ⟨fun hh => ⟨fun hz => absurd rfl hz, fun _ => stop (Or.inl hh)⟩, fun n18 => ⟨fun hh => ⟨fun hz => absurd rfl hz, fun _ => stop (Or.inr (Or.inl hh))⟩, fun n27 => ⟨fun hh => ⟨fun hz => absurd rfl hz, fun _ => stop (Or.inr (Or.inr hh))⟩, fun n28 => ⟨fun _ => ⟨g, c20.2.1, hg.kd, ?_⟩, fun hz => absurd hz (by decide)⟩⟩⟩⟩
          rw [if_neg (by omega)] at RR2
          rw [c20.2.2.1, nI_ix (n := f) (by omega), hsz20, nI_s, nI_leU (by omega) (by omega), k20.1, k20.2]
          refine ⟨hinf, fun hle => ?_, fun hgt => ?_⟩
          · rw [if_pos (by omega)] at RR2
            refine c_refuseV (c := 8) c20.2.2.1 (fun s25 F25 b25 => ⟨Or.inl rfl, H0 _ RR2 s25 ((kr F20).trans (F25.mono (fun a i h => by unfold dVr; omega))) b25⟩)
          · rw [if_neg (by omega)] at RR2
            refine c_comeTo hg c20.2.1 (by omega) c20.2.2.1 hc400 (by omega) h16 V20 L20 o20 (fun V3 hV3 s28 L28 F28 V28 L28' => ⟨Or.inr rfl, ?_⟩) (fun hV3 s28 F28 b28 => ⟨Or.inl rfl, ?_⟩)
            · refine H1 V3 ?_ s28 L28 (F20.trans (cmk F28)) V28 L28'
              rw [RR2]; unfold vCom; rw [hV3]
            · refine H0 (7, 512 * f + (i + 1)) ?_ s28 ((kr F20).trans (F28.mono (fun a i h => by unfold dVr; omega))) b28
              rw [RR2]; unfold vCom; rw [hV3]
        unfold W_X5_isJump
        rw [hcx 18 (by omega), hcx 19 (by omega), hcx 20 (by omega)]
        have RRj : 17 < y.1 ∧ y.1 < 21 → R = bnd (vCom f (ix y.2) r V1) (fun V => if y.1 = 18 ∨ y.1 = 27 ∨ y.1 = 28 then .ok V else if i + 1 = (fC l[f]).length then .error (8, 512 * f + i) else vCom f (i + 1) r V) := fun hh => by
          rw [RR]; unfold vEnd; rw [if_pos hh]
        have RRn : ¬ (17 < y.1 ∧ y.1 < 21) → R = (if y.1 = 18 ∨ y.1 = 27 ∨ y.1 = 28 then .ok V1 else if i + 1 = (fC l[f]).length then .error (8, 512 * f + i) else vCom f (i + 1) r V1) := fun hh => by
          rw [RR]; unfold vEnd; rw [if_neg hh]; rfl
        have jump : 17 < y.1 ∧ y.1 < 21 → ∀ P193 : yS → Prop, (∀ (s20 : yS), (W_X5_goesOnBehind s20 (nI y.1) 
            (fun r21 => ((¬ r21 = 0 → ∃ p22 : Nat, sR s20 114 2 = p22 + 1 ∧ kd p22 = some (9, 0) ∧ 
             vp_in (sI s20 114 3) 12 ∧ 
             (((sI s20 (p22 + 5) (ix (sI s20 114 3))) ≤ (nI i + 1) → W_X9_refuse s20 (nI 8) (nI i) 
              (fun r24 s25 => zb r24 ∧ Q r24 s25))
             ∧ (¬ (sI s20 (p22 + 5) (ix (sI s20 114 3))) ≤ (nI i + 1) → W_X9_comeTo s20 (nI i + 1) (sI s20 114 4) (sI s20 114 5) 
              (fun r27 s28 => zb r27 ∧ Q r27 s28))))
            ∧ (r21 = 0 → Q 1 s20)))) → P193 s20) → ∃ p30 : Nat, sR s16 114 2 = p30 + 1 ∧ kd p30 = some (9, 0) ∧ 
              vp_in (nI (f * 400 + i)) 4800 ∧ 
              W_X9_comeTo s16 (sI s16 (p30 + 8) (f * 400 + i)) (sI s16 114 4) (sI s16 114 5) 
              (fun r32 s33 => ((¬ r32 = 0 → P193 s33)
              ∧ (r32 = 0 → Q 0 s33))) := by
          intro hh P193 hP193
          have RR1 := RRj hh
          obtain ⟨k, hk, ek⟩ := hio.2.2.1 hh
          refine ⟨g, c16.2.1, hg.kd, hin, ?_⟩
          rw [hop16, k16.1, k16.2, ek]
          rw [ek, nI_ix (by omega)] at RR1
          refine c_comeTo hg c16.2.1 (by omega) c16.2.2.1 hc400 hk h16 V16 L16 o16 (fun V3 hV3 s28 L28 F28 V28 L28' => ⟨fun _ => ?_, fun hz => absurd hz (by decide)⟩) (fun hV3 s28 F28 b28 => ⟨fun hz => absurd rfl hz, fun _ => ?_⟩)
          · apply hP193
            have k28 : skC s28 r := ⟨(F28.1 _ _ (by omega)).trans k16.1, (F28.1 _ _ (by omega)).trans k16.2⟩
            refine last V3 L28 s28 (F16.trans (cmk F28)) k28 V28 L28' (cmT_ok hV3 o16 hk h16) ?_
            rw [RR1]; unfold vCom; rw [hV3]; rfl
          · refine H0 (7, 512 * f + k) ?_ s28 ((kr F16).trans (F28.mono (fun a i h => by unfold dVr; omega))) b28
            rw [RR1]; unfold vCom; rw [hV3]; rfl
        have plain : ¬ (17 < y.1 ∧ y.1 < 21) → W_X5_goesOnBehind s16 (nI y.1) _ := fun hh => last V1 L1 s16 F16 k16 V16 L16 o16 (RRn hh)
        refine ⟨fun hh => ?_, fun n18 => ⟨fun hh => ?_, fun n19 => ⟨fun n20 => ?_, fun hh => ?_⟩⟩⟩
        · intro P193 hP193; exact ⟨fun hz => absurd hz (by decide), fun _ => jump (by omega) P193 hP193⟩
        · intro P193 hP193; exact ⟨fun hz => absurd hz (by decide), fun _ => jump (by omega) P193 hP193⟩
        · intro P193 hP193; exact ⟨fun _ => hP193 _ (plain (by omega)), fun hz => absurd rfl hz⟩
        · intro P193 hP193; exact ⟨fun hz => absurd hz (by decide), fun _ => jump (by omega) P193 hP193⟩
      suffices hLp : ∀ (q k : Nat) (V1 : VS) (L1 : Nat) (s16 : yS), k + q = (fH l[f]).length → frM (dVk g f (fC l[f]).length) s s16 → skC s16 r → vsC s16 g f (fC l[f]).length V1 → lsC s16 (fC l[f]).length L1 V1 → vOK (fC l[f]).length V1 → R = bnd (vHs f i ((fH l[f]).drop k) V1) (vEnd f i (fC l[f]).length y.1 y.2 r) → P91 (nI k) s16 from
        hLp (fH l[f]).length 0 V L s14 (by omega) (dt F14') k14 V14 L14 ho hvl
      intro q
      induction q with
      | zero =>
        intro k V1 L1 s16 hk F16 k16 V16 L16 o16 RR
        rw [show k = (fH l[f]).length by omega, List.drop_length] at RR
        rw [show k = (fH l[f]).length by omega]
        exact fin V1 L1 s16 F16 k16 V16 L16 o16 RR
      | succ q ih =>
        intro k V1 L1 s16 hk F16 k16 V16 L16 o16 RR
        have hkl : k < (fH l[f]).length := by omega
        have c16 : vcC s16 g f l := hc.fr (kr F16)
        have h16' := (c16.2.2.2.2 f hf).2.2.2.2.2.1
        have hh16 := (c16.2.2.2.2 f hf).2.2.2.2.2.2.2.1 k hkl
        have hhk := hho _ (List.getElem_mem hkl)
        have b1 := hhk.1
        have b2 := hhk.2.1
        rw [List.drop_eq_getElem_cons hkl, vHs] at RR
        generalize (fH l[f])[k] = hn at *
        apply hP91
        refine ⟨g, c16.2.1, hg.kd, ?_⟩
        rw [c16.2.2.1, nI_ix (n := f) (by omega), h16', nI_leU (by omega) (by omega)]
        refine ⟨hinf, fun hz => absurd hz (by omega), fun _ => ?_⟩
        rw [nI_mul, nI_addU]
        intro x34 e34
        subst e34
        refine ⟨g, c16.2.1, hg.kd, ?_⟩
        unfold W_X5_isInRange
        have hin3 : vp_in (nI (f * 6 + k)) 72 := nI_inU (by omega) (by omega)
        rw [nI_ix (n := f * 6 + k) (by omega), hh16.1, nI_ltU (by omega) (by omega)]
        have nx : ∀ (V2 : VS) (L2 : Nat) (s37 : yS), frM (dVk g f (fC l[f]).length) s s37 → skC s37 r → vsC s37 g f (fC l[f]).length V2 → lsC s37 (fC l[f]).length L2 V2 → vOK (fC l[f]).length V2 → R = bnd (vHs f i ((fH l[f]).drop (k + 1)) V2) (vEnd f i (fC l[f]).length y.1 y.2 r) → ∀ x38 : Int32, x38 = nI k + 1 → P91 x38 s37 := by
          intro V2 L2 s37 F37 k37 V37 L37 o37 RR2 x38 e38
          subst e38; rw [nI_s]
          exact ih (k + 1) V2 L2 s37 (by omega) F37 k37 V37 L37 o37 RR2
        have out : ¬ (hF hn ≤ i ∧ i < hT hn) → ∀ P154 : yS → Prop, (∀ (s37 : yS), (∀ x38 : Int32, x38 = (nI k + 1) → P91 x38 s37) → P154 s37) → P154 s16 := by
          intro hh P154 hP154
          rw [if_neg hh] at RR
          exact hP154 _ (nx V1 L1 s16 F16 k16 V16 L16 o16 RR)
        refine ⟨hin3, fun hlt => ?_, fun hge => ⟨hin3, ?_⟩⟩
        · intro P154 hP154
          exact ⟨fun _ => out (by omega) P154 hP154, fun hz => absurd rfl hz⟩
        · rw [hh16.2.1, nI_leU (by omega) (by omega)]
          refine ⟨fun hle => ?_, fun hlt => ?_⟩
          · intro P154 hP154
            exact ⟨fun _ => out (by omega) P154 hP154, fun hz => absurd rfl hz⟩
          · intro P154 hP154
            rw [if_pos ⟨by omega, by omega⟩] at RR
            refine ⟨fun hz => absurd hz (by decide), fun _ => ⟨g, c16.2.1, hg.kd, hin3, ?_⟩⟩
            rw [hh16.2.2.1]
            refine c_comeTo (st := [false]) hg c16.2.1 (by omega) c16.2.2.1 hc400 hhk.2.2.1 (by simp) V16 L16 o16 (fun V3 hV3 s28 L28 F28 V28 L28' => ⟨fun _ => ?_, fun hz => absurd hz (by decide)⟩) (fun hV3 s28 F28 b28 => ⟨fun hz => absurd rfl hz, fun _ => ?_⟩)
            · apply hP154
              have k28 : skC s28 r := ⟨(F28.1 _ _ (by omega)).trans k16.1, (F28.1 _ _ (by omega)).trans k16.2⟩
              refine nx V3 L28 s28 (F16.trans (cmk F28)) k28 V28 L28' (cmT_ok hV3 o16 hhk.2.2.1 (by simp)) ?_
              rw [RR]; unfold vCom; rw [hV3]; rfl
            · refine H0 (7, 512 * f + hG hn) ?_ s28 ((kr F16).trans (F28.mono (fun a i h => by unfold dVr; omega))) b28
              rw [RR]; unfold vCom; rw [hV3]; rfl
    · refine c_refuseV (c := 6) c14.2.2.1 (fun s15 F15 b15 => ⟨Or.inl rfl, H0 _ ?_ s15 ?_ b15⟩)
      · unfold vLook; rw [hcr]; dsimp only; rw [if_pos (by omega)]
      · exact (kr (dt F14')).trans (F15.mono (fun a i h => by unfold dVr; omega))
  · refine c_refuseV (c := 5) (c10.fr (kr (dt F14))).2.2.1 (fun s15 F15 b15 => ⟨Or.inl rfl, H0 _ ?_ s15 ?_ b15⟩)
    · unfold vLook; rw [hcr]
    · exact (kr (dt (F10.trans F14))).trans (F15.mono (fun a i h => by unfold dVr; omega))
end
