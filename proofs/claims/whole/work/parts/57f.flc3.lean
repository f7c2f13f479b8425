section
variable {s : yS} {g p n : Nat} {l : List Fn} {cs : List Nat} {RJ : Nat → Nat → Int64} {F : FSt} {f i : Nat}
def isCs (l : List Fn) (a : Nat) : Bool := decide (a / 400 < l.length) && decide (a % 400 < (fC (fnA l (a / 400))).length) && decide (opA (fnA l (a / 400)) (a % 400) = 25)
def csL (l : List Fn) (N : Nat) : List Nat := (List.range N).filter (isCs l)
theorem isCs_iff {a : Nat} : isCs l a = true ↔ vld l a ∧ opA (fnA l (a / 400)) (a % 400) = 25 := by
  unfold isCs vld
  rw [Bool.and_eq_true, Bool.and_eq_true, decide_eq_true_eq, decide_eq_true_eq, decide_eq_true_eq]
theorem csL_len {N : Nat} : (csL l N).length ≤ N := by
  have := List.length_filter_le (isCs l) (List.range N)
  rw [List.length_range] at this; exact this
theorem csL_s {N : Nat} : csL l (N + 1) = if isCs l N = true then csL l N ++ [N] else csL l N := by
  unfold csL
  rw [List.range_succ, List.filter_append, List.filter_cons, List.filter_nil]
  split
  · rfl
  · rw [List.append_nil]
theorem csL_gap {N : Nat} : ∀ (k : Nat), (∀ j, j < k → isCs l (N + j) = false) → csL l (N + k) = csL l N
  | 0, _ => rfl
  | k + 1, h => by
    rw [← Nat.add_assoc, csL_s, if_neg (by rw [h k (by omega)]; decide)]
    exact csL_gap k (fun j hj => h j (by omega))
theorem csL_mem {N a : Nat} : a ∈ csL l N ↔ a < N ∧ vld l a ∧ opA (fnA l (a / 400)) (a % 400) = 25 := by
  unfold csL
  rw [List.mem_filter, List.mem_range, isCs_iff]
def Fz : FSt := (fun _ => 0, fun _ => 0, fun _ => 0, [])
def polR (s : yS) (p : Nat) (RJ : Nat → Nat → Int64) (n : Nat) : Prop := (sI s p 3) = nI n ∧ n ≤ 63 ∧ ∀ c, c < 16 → ∀ q, q < n → (sJ s (p + 15)) (c * 63 + q) = RJ c q
def dFb (g a i : Nat) : Prop := dFl g a i ∨ (a = 116 ∧ i = 9) ∨ a = 121
theorem c_begin {Q : yS → Prop} (hok : pgOK l) (hg : gOK g) (hp3 : p = 3 ∨ p = 20) (r0 : sR s 116 0 = g + 1) (r1 : sR s 116 1 = p + 1) (hp : pgC s g l) (hpo : polR s p RJ n)
    (H : ∀ s', frM (dFb g) s s' → fcC s' g p l (csL l (l.length * 400)) RJ n → flD s' g l (grw 0 1 Fz) → Q s') : W_X0_begin s Q := by
  have hgv : g = 37 ∨ g = 55 ∨ g = 73 := hg
  have h12 := hok.2.1
  have h1 := hok.1
  unfold W_X0_begin
  refine ⟨g, r0, hg.kd, ?_⟩
  refine c_fillJ (by omega) (fun s2 F2 i2 v2 => ?_)
  refine c_fillJ (by omega) (fun s3 F3 i3 v3 => ?_)
  refine c_fillJ (by omega) (fun s4 F4 i4 v4 => ?_)
  intro s5 e5 s6 e6 s7 e7
  have F7 : frM (dFb g) s s7 := by
    have q2 : frM (dFb g) s s2 := F2.mono (fun a i h => by unfold dFb dFl; omega)
    have q3 : frM (dFb g) s2 s3 := F3.mono (fun a i h => by unfold dFb dFl; omega)
    have q4 : frM (dFb g) s3 s4 := F4.mono (fun a i h => by unfold dFb dFl; omega)
    subst e7; subst e6; subst e5
    exact ((((q2.trans q3).trans q4).wI (by unfold dFb dFl; omega)).wI (by unfold dFb dFl; omega)).wI (by unfold dFb dFl; omega)
  have J7 : ∀ a i, sJ s7 a i = sJ s4 a i := fun a i => by subst e7; subst e6; subst e5; rfl
  have z1 : ∀ a, a < 4800 → sJ s7 (g + 12) a = 0 := fun a ha => by rw [J7, F4.2.1 _ _ (by omega), F3.2.1 _ _ (by omega)]; exact v2 a ha
  have z2 : ∀ t, t < 12 → sJ s7 119 t = 0 := fun t ht => by rw [J7, F4.2.1 _ _ (by omega)]; exact v3 t ht
  have z3 : ∀ t, t < 12 → sJ s7 120 t = 0 := fun t ht => by rw [J7]; exact v4 t ht
  have c4 : sI s7 116 4 = nI 0 := by subst e7; rw [sI_w, if_neg (by omega)]; subst e6; rw [sI_w, if_neg (by omega)]; subst e5; rw [sI_w, if_pos ⟨rfl, rfl⟩]; rfl
  have c5 : sI s7 116 5 = nI 0 := by subst e7; rw [sI_w, if_neg (by omega)]; subst e6; rw [sI_w, if_pos ⟨rfl, rfl⟩]; rfl
  have c9 : sI s7 116 9 = nI 0 := by subst e7; rw [sI_w, if_pos ⟨rfl, rfl⟩]; rfl
  clear e7 e6 e5 i2 i3 i4
  intro P44 hP44
  -- what holds on the way
  suffices hL : ∀ (r f : Nat) (t : yS), f + r = l.length → frM (fun a i => (a = 116 ∧ i = 9) ∨ a = 118 ∨ a = 121) s7 t → sI t 116 9 = nI (csL l (f * 400)).length → (∀ (j : Nat) (h : j < (csL l (f * 400)).length), sI t 121 j = nI (csL l (f * 400))[j]) → (∀ a, a < f * 400 → vld l a → sI t 118 a = 0) → P44 (nI f) t from
    hL l.length 0 s7 (by omega) frM.rfl' (by rw [show 0 * 400 = 0 from rfl]; exact c9) (fun j h => by rw [show 0 * 400 = 0 from rfl] at h; exact absurd h (Nat.not_lt_zero _)) (fun a ha => by omega)
  have frt : ∀ {t : yS}, frM (fun a i => (a = 116 ∧ i = 9) ∨ a = 118 ∨ a = 121) s7 t → frM (dFb g) s t := fun Ft => F7.trans (Ft.mono (fun a i h => by unfold dFb dFl; omega))
  have pgt : ∀ {t : yS}, frM (dFb g) s t → pgC t g l := fun Ft => hp.fr (fun a i ha => Ft.1 a i (by unfold dFb dFl; omega))
  intro r
  induction r with
  | zero =>
    intro f t hf Ft k9 k1 kq
    obtain rfl : f = l.length := by omega
    have Ft' := frt Ft
    have pt := pgt Ft'
    apply hP44
    refine ⟨g, (Ft'.2.2 _ _).trans r0, hg.kd, ?_⟩
    rw [pt.1]
    refine ⟨fun _ => ?_, fun hz => absurd ((nI_leU (by omega) (by omega)).mpr (Nat.le_refl _)) hz⟩
    have sc : fcC t g p l (csL l (l.length * 400)) RJ n := by
      refine ⟨hg, hp3, (Ft'.2.2 _ _).trans r0, (Ft'.2.2 _ _).trans r1, pt, ⟨(Ft'.1 _ _ (by unfold dFb dFl; omega)).trans hpo.1, hpo.2.1, fun c hc q hq => (Ft'.2.1 _ _ (by unfold dFb dFl; omega)).trans (hpo.2.2 c hc q hq)⟩, k9, k1, ?_, fun a ha => (csL_mem.mp ha).2.1⟩
      have := csL_len (l := l) (N := l.length * 400)
      omega
    have dt : flD t g l Fz := by
      refine ⟨fun a ha => (Ft.2.1 _ _ (by omega)).trans (z1 a ha), fun u hu => (Ft.2.1 _ _ (by omega)).trans (z2 u hu), fun u hu => (Ft.2.1 _ _ (by omega)).trans (z3 u hu), ⟨0, by omega, (Ft.1 _ _ (by omega)).trans c4, (Ft.1 _ _ (by omega)).trans c5, fun j hj => absurd hj (Nat.not_lt_zero _)⟩, fun a ha => ?_⟩
      have h1 := ha.1
      rw [kq a (by omega) ha]; rfl
    have v0 : vld l 0 := (vld_of hok (f := 0) (i := 0) (by omega) (hok.2.2.1 0 (by omega)).2.2.2.2.2.2.2.1).1
    refine c_grow (a := 0) (F := Fz) hok sc v0 ⟨List.nodup_nil, fun a ha => by simp [Fz, eQ] at ha⟩ dt (fun s' F' D' => ?_)
    exact H s' (Ft'.trans (F'.mono (fun a i h => Or.inl h))) (sc.fr F') D'
  | succ r ih =>
    intro f t hf Ft k9 k1 kq
    have hfl : f < l.length := by omega
    have h400 := (hok.2.2.1 f hfl).2.2.2.2.2.2.2.2.1
    have hfn := fnA_at hfl
    have Ft' := frt Ft
    have pt := pgt Ft'
    apply hP44
    refine ⟨g, (Ft'.2.2 _ _).trans r0, hg.kd, ?_⟩
    rw [pt.1]
    refine ⟨fun hz => absurd ((nI_leU (by omega) (by omega)).mp hz) (by omega), fun _ => ?_⟩
    rw [nI_mul]
    intro P61 hP61 x26 e26
    subst e26
    have hin : vp_in (nI f) 12 := nI_inU (by omega) (by omega)
    suffices hI : ∀ (r i N : Nat) (t : yS), N = f * 400 + i → i + r = (fC l[f]).length → frM (fun a i => (a = 116 ∧ i = 9) ∨ a = 118 ∨ a = 121) s7 t → sI t 116 9 = nI (csL l N).length → (∀ (j : Nat) (h : j < (csL l N).length), sI t 121 j = nI (csL l N)[j]) → (∀ a, a < N → vld l a → sI t 118 a = 0) → P61 (nI N) t from
      hI (fC l[f]).length 0 (f * 400) t (by omega) (by omega) Ft k9 k1 kq
    intro r2
    induction r2 with
    | zero =>
      intro i N t hN hi Ft k9 k1 kq
      subst hN
      obtain rfl : i = (fC l[f]).length := by omega
      have Ft' := frt Ft
      have pt := pgt Ft'
      apply hP61
      refine ⟨g, (Ft'.2.2 _ _).trans r0, hg.kd, hin, ?_⟩
      rw [nI_ix (n := f) (by omega), (pt.2 f hfl).2.2.2.2.1, nI_addU]
      refine ⟨fun _ => ?_, fun hz => absurd ((nI_leU (by omega) (by omega)).mpr (Nat.le_refl _)) hz⟩
      intro x16 e16
      subst e16; rw [nI_s]
      have hgap : csL l ((f + 1) * 400) = csL l (f * 400 + (fC l[f]).length) := by
        have := csL_gap (l := l) (N := f * 400 + (fC l[f]).length) (400 - (fC l[f]).length) (fun j hj => by
          cases hb : isCs l (f * 400 + (fC l[f]).length + j) with
          | false => rfl
          | true =>
            exfalso
            have hv := (isCs_iff.mp hb).1
            have h2 := hv.2
            have hd : (f * 400 + (fC l[f]).length + j) / 400 = f := by omega
            have hm : (f * 400 + (fC l[f]).length + j) % 400 = (fC l[f]).length + j := by omega
            rw [hd, hm, hfn] at h2
            omega)
        rw [show (f + 1) * 400 = f * 400 + (fC l[f]).length + (400 - (fC l[f]).length) by omega]; exact this
      refine ih (f + 1) t (by omega) Ft (by rw [hgap]; exact k9) (fun j h => ?_) (fun a ha hv => ?_)
      · simp only [hgap] at h ⊢; exact k1 j h
      · by_cases c : a < f * 400 + (fC l[f]).length
        · exact kq a c hv
        · exfalso
          have h2 := hv.2
          have hd : a / 400 = f := by omega
          have hm : a % 400 = a - f * 400 := by omega
          rw [hd, hm, hfn] at h2
          omega
    | succ r2 ih2 =>
      intro i N t hN hi Ft k9 k1 kq
      subst hN
      have hil : i < (fC l[f]).length := by omega
      have Ft' := frt Ft
      have pt := pgt Ft'
      have hva := vld_of hok hfl hil
      have hd := dm4 (f := f) (i := i) (by omega)
      apply hP61
      refine ⟨g, (Ft'.2.2 _ _).trans r0, hg.kd, hin, ?_⟩
      rw [nI_ix (n := f) (by omega), (pt.2 f hfl).2.2.2.2.1, nI_addU]
      have hin4 : vp_in (nI (f * 400 + i)) 4800 := nI_inU (by omega) (by omega)
      refine ⟨fun hz => absurd ((nI_leU (by omega) (by omega)).mp hz) (by omega), fun _ => ⟨hin4, ?_⟩⟩
      rw [nI_ix (n := f * 400 + i) (by omega)]
      intro s18 e18
      have F18 : frM (fun a i => (a = 116 ∧ i = 9) ∨ a = 118 ∨ a = 121) s7 s18 := by subst e18; exact Ft.wI (by omega)
      have F18' := frt F18
      have p18 := pgt F18'
      have hcs := csL_len (l := l) (N := f * 400 + i)
      have q18 : ∀ a, a < f * 400 + (i + 1) → vld l a → sI s18 118 a = 0 := fun a ha hv => by
        subst e18
        by_cases c : a = f * 400 + i
        · subst c; rw [sI_w, if_pos ⟨rfl, rfl⟩]; rfl
        · rw [sI_w, if_neg (by omega)]; exact kq a (by omega) hv
      have k18 : sI s18 116 9 = nI (csL l (f * 400 + i)).length := by subst e18; rw [sI_w, if_neg (by omega)]; exact k9
      have l18 : ∀ (j : Nat) (h : j < (csL l (f * 400 + i)).length), sI s18 121 j = nI (csL l (f * 400 + i))[j] := fun j h => by subst e18; rw [sI_w, if_neg (by omega)]; exact k1 j h
      clear e18
      refine ⟨g, (F18'.2.2 _ _).trans r0, hg.kd, hin4, ?_⟩
      have hop := (p18.2 f hfl).2.2.2.2.2.2.1 i hil
      have ho29 : (fC l[f])[i].1 ≤ 29 := ((hok.2.2.1 f hfl).2.2.2.2.2.2.2.2.2.2.1 _ (List.getElem_mem hil)).1
      intro P121 hP121
      rw [hop.1, nI_inj (by omega) (by omega)]
      have hics : isCs l (f * 400 + i) = true ↔ (fC l[f])[i].1 = 25 := by
        rw [isCs_iff, hd.1, hd.2, hfn, opA_at hil]
        exact ⟨fun h => h.2, fun h => ⟨hva.1, h⟩⟩
      have hst := csL_s (l := l) (N := f * 400 + i)
      rw [nI_s] at hP121
      refine ⟨fun hne => hP121 _ ?_, fun heq => ?_⟩
      · rw [if_neg (fun h => hne (hics.mp h))] at hst
        intro x22 e22
        subst e22
        rw [Nat.add_assoc] at hst ⊢
        refine ih2 (i + 1) _ s18 rfl (by omega) F18 (by rw [hst]; exact k18) (fun j h => ?_) q18
        simp only [hst] at h ⊢; exact l18 j h
      · rw [if_pos (hics.mpr heq)] at hst
        rw [k18, nI_ix (n := (csL l (f * 400 + i)).length) (by omega)]
        refine ⟨nI_inU (by omega) (by omega), ?_⟩
        intro s24 e24
        have k24 : sI s24 116 9 = nI (csL l (f * 400 + i)).length := by subst e24; rw [sI_w, if_neg (by omega)]; exact k18
        rw [k24, nI_s]
        intro s25 e25
        refine hP121 _ ?_
        intro x22 e22
        subst e22
        rw [Nat.add_assoc] at hst ⊢
        refine ih2 (i + 1) _ s25 rfl (by omega) ?_ ?_ (fun j h => ?_) (fun a ha hv => ?_)
        · subst e25; subst e24; exact (F18.wI (by omega)).wI (by omega)
        · subst e25; rw [sI_w, if_pos ⟨rfl, rfl⟩, hst, List.length_append]; rfl
        · simp only [hst] at h ⊢
          rw [List.length_append] at h
          have h : j < (csL l (f * 400 + i)).length + 1 := h
          subst e25; rw [sI_w, if_neg (by omega)]; subst e24
          by_cases c : j = (csL l (f * 400 + i)).length
          · subst c
            rw [sI_w, if_pos ⟨rfl, rfl⟩, List.getElem_append_right (Nat.le_refl _)]
            simp only [Nat.sub_self, List.getElem_cons_zero]
          · rw [sI_w, if_neg (by omega), List.getElem_append_left (by omega)]; exact l18 j (by omega)
        · subst e25; rw [sI_w, if_neg (by omega)]; subst e24; rw [sI_w, if_neg (by omega)]; exact q18 a ha hv
/-- the beginning -/
theorem PI_0 (hok : pgOK l) : PI l RJ n (grw 0 1 Fz) ∧ pot l (csL l (l.length * 400)) (grw 0 1 Fz) ≤ 921600 := by
  have h1 := hok.1
  have h12 := hok.2.1
  have v0 : vld l 0 := (vld_of hok (f := 0) (i := 0) (by omega) (hok.2.2.1 0 (by omega)).2.2.2.2.2.2.2.1).1
  have kz : okq l Fz := ⟨List.nodup_nil, fun a ha => by simp [Fz, eQ] at ha⟩
  have gz := grw_gro (l := l) (cs := csL l (l.length * 400)) (a := 0) (v := 1) (F := Fz) (by omega)
  have gm := grw_M (a := 0) (v := 1) (F := Fz)
  have zz : ∀ a b, bJ (eM Fz a) b = false := fun a b => bJ_0 b
  refine ⟨⟨grw_okq kz v0, grw_snd ⟨fun a _ b hb => by rw [zz] at hb; exact absurd hb (by decide), fun t _ b hb => by rw [show eX Fz t = 0 from rfl, bJ_0] at hb; exact absurd hb (by decide), fun t _ b hb => by rw [show eA Fz t = 0 from rfl, bJ_0] at hb; exact absurd hb (by decide)⟩ (fun b hb => ?_), gm.1 0 (by decide), fun f hf i hi => ?_⟩, ?_⟩
  · rw [bJ_1] at hb
    have : b = 0 := of_decide_eq_true hb
    subst this
    exact lM_clo.1
  · by_cases c : f * 400 + i = 0
    · left
      rw [c]
      apply gz.2.2.2.2.1
      intro h0
      have := gm.1 0 (by decide)
      rw [h0, zz] at this; exact absurd this (by decide)
    · right
      apply clAt.no
      intro b hb
      have hb : bJ (eM (grw 0 1 Fz) (f * 400 + i)) b = true := hb
      rcases gm.2.2.2 _ b hb with h | ⟨h, _⟩
      · rw [zz] at h; exact absurd h (by decide)
      · exact c h
  · refine Nat.le_trans gz.2.2.2.2.2.2 ?_
    unfold pot
    have e1 := sumR_bd (F := fun a => zc (eM Fz a)) (c := 64) 4800 (fun k _ => zc_le)
    have e2 : ∀ (ds : List Nat), (ds.map (fun a => zc (eX Fz (ix (opr l a))) + zc (eA Fz (ix (opr l a))))).sum ≤ ds.length * 128 := by
      intro ds
      induction ds with
      | nil => exact Nat.le_refl _
      | cons a ds ih =>
        rw [List.map_cons, List.sum_cons, List.length_cons, Nat.succ_mul]
        have h1 := zc_le (x := eX Fz (ix (opr l a)))
        have h2 := zc_le (x := eA Fz (ix (opr l a)))
        omega
    have e3 := e2 (csL l (l.length * 400))
    have e4 := csL_len (l := l) (N := l.length * 400)
    have e5 : (eQ Fz).length = 0 := rfl
    omega
def dSf (g a i : Nat) : Prop := dFb g a i ∨ (a = g ∧ i = 13)
def frS (g : Nat) (s s' : yS) : Prop := (∀ a i, ¬ dSf g a i → sI s' a i = sI s a i) ∧ (∀ a i, ¬ dSf g a i → sJ s' a i = sJ s a i) ∧ ∀ a i, ¬ (a = 116 ∧ (i = 0 ∨ i = 1)) → sR s' a i = sR s a i
/-- where the states come, at the other one -/
def myC (s : yS) (g : Nat) (l : List Fn) (RJ : Nat → Nat → Int64) (n : Nat) : Prop := ∀ (f : Nat) (hf : f < l.length) (i : Nat), i < (fC l[f]).length → ∀ b, bJ (sJ s (g + 12) (f * 400 + i)) b = true ↔ lM l (RCJ RJ) n f i b
theorem c_settle {Q : yS → Prop} (hok : pgOK l) (hva : vAll l = none) (hg : gOK g) (hp3 : p = 3 ∨ p = 20) (hp : pgC s g l) (hpo : polR s p RJ n)
    (H1 : ¬ sI s g 13 = 0 → Q s) (H0 : sI s g 13 = 0 → ∀ s', frS g s s' → sI s' g 13 = 1 → myC s' g l RJ n → Q s') : W_X0_settle s g p Q := by
  have hgv : g = 37 ∨ g = 55 ∨ g = 73 := hg
  have h12 := hok.2.1
  unfold W_X0_settle
  refine ⟨fun h0 => ?_, H1⟩
  intro s1 e1 s2 e2
  have n2 : ∀ a i, sI s2 a i = sI s a i := fun a i => by subst e2; subst e1; rfl
  have m2 : ∀ a i, sJ s2 a i = sJ s a i := fun a i => by subst e2; subst e1; rfl
  have r2 : ∀ a i, ¬ (a = 116 ∧ (i = 0 ∨ i = 1)) → sR s2 a i = sR s a i := fun a i h => by subst e2; rw [sR_w, if_neg (by omega)]; subst e1; rw [sR_w, if_neg (by omega)]
  refine c_begin hok hg hp3 (by subst e2; rw [sR_w, if_neg (by omega)]; subst e1; rw [sR_w, if_pos ⟨rfl, rfl⟩]) (by subst e2; rw [sR_w, if_pos ⟨rfl, rfl⟩]) (hp.fr (fun a i _ => n2 a i)) ⟨(n2 _ _).trans hpo.1, hpo.2.1, fun c hc q hq => (m2 _ _).trans (hpo.2.2 c hc q hq)⟩ (fun s3 F3 sc D3 => ?_)
  intro P24 hP24
  have hpi := PI_0 (RJ := RJ) (n := n) hok
  have hcs : ∀ a ∈ csL l (l.length * 400), vld l a := fun a ha => (csL_mem.mp ha).2.1
  have hcs2 : ∀ a, vld l a → opA (fnA l (a / 400)) (a % 400) = 25 → a ∈ csL l (l.length * 400) := fun a ha ho => csL_mem.mpr ⟨by have := ha.1; omega, ha, ho⟩
  generalize csL l (l.length * 400) = cs at *
  suffices hL : ∀ (r k : Nat) (F : FSt) (t : yS), k + r = 921600 → pot l cs F ≤ r → PI l RJ n F → frM (dFl g) s3 t → flD t g l F → P24 (nI k) t from hL 921600 0 _ s3 (by omega) hpi.2 hpi.1 frM.rfl' D3
  have fin : ∀ (F : FSt) (t : yS), eQ F = [] → PI l RJ n F → frM (dFl g) s3 t → flD t g l F → ∀ s7 : yS, s7 = wI t g 13 1 → Q s7 := by
    intro F t hq hP Ft Dt s7 e7
    refine H0 h0 s7 ⟨fun a i h => ?_, fun a i h => ?_, fun a i h => ?_⟩ (by subst e7; rw [sI_w, if_pos ⟨rfl, rfl⟩]) (fun f hf i hi b => ?_)
    · unfold dSf dFb at h
      subst e7; rw [sI_w, if_neg (by omega), Ft.1 _ _ (fun hh => h (Or.inl (Or.inl hh))), F3.1 _ _ (fun hh => h (Or.inl hh))]; exact n2 a i
    · unfold dSf dFb at h
      subst e7
      show sJ t a i = _
      rw [Ft.2.1 _ _ (fun hh => h (Or.inl (Or.inl hh))), F3.2.1 _ _ (fun hh => h (Or.inl hh))]; exact m2 a i
    · subst e7
      show sR t a i = _
      rw [Ft.2.2, F3.2.2]; exact r2 a i h
    · have h4 := (hok.2.2.1 f hf).2.2.2.2.2.2.2.2.1
      subst e7
      show bJ (sJ t (g + 12) (f * 400 + i)) b = true ↔ _
      rw [Dt.1 _ (by omega)]
      exact PI_end hP hq hf hok hi
  intro r
  induction r with
  | zero =>
    intro k F t hk hpt hP Ft Dt
    have hq : eQ F = [] := by
      have : (eQ F).length ≤ pot l cs F := by unfold pot; omega
      exact List.length_eq_zero_iff.mp (by omega)
    obtain ⟨h, hh, d4, d5, d6⟩ := Dt.2.2.2.1
    apply hP24
    rw [d5, hq, show (2000000 : Int32) = nI 2000000 from rfl]
    refine ⟨fun hz => absurd ((nI_leU (by omega) (by omega)).mp hz) (by omega), fun _ => ⟨fun _ => fin F t hq hP Ft Dt, fun hz => absurd (by decide) hz⟩⟩
  | succ r ih =>
    intro k F t hk hpt hP Ft Dt
    obtain ⟨h, hh, d4, d5, d6⟩ := Dt.2.2.2.1
    apply hP24
    rw [show (2000000 : Int32) = nI 2000000 from rfl]
    refine ⟨fun hz => absurd ((nI_leU (by omega) (by omega)).mp hz) (by omega), fun _ => ?_⟩
    cases hq : eQ F with
    | nil =>
      rw [hq] at d5
      rw [d5]
      exact ⟨fun _ => fin F t hq hP Ft Dt, fun hz => absurd (by decide) hz⟩
    | cons a qs =>
      have hkq := hP.1
      have hva1 := (hkq.2 a (by rw [hq]; exact List.mem_cons_self ..)).1
      have ham := (hkq.2 a (by rw [hq]; exact List.mem_cons_self ..)).2
      have ha := vld_lt hok hva1
      have hqn := hkq.1
      rw [hq, List.nodup_cons] at hqn
      have hqlen : (a :: qs).length ≤ 4800 := by
        have := nd_len 4800 (eQ F) hkq.1 (fun b hb => vld_lt hok (hkq.2 b hb).1)
        rw [hq] at this; exact this
      rw [List.length_cons] at hqlen
      have hst := spr_step hok hva hcs hcs2 hP hq
      have d0 := d6 0 (by rw [hq]; exact Nat.succ_pos _)
      rw [Nat.add_zero, Nat.mod_eq_of_lt hh] at d0
      have d0 : sI t 117 h = nI a := by rw [d0]; simp only [hq, List.getElem_cons_zero]
      rw [d5, d4, nI_ix (n := h) (by omega), d0]
      rw [hq, List.length_cons]
      refine ⟨fun hz => absurd hz (by rw [nI_0U, nI_leU (by omega) (by omega)]; omega), fun _ => ⟨nI_inU (by omega) (by omega), ?_⟩⟩
      intro x9 e9
      subst e9
      rw [nI_s, nI_mod (by omega) (by omega)]
      intro s10 e10
      have t10 : sI s10 116 5 = nI (qs.length + 1) := by subst e10; rw [sI_w, if_neg (by omega), d5, hq, List.length_cons]
      rw [t10, nI_p (by omega), Nat.add_sub_cancel]
      intro s11 e11
      rw [nI_ix (n := a) (by omega)]
      refine ⟨nI_inU (by omega) (by omega), ?_⟩
      intro s13 e13
      have F13 : frM (dFl g) t s13 := by subst e13; subst e11; subst e10; exact ((frM.rfl'.wI (by unfold dFl; omega)).wI (by unfold dFl; omega)).wI (by unfold dFl; omega)
      have D13 : flD s13 g l (eM F, eX F, eA F, qs) := by
        obtain ⟨c1, c2, c3, _, c7⟩ := Dt
        have J13 : ∀ b i, sJ s13 b i = sJ t b i := fun b i => by subst e13; subst e11; subst e10; rfl
        refine ⟨fun b hb => (J13 _ _).trans (c1 b hb), fun u hu => (J13 _ _).trans (c2 u hu), fun u hu => (J13 _ _).trans (c3 u hu), ⟨(h + 1) % 4800, by omega, ?_, ?_, fun j hj => ?_⟩, fun b hb => ?_⟩
        · subst e13; rw [sI_w, if_neg (by omega)]; subst e11; rw [sI_w, if_neg (by omega)]; subst e10; rw [sI_w, if_pos ⟨rfl, rfl⟩]
        · subst e13; rw [sI_w, if_neg (by omega)]; subst e11; rw [sI_w, if_pos ⟨rfl, rfl⟩]; rfl
        · have hj : j < qs.length := hj
          show sI s13 117 (((h + 1) % 4800 + j) % 4800) = nI qs[j]
          subst e13; rw [sI_w, if_neg (by omega)]; subst e11; rw [sI_w, if_neg (by omega)]; subst e10; rw [sI_w, if_neg (by omega)]
          have := d6 (j + 1) (by rw [hq, List.length_cons]; omega)
          rw [show ((h + 1) % 4800 + j) % 4800 = (h + (j + 1)) % 4800 by omega, this]
          simp only [hq, List.getElem_cons_succ]
        · show sI s13 118 b = bI (decide (b ∈ qs))
          by_cases cb : b = a
          · subst cb
            rw [decide_eq_false hqn.1]
            subst e13; rw [sI_w, if_pos ⟨rfl, rfl⟩]; rfl
          · subst e13; rw [sI_w, if_neg (by omega)]; subst e11; rw [sI_w, if_neg (by omega)]; subst e10; rw [sI_w, if_neg (by omega), c7 b hb, hq]
            congr 1
            apply decide_eq_decide.mpr
            rw [List.mem_cons]
            exact ⟨fun h => by rcases h with h | h; exact absurd h cb; exact h, Or.inr⟩
      have k13 : okq l (eM F, eX F, eA F, qs) := ⟨hqn.2, fun b hb => hkq.2 b (by rw [hq]; exact List.mem_cons_of_mem _ hb)⟩
      have hf : a / 400 < l.length := hva1.1
      have hi : a % 400 < (fC l[a / 400]).length := by have := hva1.2; rw [fnA_at hf] at this; exact this
      rw [nI_div (by omega) (by omega), nI_mul, nI_sub (Nat.div_mul_le_self a 400), show a - a / 400 * 400 = a % 400 by omega]
      have s13c := sc.fr (Ft.trans F13)
      refine c_spread hok s13c hf hi ?_ k13 D13 (fun s14 F14 D14 => ?_)
      · -- what follows is there
        intro ho
        obtain ⟨b0, hb0⟩ : ∃ b, bJ (eM F a) b = true := by
          apply Classical.byContradiction
          intro hn
          apply ham
          rw [J0]
          intro b
          cases hb : bJ (eM F a) b with
          | false => rfl
          | true => exact absurd ⟨b, hb⟩ hn
        obtain ⟨_, hty, _⟩ := lM_ty hok hva (hP.2.1.1 a ha b0 hb0)
        have tyf := vTy_ty hok hva hf
        cases hs : vTy l (a / 400) (a % 400) with
        | none => exact absurd hs hty
        | some st =>
          obtain ⟨_, r, _, _, _, _, t5⟩ := tyf.2.2 _ st hs
          rw [← opA_at hi] at t5
          exact (t5 ho).1
      · intro x15 e15
        subst e15; rw [nI_s]
        refine ih (k + 1) _ s14 (by omega) (by have := hst.2; omega) hst.1 ((Ft.trans F13).trans F14) D14
end
