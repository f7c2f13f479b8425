/-! ===== PURE: the other one's flow ===== -/
abbrev FSt : Type := (Nat → Int64) × (Nat → Int64) × (Nat → Int64) × List Nat
def eM (F : FSt) : Nat → Int64 := F.1
def eX (F : FSt) : Nat → Int64 := F.2.1
def eA (F : FSt) : Nat → Int64 := F.2.2.1
def eQ (F : FSt) : List Nat := F.2.2.2
def fnA (l : List Fn) (f : Nat) : Fn := l.getD f dFn
theorem fnA_at {l : List Fn} {f : Nat} (h : f < l.length) : fnA l f = l[f] := getD_at h
def opr (l : List Fn) (a : Nat) : Int32 := orA (fnA l (a / 400)) (a % 400)
def vld (l : List Fn) (a : Nat) : Prop := a / 400 < l.length ∧ a % 400 < (fC (fnA l (a / 400))).length
def enq (a : Nat) (F : FSt) : FSt := if a ∈ eQ F then F else (eM F, eX F, eA F, eQ F ++ [a])
def isNo (v y : Int64) : Prop := lg_cmp (v &&& (y ^^^ (-1))) 0 = 0
def grw (a : Nat) (v : Int64) (F : FSt) : FSt := if lg_cmp (v &&& (eM F a ^^^ (-1))) 0 = 0 then F else enq a (upF (eM F) a (eM F a ||| v), eX F, eA F, eQ F)
def enC (l : List Fn) (t : Nat) : List Nat → FSt → FSt
  | [], F => F
  | a :: cs, F => enC l t cs (if opr l a = nI t ∧ ¬ lg_cmp (eM F a) 0 = 0 then enq a F else F)
def grA (l : List Fn) (cs : List Nat) (t : Nat) (v : Int64) (F : FSt) : FSt := if lg_cmp (v &&& (eA F t ^^^ (-1))) 0 = 0 then F else enC l t cs (eM F, eX F, upF (eA F) t (eA F t ||| v), eQ F)
def grX (l : List Fn) (cs : List Nat) (t : Nat) (v : Int64) (F : FSt) : FSt := if lg_cmp (v &&& (eX F t ^^^ (-1))) 0 = 0 then F else enC l t cs (eM F, upF (eX F) t (eX F t ||| v), eA F, eQ F)
def hdl (f i : Nat) (v : Int64) : List Hn → FSt → FSt
  | [], F => F
  | h :: hs, F => if hF h ≤ i ∧ i < hT h then hdl f i v hs (grw (f * 400 + hG h) v F) else hdl f i v hs F
def ledJ (RJ : Nat → Nat → Int64) (v : Int64) (c : Nat) : Nat → Int64
  | 0 => 0
  | q + 1 => if bJ v q = true then ledJ RJ v c q ||| RJ c q else ledJ RJ v c q
def RCJ (RJ : Nat → Nat → Int64) : R3 := fun c q b => bJ (RJ c q) b = true
theorem ledJ_bit {RJ : Nat → Nat → Int64} {v : Int64} {c b : Nat} : ∀ (n : Nat), bJ (ledJ RJ v c n) b = true ↔ led (RCJ RJ) n (fun q => bJ v q = true) c b
  | 0 => by
    rw [ledJ, bJ_0]
    exact ⟨fun h => absurd h (by decide), fun ⟨q, _, h, _⟩ => by omega⟩
  | n + 1 => by
    have ih := ledJ_bit (RJ := RJ) (v := v) (c := c) (b := b) n
    rw [ledJ]
    by_cases h : bJ v n = true
    · rw [if_pos h, bJ_or, Bool.or_eq_true, ih]
      constructor
      · rintro (⟨q, h1, h2, h3⟩ | h1)
        · exact ⟨q, h1, by omega, h3⟩
        · exact ⟨n, h, by omega, h1⟩
      · rintro ⟨q, h1, h2, h3⟩
        by_cases c : q = n
        · subst c; exact Or.inr h3
        · exact Or.inl ⟨q, h1, by omega, h3⟩
    · rw [if_neg h, ih]
      constructor
      · rintro ⟨q, h1, h2, h3⟩; exact ⟨q, h1, by omega, h3⟩
      · rintro ⟨q, h1, h2, h3⟩
        by_cases c : q = n
        · subst c; exact absurd h1 h
        · exact ⟨q, h1, by omega, h3⟩
section
variable (l : List Fn) (cs : List Nat) (RJ : Nat → Nat → Int64) (n : Nat)
/-- behind the first part: thrown, after, the state -/
def spr1 (f i : Nat) (v : Int64) (F : FSt) : Int64 × Int64 × FSt :=
  if opA (fnA l f) i = 25 then
    (v ||| eA (grA l cs f (eA (grw (ix (orA (fnA l f) i) * 400) v F) (ix (orA (fnA l f) i))) (grw (ix (orA (fnA l f) i) * 400) v F)) (ix (orA (fnA l f) i)),
     eX (grA l cs f (eA (grw (ix (orA (fnA l f) i) * 400) v F) (ix (orA (fnA l f) i))) (grw (ix (orA (fnA l f) i) * 400) v F)) (ix (orA (fnA l f) i)),
     grA l cs f (eA (grw (ix (orA (fnA l f) i) * 400) v F) (ix (orA (fnA l f) i))) (grw (ix (orA (fnA l f) i) * 400) v F))
  else if opA (fnA l f) i = 27 then (v, v, grX l cs f v F)
  else if opA (fnA l f) i = 29 ∨ (opA (fnA l f) i = 26 ∧ gdd (fnA l f) i = false) then (v, ledJ RJ v (ix (orA (fnA l f) i)) n, F)
  else (v, v, F)
def spr2 (f i : Nat) (th af : Int64) (F : FSt) : FSt :=
  let o := opA (fnA l f) i
  let F3 := if thr o then hdl f i th (fH (fnA l f)) F else F
  let F4 := if 17 < o ∧ o < 21 then grw (f * 400 + ix (orA (fnA l f) i)) af F3 else F3
  if ¬ (o = 18 ∨ o = 27 ∨ o = 28) then grw (f * 400 + i + 1) af F4 else F4
def spr (f i : Nat) (F : FSt) : FSt :=
  let v := eM F (f * 400 + i)
  let r := spr1 l cs RJ n f i v (grA l cs f v F)
  spr2 l f i r.1 r.2.1 r.2.2
end
/-! growth -/
section
variable {l : List Fn} {cs : List Nat} {RJ : Nat → Nat → Int64} {n : Nat}
def pot (l : List Fn) (cs : List Nat) (F : FSt) : Nat := sumR 4800 (fun a => zc (eM F a)) + (cs.map (fun a => zc (eX F (ix (opr l a))) + zc (eA F (ix (opr l a))))).sum + (eQ F).length
def gro (l : List Fn) (cs : List Nat) (F F' : FSt) : Prop := (∀ a, subJ (eM F a) (eM F' a)) ∧ (∀ t, subJ (eX F t) (eX F' t)) ∧ (∀ t, subJ (eA F t) (eA F' t)) ∧ (∀ a ∈ eQ F, a ∈ eQ F') ∧ (∀ a, eM F' a ≠ eM F a → a ∈ eQ F')
  ∧ (∀ t, t < 12 → (eX F' t ≠ eX F t ∨ eA F' t ≠ eA F t) → ∀ a ∈ cs, opr l a = nI t → eM F' a ≠ 0 → a ∈ eQ F') ∧ pot l cs F' ≤ pot l cs F
theorem gro.rfl' {F : FSt} : gro l cs F F := ⟨fun _ => subJ.rfl', fun _ => subJ.rfl', fun _ => subJ.rfl', fun _ h => h, fun _ h => absurd rfl h, fun _ _ h => by rcases h with h | h <;> exact absurd rfl h, Nat.le_refl _⟩
theorem gro.trans {F F' F'' : FSt} (h : gro l cs F F') (k : gro l cs F' F'') : gro l cs F F'' := by
  obtain ⟨h1, h2, h3, h4, h5, h6, h7⟩ := h
  obtain ⟨k1, k2, k3, k4, k5, k6, k7⟩ := k
  refine ⟨fun a => (h1 a).trans (k1 a), fun t => (h2 t).trans (k2 t), fun t => (h3 t).trans (k3 t), fun a ha => k4 a (h4 a ha), fun a ha => ?_, fun t ht hd a ha ho hm => ?_, Nat.le_trans k7 h7⟩
  · by_cases c : eM F'' a = eM F' a
    · exact k4 a (h5 a (fun hh => ha (c.trans hh)))
    · exact k5 a c
  · by_cases c : eX F'' t ≠ eX F' t ∨ eA F'' t ≠ eA F' t
    · exact k6 t ht c a ha ho hm
    · have c1 : eX F'' t = eX F' t := Decidable.byContradiction (fun hh => c (Or.inl hh))
      have c2 : eA F'' t = eA F' t := Decidable.byContradiction (fun hh => c (Or.inr hh))
      rw [c1, c2] at hd
      by_cases cm : eM F'' a = eM F' a
      · exact k4 a (h6 t ht hd a ha ho (cm ▸ hm))
      · exact k5 a cm
/-- a queue as it is -/
def okq (l : List Fn) (F : FSt) : Prop := (eQ F).Nodup ∧ ∀ a ∈ eQ F, vld l a ∧ eM F a ≠ 0
theorem enq_M {a : Nat} {F : FSt} : eM (enq a F) = eM F ∧ eX (enq a F) = eX F ∧ eA (enq a F) = eA F := by
  unfold enq; split <;> exact ⟨rfl, rfl, rfl⟩
theorem enq_in {a : Nat} {F : FSt} : a ∈ eQ (enq a F) ∧ (∀ b ∈ eQ F, b ∈ eQ (enq a F)) ∧ (∀ b ∈ eQ (enq a F), b ∈ eQ F ∨ b = a) ∧ (eQ (enq a F)).length ≤ (eQ F).length + 1 := by
  unfold enq
  split
  · rename_i h; exact ⟨h, fun _ hb => hb, fun _ hb => Or.inl hb, by omega⟩
  · refine ⟨List.mem_append.mpr (Or.inr (List.mem_singleton.mpr rfl)), fun b hb => List.mem_append.mpr (Or.inl hb), fun b hb => ?_, ?_⟩
    · rcases List.mem_append.mp hb with h | h
      · exact Or.inl h
      · exact Or.inr (List.mem_singleton.mp h)
    · show (eQ F ++ [a]).length ≤ _
      rw [List.length_append]; exact Nat.le_refl _
theorem enq_okq {a : Nat} {F : FSt} (h : okq l F) (hv : vld l a) (hm : eM F a ≠ 0) : okq l (enq a F) := by
  have hin := enq_in (a := a) (F := F)
  refine ⟨?_, fun b hb => ?_⟩
  · unfold enq
    split
    · exact h.1
    · rename_i hn
      show (eQ F ++ [a]).Nodup
      rw [List.nodup_append]
      refine ⟨h.1, List.nodup_cons.mpr ⟨by simp, List.nodup_nil⟩, fun x hx y hy hxy => ?_⟩
      rw [List.mem_singleton] at hy
      subst hy; subst hxy
      exact hn hx
  · rw [enq_M.1]
    rcases hin.2.2.1 b hb with hb | hb
    · exact h.2 b hb
    · subst hb; exact ⟨hv, hm⟩
theorem or_ne0 {x v : Int64} (h : ¬ subJ v x) : x ||| v ≠ 0 := by
  intro h0
  apply h
  intro b hb
  have := (J0.mp h0) b
  rw [bJ_or, hb, Bool.or_true] at this
  exact absurd this (by decide)
theorem grw_gro {a : Nat} {v : Int64} {F : FSt} (ha : a < 4800) : gro l cs F (grw a v F) := by
  unfold grw
  split
  · exact gro.rfl'
  · rename_i hn
    rw [newJ] at hn
    have hin := enq_in (a := a) (F := (upF (eM F) a (eM F a ||| v), eX F, eA F, eQ F))
    have hM := enq_M (a := a) (F := (upF (eM F) a (eM F a ||| v), eX F, eA F, eQ F))
    generalize hG : enq a (upF (eM F) a (eM F a ||| v), eX F, eA F, eQ F) = F' at *
    have m1 : eM F' = upF (eM F) a (eM F a ||| v) := hM.1
    have m2 : eX F' = eX F := hM.2.1
    have m3 : eA F' = eA F := hM.2.2
    refine ⟨fun b => ?_, fun t => by rw [m2]; exact subJ.rfl', fun t => by rw [m3]; exact subJ.rfl', fun b hb => hin.2.1 b hb, fun b hb => ?_, fun t _ hd => ?_, ?_⟩
    · rw [m1]
      by_cases c : b = a
      · subst c; rw [upF_at]; exact sub_or
      · rw [upF_ne c]; exact subJ.rfl'
    · by_cases c : b = a
      · subst c; exact hin.1
      · rw [m1, upF_ne c] at hb; exact absurd rfl hb
    · rw [m2, m3] at hd; rcases hd with hd | hd <;> exact absurd rfl hd
    · unfold pot
      rw [m1, m2, m3]
      have hlt : sumR 4800 (fun b => zc (upF (eM F) a (eM F a ||| v) b)) < sumR 4800 (fun b => zc (eM F b)) := by
        apply sumR_lt (j := a) 4800 ha
        · intro k _
          by_cases c : k = a
          · subst c; rw [upF_at]; exact zc_mono sub_or
          · rw [upF_ne c]; exact Nat.le_refl _
        · rw [upF_at]; exact zc_lt hn
      have hql : (eQ F').length ≤ (eQ F).length + 1 := hin.2.2.2
      omega
theorem grw_okq {a : Nat} {v : Int64} {F : FSt} (h : okq l F) (hv : vld l a) : okq l (grw a v F) := by
  unfold grw
  split
  · exact h
  · rename_i hn
    rw [newJ] at hn
    apply enq_okq _ hv
    · show upF (eM F) a (eM F a ||| v) a ≠ 0
      rw [upF_at]; exact or_ne0 hn
    · refine ⟨h.1, fun b hb => ⟨(h.2 b hb).1, ?_⟩⟩
      show upF (eM F) a (eM F a ||| v) b ≠ 0
      by_cases c : b = a
      · subst c; rw [upF_at]; exact or_ne0 hn
      · rw [upF_ne c]; exact (h.2 b hb).2
theorem grw_M {a : Nat} {v : Int64} {F : FSt} : subJ v (eM (grw a v F) a) ∧ eX (grw a v F) = eX F ∧ eA (grw a v F) = eA F ∧ (∀ b c, bJ (eM (grw a v F) b) c = true → bJ (eM F b) c = true ∨ (b = a ∧ bJ v c = true)) := by
  unfold grw
  split
  · rename_i h; rw [newJ] at h; exact ⟨h, rfl, rfl, fun _ _ h => Or.inl h⟩
  · have hM := enq_M (a := a) (F := (upF (eM F) a (eM F a ||| v), eX F, eA F, eQ F))
    refine ⟨?_, hM.2.1, hM.2.2, fun b c hb => ?_⟩
    · rw [hM.1]
      show subJ v (upF (eM F) a (eM F a ||| v) a)
      rw [upF_at]; exact sub_or2
    · rw [hM.1] at hb
      have hb : bJ (upF (eM F) a (eM F a ||| v) b) c = true := hb
      by_cases e : b = a
      · subst e
        rw [upF_at, bJ_or, Bool.or_eq_true] at hb
        rcases hb with hb | hb
        · exact Or.inl hb
        · exact Or.inr ⟨rfl, hb⟩
      · rw [upF_ne e] at hb; exact Or.inl hb
theorem enC_is {t : Nat} : ∀ (ds : List Nat) (F : FSt), eM (enC l t ds F) = eM F ∧ eX (enC l t ds F) = eX F ∧ eA (enC l t ds F) = eA F ∧ (∀ b ∈ eQ F, b ∈ eQ (enC l t ds F)) ∧ (∀ a ∈ ds, opr l a = nI t → eM F a ≠ 0 → a ∈ eQ (enC l t ds F)) ∧ (eQ (enC l t ds F)).length ≤ (eQ F).length + ds.countP (fun a => decide (opr l a = nI t)) ∧ (okq l F → (∀ a ∈ ds, vld l a) → okq l (enC l t ds F))
  | [], F => ⟨rfl, rfl, rfl, fun _ h => h, fun a h => by simp at h, by simp [enC], fun h _ => h⟩
  | a :: ds, F => by
    rw [enC]
    have hin := enq_in (a := a) (F := F)
    have hM := enq_M (a := a) (F := F)
    have ih := enC_is (t := t) ds (if opr l a = nI t ∧ ¬ lg_cmp (eM F a) 0 = 0 then enq a F else F)
    by_cases c : opr l a = nI t ∧ ¬ lg_cmp (eM F a) 0 = 0
    · rw [if_pos c] at ih ⊢
      obtain ⟨i1, i2, i3, i4, i5, i6, i7⟩ := ih
      refine ⟨i1.trans hM.1, i2.trans hM.2.1, i3.trans hM.2.2, fun b hb => i4 b (hin.2.1 b hb), fun b hb ho hm => ?_, ?_, fun hk hv => i7 (enq_okq hk (hv a (List.mem_cons_self ..)) (fun hh => c.2 (cmp0.mpr hh))) (fun b hb => hv b (List.mem_cons_of_mem _ hb))⟩
      · rcases List.mem_cons.mp hb with hb | hb
        · subst hb; exact i4 b hin.1
        · exact i5 b hb ho (by rw [hM.1]; exact hm)
      · rw [List.countP_cons_of_pos (by simp [c.1])]
        have := hin.2.2.2
        omega
    · rw [if_neg c] at ih ⊢
      obtain ⟨i1, i2, i3, i4, i5, i6, i7⟩ := ih
      refine ⟨i1, i2, i3, i4, fun b hb ho hm => ?_, ?_, fun hk hv => i7 hk (fun b hb => hv b (List.mem_cons_of_mem _ hb))⟩
      · rcases List.mem_cons.mp hb with hb | hb
        · subst hb; exact absurd ⟨ho, fun hh => hm (cmp0.mp hh)⟩ c
        · exact i5 b hb ho hm
      · have : ds.countP (fun a => decide (opr l a = nI t)) ≤ (a :: ds).countP (fun a => decide (opr l a = nI t)) := by
          rw [List.countP_cons]; omega
        omega
theorem sum_drop {G G' : Nat → Nat} {p : Nat → Bool} : ∀ (ds : List Nat), (∀ a ∈ ds, G' a ≤ G a) → (∀ a ∈ ds, p a = true → G' a < G a) → (ds.map G').sum + ds.countP p ≤ (ds.map G).sum
  | [], _, _ => by simp
  | a :: ds, h1, h2 => by
    have ih := sum_drop (G := G) (G' := G') (p := p) ds (fun b hb => h1 b (List.mem_cons_of_mem _ hb)) (fun b hb => h2 b (List.mem_cons_of_mem _ hb))
    have e1 := h1 a (List.mem_cons_self ..)
    have e2 := h2 a (List.mem_cons_self ..)
    rw [List.map_cons, List.map_cons, List.sum_cons, List.sum_cons, List.countP_cons]
    split
    · rename_i hp; have := e2 hp; omega
    · omega
theorem grA_gro {t : Nat} {v : Int64} {F : FSt} (ht : t < 12) : gro l cs F (grA l cs t v F) := by
  unfold grA
  split
  · exact gro.rfl'
  · rename_i hn
    rw [newJ] at hn
    obtain ⟨i1, i2, i3, i4, i5, i6, i7⟩ := enC_is (l := l) (t := t) cs (eM F, eX F, upF (eA F) t (eA F t ||| v), eQ F)
    generalize enC l t cs (eM F, eX F, upF (eA F) t (eA F t ||| v), eQ F) = F' at *
    have m1 : eM F' = eM F := i1
    have m2 : eX F' = eX F := i2
    have m3 : eA F' = upF (eA F) t (eA F t ||| v) := i3
    have hsub : ∀ u, subJ (eA F u) (eA F' u) := fun u => by
      rw [m3]
      by_cases c : u = t
      · subst c; rw [upF_at]; exact sub_or
      · rw [upF_ne c]; exact subJ.rfl'
    refine ⟨fun a => by rw [m1]; exact subJ.rfl', fun u => by rw [m2]; exact subJ.rfl', hsub, fun b hb => i4 b hb, fun b hb => absurd (congrFun m1 b) hb, fun u hu hd a ha ho hm => ?_, ?_⟩
    · by_cases c : u = t
      · subst c; exact i5 a ha ho (by rw [m1] at hm; exact hm)
      · rw [m2, m3, upF_ne c] at hd
        rcases hd with hd | hd <;> exact absurd rfl hd
    · unfold pot
      rw [m1, m2]
      have hs := sum_drop (G := fun a => zc (eX F (ix (opr l a))) + zc (eA F (ix (opr l a)))) (G' := fun a => zc (eX F (ix (opr l a))) + zc (eA F' (ix (opr l a)))) (p := fun a => decide (opr l a = nI t)) cs (fun a _ => Nat.add_le_add_left (zc_mono (hsub _)) _) (fun a _ hp => ?_)
      · have i6 : (eQ F').length ≤ (eQ F).length + cs.countP (fun a => decide (opr l a = nI t)) := i6
        omega
      · have ho : opr l a = nI t := of_decide_eq_true hp
        show zc (eX F (ix (opr l a))) + zc (eA F' (ix (opr l a))) < zc (eX F (ix (opr l a))) + zc (eA F (ix (opr l a)))
        rw [ho, nI_ix (by omega), m3, upF_at]
        exact Nat.add_lt_add_left (zc_lt hn) _
theorem grX_gro {t : Nat} {v : Int64} {F : FSt} (ht : t < 12) : gro l cs F (grX l cs t v F) := by
  unfold grX
  split
  · exact gro.rfl'
  · rename_i hn
    rw [newJ] at hn
    obtain ⟨i1, i2, i3, i4, i5, i6, i7⟩ := enC_is (l := l) (t := t) cs (eM F, upF (eX F) t (eX F t ||| v), eA F, eQ F)
    generalize enC l t cs (eM F, upF (eX F) t (eX F t ||| v), eA F, eQ F) = F' at *
    have m1 : eM F' = eM F := i1
    have m2 : eA F' = eA F := i3
    have m3 : eX F' = upF (eX F) t (eX F t ||| v) := i2
    have hsub : ∀ u, subJ (eX F u) (eX F' u) := fun u => by
      rw [m3]
      by_cases c : u = t
      · subst c; rw [upF_at]; exact sub_or
      · rw [upF_ne c]; exact subJ.rfl'
    refine ⟨fun a => by rw [m1]; exact subJ.rfl', hsub, fun u => by rw [m2]; exact subJ.rfl', fun b hb => i4 b hb, fun b hb => absurd (congrFun m1 b) hb, fun u hu hd a ha ho hm => ?_, ?_⟩
    · by_cases c : u = t
      · subst c; exact i5 a ha ho (by rw [m1] at hm; exact hm)
      · rw [m2, m3, upF_ne c] at hd
        rcases hd with hd | hd <;> exact absurd rfl hd
    · unfold pot
      rw [m1, m2]
      have hs := sum_drop (G := fun a => zc (eX F (ix (opr l a))) + zc (eA F (ix (opr l a)))) (G' := fun a => zc (eX F' (ix (opr l a))) + zc (eA F (ix (opr l a)))) (p := fun a => decide (opr l a = nI t)) cs (fun a _ => Nat.add_le_add_right (zc_mono (hsub _)) _) (fun a _ hp => ?_)
      · have i6 : (eQ F').length ≤ (eQ F).length + cs.countP (fun a => decide (opr l a = nI t)) := i6
        omega
      · have ho : opr l a = nI t := of_decide_eq_true hp
        show zc (eX F' (ix (opr l a))) + zc (eA F (ix (opr l a))) < zc (eX F (ix (opr l a))) + zc (eA F (ix (opr l a)))
        rw [ho, nI_ix (by omega), m3, upF_at]
        exact Nat.add_lt_add_right (zc_lt hn) _
theorem grA_is {t : Nat} {v : Int64} {F : FSt} (hcs : ∀ a ∈ cs, vld l a) : subJ v (eA (grA l cs t v F) t) ∧ eM (grA l cs t v F) = eM F ∧ eX (grA l cs t v F) = eX F ∧ (∀ u c, bJ (eA (grA l cs t v F) u) c = true → bJ (eA F u) c = true ∨ (u = t ∧ bJ v c = true)) ∧ (okq l F → okq l (grA l cs t v F)) := by
  unfold grA
  split
  · rename_i h; rw [newJ] at h; exact ⟨h, rfl, rfl, fun _ _ h => Or.inl h, fun h => h⟩
  · obtain ⟨i1, i2, i3, i4, i5, i6, i7⟩ := enC_is (l := l) (t := t) cs (eM F, eX F, upF (eA F) t (eA F t ||| v), eQ F)
    refine ⟨?_, i1, i2, fun u c hc => ?_, fun h => i7 h hcs⟩
    · rw [i3]; show subJ v (upF (eA F) t (eA F t ||| v) t); rw [upF_at]; exact sub_or2
    · rw [i3] at hc
      have hc : bJ (upF (eA F) t (eA F t ||| v) u) c = true := hc
      by_cases e : u = t
      · subst e; rw [upF_at, bJ_or, Bool.or_eq_true] at hc
        rcases hc with hc | hc
        · exact Or.inl hc
        · exact Or.inr ⟨rfl, hc⟩
      · rw [upF_ne e] at hc; exact Or.inl hc
theorem grX_is {t : Nat} {v : Int64} {F : FSt} (hcs : ∀ a ∈ cs, vld l a) : subJ v (eX (grX l cs t v F) t) ∧ eM (grX l cs t v F) = eM F ∧ eA (grX l cs t v F) = eA F ∧ (∀ u c, bJ (eX (grX l cs t v F) u) c = true → bJ (eX F u) c = true ∨ (u = t ∧ bJ v c = true)) ∧ (okq l F → okq l (grX l cs t v F)) := by
  unfold grX
  split
  · rename_i h; rw [newJ] at h; exact ⟨h, rfl, rfl, fun _ _ h => Or.inl h, fun h => h⟩
  · obtain ⟨i1, i2, i3, i4, i5, i6, i7⟩ := enC_is (l := l) (t := t) cs (eM F, upF (eX F) t (eX F t ||| v), eA F, eQ F)
    refine ⟨?_, i1, i3, fun u c hc => ?_, fun h => i7 h hcs⟩
    · rw [i2]; show subJ v (upF (eX F) t (eX F t ||| v) t); rw [upF_at]; exact sub_or2
    · rw [i2] at hc
      have hc : bJ (upF (eX F) t (eX F t ||| v) u) c = true := hc
      by_cases e : u = t
      · subst e; rw [upF_at, bJ_or, Bool.or_eq_true] at hc
        rcases hc with hc | hc
        · exact Or.inl hc
        · exact Or.inr ⟨rfl, hc⟩
      · rw [upF_ne e] at hc; exact Or.inl hc
theorem hdl_is {f i : Nat} {v : Int64} : ∀ (hs : List Hn) (F : FSt), (∀ h ∈ hs, f * 400 + hG h < 4800) → gro l cs F (hdl f i v hs F) ∧ eX (hdl f i v hs F) = eX F ∧ eA (hdl f i v hs F) = eA F ∧ (∀ h ∈ hs, hF h ≤ i → i < hT h → subJ v (eM (hdl f i v hs F) (f * 400 + hG h))) ∧ (∀ b c, bJ (eM (hdl f i v hs F) b) c = true → bJ (eM F b) c = true ∨ (bJ v c = true ∧ ∃ h ∈ hs, hF h ≤ i ∧ i < hT h ∧ b = f * 400 + hG h)) ∧ (okq l F → (∀ h ∈ hs, hF h ≤ i → i < hT h → vld l (f * 400 + hG h)) → okq l (hdl f i v hs F))
  | [], F, _ => ⟨gro.rfl', rfl, rfl, fun h hh => by simp at hh, fun _ _ h => Or.inl h, fun h _ => h⟩
  | k :: hs, F, hb => by
    rw [hdl]
    by_cases c : hF k ≤ i ∧ i < hT k
    · rw [if_pos c]
      have ih := hdl_is (f := f) (i := i) (v := v) hs (grw (f * 400 + hG k) v F) (fun h hh => hb h (List.mem_cons_of_mem _ hh))
      obtain ⟨i1, i2, i3, i4, i5, i6⟩ := ih
      have g1 := grw_gro (l := l) (cs := cs) (v := v) (F := F) (hb k (List.mem_cons_self ..))
      have g2 := grw_M (a := f * 400 + hG k) (v := v) (F := F)
      refine ⟨g1.trans i1, i2.trans g2.2.1, i3.trans g2.2.2.1, fun h hh a b => ?_, fun b d hd => ?_, fun hk hv => i6 (grw_okq hk (hv k (List.mem_cons_self ..) c.1 c.2)) (fun h hh => hv h (List.mem_cons_of_mem _ hh))⟩
      · rcases List.mem_cons.mp hh with hh | hh
        · subst hh; exact g2.1.trans (i1.1 _)
        · exact i4 h hh a b
      · rcases i5 b d hd with h | ⟨h1, h, h2, h3⟩
        · rcases g2.2.2.2 b d h with h | ⟨h1, h2⟩
          · exact Or.inl h
          · exact Or.inr ⟨h2, k, List.mem_cons_self .., c.1, c.2, h1⟩
        · exact Or.inr ⟨h1, h, List.mem_cons_of_mem _ h2, h3⟩
    · rw [if_neg c]
      have ih := hdl_is (f := f) (i := i) (v := v) hs F (fun h hh => hb h (List.mem_cons_of_mem _ hh))
      obtain ⟨i1, i2, i3, i4, i5, i6⟩ := ih
      refine ⟨i1, i2, i3, fun h hh a b => ?_, fun b d hd => ?_, fun hk hv => i6 hk (fun h hh => hv h (List.mem_cons_of_mem _ hh))⟩
      · rcases List.mem_cons.mp hh with hh | hh
        · subst hh; exact absurd ⟨a, b⟩ c
        · exact i4 h hh a b
      · rcases i5 b d hd with h | ⟨h1, h, h2, h3⟩
        · exact Or.inl h
        · exact Or.inr ⟨h1, h, List.mem_cons_of_mem _ h2, h3⟩
end
