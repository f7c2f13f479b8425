/-! ===== PURE: when a clause holds, where a set goes ===== -/
def gCmp (d : Gd) (x : Int32) : Bool := if gH d = 0 then decide (x < Int32.ofInt (gV d)) else if gH d = 1 then decide (x = Int32.ofInt (gV d)) else decide (Int32.ofInt (gV d) < x)
def gHold (ps : PS) (c : Nat) (v : Nat → Int32) (d : Gd) : Bool := (decide (3 ≤ sbj ps d ∨ sbj ps d < c % 4) && gCmp d (v (sbj ps d))) != gO d
def qHold (ps : PS) (c : Nat) (v : Nat → Int32) (f m : Nat) : Bool := (List.range' f m).all (fun g => gHold ps c v ((pG ps).getD g gdD))
def tgt (ps : PS) (w : Wy) : Nat := (pN ps).idxOf (wN w)
def wGo (ps : PS) (c : Nat) (v : Nat → Int32) (w : Wy) : Bool := decide (wCl w = -1 ∨ wCl w = (c : Int)) && qHold ps c v (wF w) (wM w)
def stepF (ps : PS) (c : Nat) (v : Nat → Int32) (x : Int32) (y : Int32) (w : Wy) : Int32 := if (bt x (wO w) && wGo ps c v w) = true then y ||| (1 <<< (nI (tgt ps w) &&& 31)) else y
def stepP (ps : PS) (c : Nat) (v : Nat → Int32) (x : Int32) : Int32 := (pW ps).foldl (stepF ps c v x) 0
theorem res_tgt {ps : PS} (h : resOK ps) {w : Nat} (hw : w < (pW ps).length) : tgt ps (pW ps)[w] < (pN ps).length := by
  have hm : ((1, w, 0, wP (pW ps)[w]) : Lk) ∈ lkOf ps := by
    unfold lkOf
    rw [List.mem_append]; right
    rw [List.mem_flatten]
    refine ⟨lkW (pG ps) w (pW ps)[w], List.mem_mapIdx.mpr ⟨w, hw, rfl⟩, ?_⟩
    unfold lkW; rw [List.mem_append]; right; simp
  have := h _ hm
  unfold lkE at this
  rw [if_neg (by simp), if_neg (by simp)] at this
  dsimp only at this
  rw [getD_at hw] at this
  split at this
  · rename_i hin; exact List.idxOf_lt_length_of_mem hin
  · simp at this
theorem stepF_bt {ps : PS} {c : Nat} {v : Nat → Int32} {x : Int32} {t : Nat} : ∀ (L : List Wy) (y : Int32), (∀ w ∈ L, tgt ps w < 32) → (bt (L.foldl (stepF ps c v x) y) t = true ↔ bt y t = true ∨ ∃ w ∈ L, bt x (wO w) = true ∧ wGo ps c v w = true ∧ t = tgt ps w)
  | [], y, _ => by simp
  | w :: L, y, h => by
    rw [List.foldl_cons, stepF_bt L _ (fun w' hw' => h w' (by simp [hw']))]
    have e : bt (stepF ps c v x y w) t = true ↔ bt y t = true ∨ (bt x (wO w) = true ∧ wGo ps c v w = true ∧ t = tgt ps w) := by
      unfold stepF
      by_cases hc : (bt x (wO w) && wGo ps c v w) = true
      · rw [if_pos hc, bt_or, bt_one (h w (by simp)), Bool.or_eq_true, decide_eq_true_iff]
        rw [Bool.and_eq_true] at hc
        exact ⟨fun hh => hh.elim Or.inl (fun e => Or.inr ⟨hc.1, hc.2, e⟩), fun hh => hh.elim Or.inl (fun e => Or.inr e.2.2)⟩
      · rw [if_neg hc]
        rw [Bool.and_eq_true] at hc
        exact ⟨Or.inl, fun hh => hh.elim id (fun e => absurd ⟨e.1, e.2.1⟩ hc)⟩
    rw [e]
    constructor
    · rintro ((h1 | h1) | ⟨w', hw', h1⟩)
      · exact Or.inl h1
      · exact Or.inr ⟨w, by simp, h1⟩
      · exact Or.inr ⟨w', by simp [hw'], h1⟩
    · rintro (h1 | ⟨w', hw', h1⟩)
      · exact Or.inl (Or.inl h1)
      · rw [List.mem_cons] at hw'
        rcases hw' with hw' | hw'
        · subst hw'; exact Or.inl (Or.inr h1)
        · exact Or.inr ⟨w', hw', h1⟩
/-- the bits of where a set goes -/
theorem stepP_bt {ps : PS} (hres : resOK ps) (hl : lenP ps) {c : Nat} {v : Nat → Int32} {x : Int32} {t : Nat} : bt (stepP ps c v x) t = true ↔ ∃ w ∈ pW ps, bt x (wO w) = true ∧ wGo ps c v w = true ∧ t = tgt ps w := by
  unfold stepP
  rw [stepF_bt]
  · rw [bt_0]; simp
  · intro w hw
    obtain ⟨i, hi, e⟩ := List.getElem_of_mem hw
    have := res_tgt hres hi
    rw [e] at this
    have := hl.2.2.1; omega
section
variable {s : yS}
/-- the reference's values -/
def vM (s : yS) (v : Nat → Int32) : Prop := (∀ i, i < 3 → (sI s 175) i = v i) ∧ ∀ i, i < 6 → (sI s 176) i = v (3 + i)
theorem k_holds {ps : PS} {c g : Nat} {cl : Int} {v : Nat → Int32} {Q : Int32 → Prop} (hp : poM s ps) (hwf : wfI ps) (hl : lenP ps) (hres : resOK ps) (hc : c < 16) (hv : vM s v) (hg : g < (pG ps).length) (hlk : lkG (pG ps) cl g ∈ lkOf ps) (H : Q (bI (gHold ps c v (pG ps)[g]))) : W_X12_holds s (nI g) (nI c) Q := by
  have hGl : (pG ps).length ≤ 864 := by have := (wfI_wfP hwf).1; have := hl.1; have := hl.2.1; have := hl.2.2.1; have := hl.2.2.2; omega
  have l1 := hl.1
  have hgd := hp.2.2.2.2.2.1 g hg
  have hgw := hp.gd hg hlk
  have hgo := hwf.2.2.2.2.1 _ (List.getElem_mem hg)
  have hri := res_idx hres hg hlk
  generalize (pG ps)[g] = d at *
  have gh := hgo.2.2.1
  unfold W_X12_holds
  rw [nI_ix (n := g) (by omega), hgd.1, hgd.2.1, hgd.2.2.1, hgd.2.2.2.1, hgw, nI_mod (by omega) (by omega)]
  refine ⟨nI_inU (by omega) (by omega), ?_⟩
  intro P26 hP26
  have main : ∀ y2 : Int32, y2 = bI (decide (3 ≤ sbj ps d ∨ sbj ps d < c % 4)) → P26 y2 := by
    intro y2 hy2
    apply hP26
    refine ⟨nI_inU (by omega) (by omega), ?_⟩
    intro P61 hP61
    have val : P61 (v (sbj ps d)) := by
      apply hP61
      intro P130 hP130
      have fin : ∀ b : Bool, b = (decide (3 ≤ sbj ps d ∨ sbj ps d < c % 4) && gCmp d (v (sbj ps d))) → P130 (bI b) := by
        intro b hb
        apply hP130
        refine ⟨nI_inU (by omega) (by omega), fun he => ?_, fun he => ?_⟩
        · have : gHold ps c v d = false := by
            unfold gHold; rw [← hb]; cases b <;> cases hgo2 : gO d <;> rw [hgo2] at he <;> first | rfl | exact absurd he (by decide)
          rw [this] at H; exact H
        · have : gHold ps c v d = true := by
            unfold gHold; rw [← hb]; cases b <;> cases hgo2 : gO d <;> rw [hgo2] at he <;> first | rfl | exact absurd rfl he
          rw [this] at H; exact H
      have z0 : nI (gH d) = 0 ↔ gH d = 0 := by rw [nI_0U, nI_inj (by omega) (by omega)]
      have z1 : nI (gH d) = 1 ↔ gH d = 1 := by rw [nI_1U, nI_inj (by omega) (by omega)]
      subst hy2
      cases hth : decide (3 ≤ sbj ps d ∨ sbj ps d < c % 4)
      · exact ⟨fun _ => fin false (by rw [hth]; rfl), fun hz => absurd rfl hz⟩
      · refine ⟨fun hz => absurd hz (by decide), fun _ => ⟨nI_inU (by omega) (by omega), ?_⟩⟩
        rw [z0, z1]
        refine ⟨fun h0 => ⟨nI_inU (by omega) (by omega), fun h1 => ⟨nI_inU (by omega) (by omega), fun hle => fin false ?_, fun hle => fin true ?_⟩, fun h1 => ⟨nI_inU (by omega) (by omega), fun hne => fin false ?_, fun he => fin true ?_⟩⟩, fun h0 => ⟨nI_inU (by omega) (by omega), fun hle => fin false ?_, fun hle => fin true ?_⟩⟩
        · rw [hth]; unfold gCmp; rw [if_neg h0, if_neg h1]; simp
          exact Int32.not_lt.mp (fun hh => absurd hle (Int32.not_le.mpr hh))
        · rw [hth]; unfold gCmp; rw [if_neg h0, if_neg h1]; simp
          exact Int32.not_le.mp hle
        · rw [hth]; unfold gCmp; rw [if_neg h0, if_pos h1]; simp; exact hne
        · rw [hth]; unfold gCmp; rw [if_neg h0, if_pos h1]; simp; exact he
        · rw [hth]; unfold gCmp; rw [if_pos h0]; simp; exact hle
        · rw [hth]; unfold gCmp; rw [if_pos h0]; simp; exact Int32.not_le.mp hle
    cases hcd : gC d
    · have hw := hgo.1 hcd
      have e : sbj ps d = gW d := by unfold sbj; rw [hcd]; rfl
      refine ⟨fun _ => ⟨nI_inU (by omega) (by omega), ?_⟩, fun hz => absurd rfl hz⟩
      simp only [Bool.false_eq_true, if_false]
      rw [nI_ix (n := gW d) (by omega), hv.1 _ (by omega), ← e]
      exact ⟨nI_inU (by omega) (by omega), val⟩
    · have hi := hri hcd
      have e : sbj ps d = 3 + ((pC ps).map Prod.fst).idxOf (gN' d) := by unfold sbj; rw [hcd]; rfl
      refine ⟨fun hz => absurd hz (by decide), fun _ => ⟨nI_inU (by omega) (by omega), ?_⟩⟩
      simp only [if_true]
      rw [nI_ix (n := ((pC ps).map Prod.fst).idxOf (gN' d)) (by omega), hv.2 _ (by omega), ← e]
      exact ⟨nI_inU (by omega) (by omega), val⟩
  cases hcd : gC d
  · have hw := hgo.1 hcd
    have e : sbj ps d = gW d := by unfold sbj; rw [hcd]; rfl
    refine ⟨fun hz => absurd rfl hz, fun _ => ⟨nI_inU (by omega) (by omega), ?_⟩⟩
    simp only [Bool.false_eq_true, if_false]
    rw [nI_leU (by omega) (by omega)]
    refine ⟨fun hh => main 0 ?_, fun hh => main 1 ?_⟩
    · rw [decide_eq_false (by omega)]; rfl
    · rw [decide_eq_true (by omega)]; rfl
  · have e : sbj ps d = 3 + ((pC ps).map Prod.fst).idxOf (gN' d) := by unfold sbj; rw [hcd]; rfl
    refine ⟨fun _ => main 1 ?_, fun hz => absurd hz (by decide)⟩
    rw [decide_eq_true (by omega)]; rfl
theorem k_hold {ps : PS} {c f m : Nat} {cl : Int} {v : Nat → Int32} {Q : Int32 → Prop} (hp : poM s ps) (hwf : wfI ps) (hl : lenP ps) (hres : resOK ps) (hc : c < 16) (hv : vM s v) (hg : f + m ≤ (pG ps).length) (hlk : ∀ g, f ≤ g → g < f + m → lkG (pG ps) cl g ∈ lkOf ps) (H : Q (bI (qHold ps c v f m))) : W_X12_hold s (nI f) (nI m) (nI c) Q := by
  have hGl : (pG ps).length ≤ 864 := by have := (wfI_wfP hwf).1; have := hl.1; have := hl.2.1; have := hl.2.2.1; have := hl.2.2.2; omega
  unfold W_X12_hold
  intro P6 hP6
  suffices hL : ∀ (r i : Nat), i + r = m → P6 (bI (qHold ps c v f i)) (nI (f + i)) by
    have := hL m 0 (by omega); exact this
  intro r
  induction r with
  | zero =>
    intro i hi
    apply hP6
    rw [nI_addU, nI_leU (by omega) (by omega)]
    refine ⟨fun _ => ⟨?_, ?_⟩, fun hh => absurd (by omega) hh⟩
    · cases qHold ps c v f i
      · exact Or.inl rfl
      · exact Or.inr rfl
    · rw [show i = m by omega]; exact H
  | succ r ih =>
    intro i hi
    have hgl : f + i < (pG ps).length := by omega
    have hst : qHold ps c v f (i + 1) = (qHold ps c v f i && gHold ps c v (pG ps)[f + i]) := by
      unfold qHold; rw [List.range'_1_concat, List.all_append]; simp only [List.all_cons, List.all_nil, Bool.and_true]; rw [getD_at hgl]
    apply hP6
    rw [nI_addU, nI_leU (by omega) (by omega)]
    refine ⟨fun hh => absurd hh (by omega), fun _ => ?_⟩
    intro P34 hP34
    have go : ∀ b : Bool, b = qHold ps c v f (i + 1) → P34 (bI b) := by
      intro b hb
      apply hP34
      intro x5 e5; subst e5; rw [nI_s, hb]
      exact ih (i + 1) (by omega)
    cases hq : qHold ps c v f i
    · exact ⟨fun _ => go false (by rw [hst, hq]; rfl), fun hz => absurd rfl hz⟩
    · refine ⟨fun hz => absurd hz (by decide), fun _ => ?_⟩
      refine k_holds hp hwf hl hres hc hv hgl (hlk _ (by omega) (by omega)) ?_
      cases hg1 : gHold ps c v (pG ps)[f + i]
      · exact ⟨fun _ => go false (by rw [hst, hq, hg1]; rfl), fun hz => absurd rfl hz⟩
      · exact ⟨fun hz => absurd hz (by decide), fun _ => go true (by rw [hst, hq, hg1]; rfl)⟩
theorem k_step {ps : PS} {c : Nat} {v : Nat → Int32} {x : Int32} {Q : Int32 → Prop} (hp : poM s ps) (hwf : wfI ps) (hl : lenP ps) (hres : resOK ps) (hc : c < 16) (hv : vM s v) (H : Q (stepP ps c v x)) : W_X12_step s x (nI c) Q := by
  have l3 := hl.2.2.1
  have l4 := hl.2.2.2
  have hrng := wfI_rng hwf
  have hGl : (pG ps).length ≤ 864 := by have := (wfI_wfP hwf).1; have := hl.1; have := hl.2.1; omega
  unfold W_X12_step
  intro P5 hP5
  suffices hL : ∀ (r w : Nat), w + r = (pW ps).length → P5 (((pW ps).take w).foldl (stepF ps c v x) 0) (nI w) from hL (pW ps).length 0 (by omega)
  intro r
  induction r with
  | zero =>
    intro w hw
    apply hP5
    rw [hp.2.2.2.1.1, nI_leU (by omega) (by omega)]
    refine ⟨fun _ => ?_, fun hh => absurd (by omega) hh⟩
    rw [show w = (pW ps).length by omega, List.take_length]; exact H
  | succ r ih =>
    intro w hw
    have hwl : w < (pW ps).length := by omega
    have hwi := hwf.2.2.2.2.2.2.1 _ (List.getElem_mem hwl)
    have hwr := hrng.2 _ (List.getElem_mem hwl)
    have hws := hp.2.2.2.1.2 w hwl
    unfold ws1r at hws
    have hto : sI s 157 w = nI (tgt ps (pW ps)[w]) := by
      have hm : ((1, w, 0, wP (pW ps)[w]) : Lk) ∈ lkOf ps := by
        unfold lkOf
        rw [List.mem_append]; right
        rw [List.mem_flatten]
        refine ⟨lkW (pG ps) w (pW ps)[w], List.mem_mapIdx.mpr ⟨w, hwl, rfl⟩, ?_⟩
        unfold lkW; rw [List.mem_append]; right; simp
      have := (hp.2.2.2.2.2.2 _ hm).2 rfl
      dsimp only at this
      rw [getD_at hwl] at this; exact this
    have hstep : ((pW ps).take (w + 1)).foldl (stepF ps c v x) 0 = stepF ps c v x (((pW ps).take w).foldl (stepF ps c v x) 0) (pW ps)[w] := by
      rw [take_snoc hwl, List.foldl_append]; rfl
    have hlkw := fun g h1 h2 => mem_lkW (ps := ps) hwl (g := g) h1 h2
    generalize ((pW ps).take w).foldl (stepF ps c v x) 0 = y at *
    generalize (pW ps)[w] = wy at *
    apply hP5
    rw [hp.2.2.2.1.1, nI_leU (by omega) (by omega), nI_ix (n := w) (by omega), hws.1, hws.2.1, hws.2.2.1, hws.2.2.2.1, hto, bit_at (by omega)]
    refine ⟨fun hh => absurd hh (by omega), fun _ => ⟨nI_inU (by omega) (by omega), ?_⟩⟩
    intro P55 hP55
    have nxt : ∀ z : Int32, z = stepF ps c v x y wy → ∀ x6 : Int32, x6 = nI w + 1 → P5 z x6 := by
      intro z hz x6 e6
      subst e6; rw [nI_s, hz, ← hstep]; exact ih (w + 1) (by omega)
    have no : (bt x (wO wy) && wGo ps c v wy) = false → P55 0 := by
      intro hno
      apply hP55
      intro P96 hP96
      refine ⟨fun _ => hP96 _ (nxt y ?_), fun hz => absurd rfl hz⟩
      unfold stepF; rw [hno]; rfl
    have yes : bt x (wO wy) = true → (wCl wy = -1 ∨ wCl wy = (c : Int)) → P55 1 := by
      intro hb hcl
      apply hP55
      intro P96 hP96
      refine ⟨fun hz => absurd hz (by decide), fun _ => ⟨nI_inU (by omega) (by omega), nI_inU (by omega) (by omega), ?_⟩⟩
      refine k_hold hp hwf hl hres hc hv (by omega) (cl := wCl wy) hlkw ?_
      have hgo : wGo ps c v wy = qHold ps c v (wF wy) (wM wy) := by unfold wGo; rw [decide_eq_true hcl, Bool.true_and]
      cases hq : qHold ps c v (wF wy) (wM wy)
      · refine ⟨fun _ => hP96 _ (nxt y ?_), fun hz => absurd rfl hz⟩
        unfold stepF; rw [hb, hgo, hq]; rfl
      · refine ⟨fun hz => absurd hz (by decide), fun _ => ⟨nI_inU (by omega) (by omega), ?_⟩⟩
        intro x11 e11
        refine hP96 _ (nxt x11 ?_)
        subst e11; unfold stepF; rw [hb, hgo, hq]; rfl
    have hcw : Int32.ofInt (wCl wy) < 0 ↔ wCl wy < 0 := by
      rw [Int32.lt_iff_toInt_lt, oI_toInt (by omega) (by omega)]; exact Iff.rfl
    have hcw2 : Int32.ofInt (wCl wy) = nI c ↔ wCl wy = (c : Int) := by
      rw [← Int32.toInt_inj, oI_toInt (by omega) (by omega), nI_toIntU (by omega)]
    rw [hcw, hcw2]
    cases hb : bt x (wO wy)
    · exact ⟨fun _ => no (by rw [hb]; rfl), fun hz => absurd hz (by decide)⟩
    · refine ⟨fun hz => absurd rfl hz, fun _ => ⟨nI_inU (by omega) (by omega), fun h1 => yes hb (Or.inl (by omega)), fun h1 => ⟨nI_inU (by omega) (by omega), fun h2 => no ?_, fun h2 => yes hb (Or.inr h2)⟩⟩⟩
      unfold wGo; rw [decide_eq_false (fun hh => hh.elim (fun h3 => by omega) h2)]; simp
end
