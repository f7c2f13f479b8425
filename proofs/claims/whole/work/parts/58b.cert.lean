/-! ===== PURE: certified ===== -/
def pas (ps : PS) (S : List Int32) (l : List Fn) (f i : Nat) : Prop := (opA (fnA l f) i = 29 → i + 1 < (fC (fnA l f)).length ∧ gdd (fnA l f) (i + 1) = true) ∧ (¬ opA (fnA l f) i = 29 → nds ps S l f i → gdd (fnA l f) i = true)
noncomputable def psB (ps : PS) (S : List Int32) (l : List Fn) (f i : Nat) : Bool := @decide (pas ps S l f i) (Classical.propDecidable _)
theorem psB_t {ps : PS} {S : List Int32} {l : List Fn} {f i : Nat} (h : pas ps S l f i) : psB ps S l f i = true := by unfold psB; exact @decide_eq_true _ (Classical.propDecidable _) h
theorem psB_f {ps : PS} {S : List Int32} {l : List Fn} {f i : Nat} (h : ¬ pas ps S l f i) : psB ps S l f i = false := by unfold psB; exact @decide_eq_false _ (Classical.propDecidable _) h
def crI (pb : Nat → Nat → Bool) (f : Nat) : Nat → Nat → Option Nat
  | 0, _ => none
  | r + 1, i => if pb f i = true then crI pb f r (i + 1) else some (1 + 512 * f + i)
def crF (l : List Fn) (pb : Nat → Nat → Bool) : Nat → Nat → Nat
  | 0, _ => 0
  | r + 1, f => match crI pb f (fC (fnA l f)).length 0 with
    | some v => v
    | none => crF l pb r (f + 1)
noncomputable def crt (ps : PS) (S : List Int32) (l : List Fn) : Nat := crF l (psB ps S l) l.length 0
section
variable {s : yS} {g p q n : Nat} {l : List Fn} {ps : PS} {S : List Int32} {f i : Nat}
theorem c_passes {Q : Int32 → Prop} (hok : pgOK l) (hm : mkd ps S) (hp : pgC s g l) (hpl : plC s p ps S) (hru : ruC s p (pR ps)) (hmy : myC s g l (RJs ps S) (nn ps S)) (hf : f < l.length) (hi : i < (fC l[f]).length) (H : Q (bI (psB ps S l f i))) : W_X0_passes s g p (nI f) (nI i) Q := by
  have h4 := (hok.2.2.1 f hf).2.2.2.2.2.2.2.2.1
  have h12 := hok.2.1
  have hco := (hp.2 f hf).2.2.2.2.2.2.1 i hi
  have hsz := (hp.2 f hf).2.2.2.2.1
  have hio := (hok.2.2.1 f hf).2.2.2.2.2.2.2.2.2.2.1 _ (List.getElem_mem hi)
  rw [← opA_at hi, ← orA_at hi] at hco
  have o29 : opA l[f] i ≤ 29 := by rw [opA_at hi]; exact hio.1
  have hin : vp_in (nI (f * 400 + i)) 4800 := nI_inU (by omega) (by omega)
  have yes : pas ps S l f i → Q 1 := fun h => by rw [psB_t h] at H; exact H
  have no : ¬ pas ps S l f i → Q 0 := fun h => by rw [psB_f h] at H; exact H
  clear H
  unfold pas at yes no
  rw [fnA_at hf] at yes no
  unfold W_X0_passes
  rw [nI_mul, nI_addU]
  intro x1 e1
  subst e1
  rw [nI_ix (n := f * 400 + i) (by omega), hco.1, nI_inj (by omega) (by omega)]
  refine ⟨hin, fun n29 => ?_, fun h29 => ⟨nI_inU (by omega) (by omega), ?_⟩⟩
  · refine c_needs hok hm hp hpl hru hmy hf hi (fun r hr => ?_)
    cases r with
    | false => exact ⟨fun _ => yes ⟨fun h => absurd h n29, fun _ h => absurd (hr.mpr h) (by decide)⟩, fun hz => absurd rfl hz⟩
    | true =>
      refine ⟨fun hz => absurd hz (by decide), fun _ => c_isGuarded hok hp hf hi ?_⟩
      cases hg : gdd l[f] i with
      | false => exact ⟨fun _ => no (fun h => absurd (h.2 n29 (hr.mp rfl)) (by rw [hg]; decide)), fun hz => absurd rfl hz⟩
      | true => exact ⟨fun hz => absurd hz (by decide), fun _ => yes ⟨fun h => absurd h n29, fun _ _ => hg⟩⟩
  · rw [nI_ix (n := f) (by omega), hsz, nI_s, nI_leU (by omega) (by omega)]
    refine ⟨fun hle => no (fun h => by have := (h.1 h29).1; omega), fun hlt => c_isGuarded hok hp hf (by omega) ?_⟩
    cases hg : gdd l[f] (i + 1) with
    | false => exact ⟨fun _ => no (fun h => absurd (h.1 h29).2 (by rw [hg]; decide)), fun hz => absurd rfl hz⟩
    | true => exact ⟨fun hz => absurd hz (by decide), fun _ => yes ⟨fun _ => ⟨by omega, hg⟩, fun h => absurd h29 h⟩⟩
/-- the other one's loop -/
theorem c_cert {Q : Int32 → yS → Prop} (hok : pgOK l) (hm : mkd ps S) (hp : pgC s g l) (hp3 : p = 3 ∨ p = 20) (hr6 : sR s 0 6 = p + 1) (hpl : plC s p ps S) (hru : ruC s p (pR ps)) (hmy : myC s g l (RJs ps S) (nn ps S)) (H : Q (nI (crt ps S l)) s) : ∀ P30 : Int32 → Prop, (∀ (x5 : Int32), ((((sI s g 0) ≤ x5 → Q 0 s)
   ∧ (¬ (sI s g 0) ≤ x5 → ∀ P41 : Int32 → Prop, (∀ (x6 : Int32), (vp_in x5 12 ∧ 
     (((sI s (g + 5) (ix x5)) ≤ x6 → ∀ x8 : Int32, x8 = (x5 + 1) → 
      P30 x8)
     ∧ (¬ (sI s (g + 5) (ix x5)) ≤ x6 → ∃ p9 : Nat, sR s 0 6 = p9 + 1 ∧ kd p9 = some (7, 0) ∧ 
      W_X0_passes s g p9 x5 x6 
      (fun r10 => ((¬ r10 = 0 → ∀ x11 : Int32, x11 = (x6 + 1) → 
       P41 x11)
      ∧ (r10 = 0 → Q ((1 + ((nI 512) * x5)) + x6) s)))))) → P41 x6) → 
    P41 0))) → P30 x5) → 
  P30 0 := by
  have h12 := hok.2.1
  intro P30 hP30
  rw [hp.1] at hP30
  have hkp : kd p = some (7, 0) := by rcases hp3 with e | e <;> (rw [e]; rfl)
  suffices hL : ∀ (r f : Nat), f + r = l.length → crt ps S l = crF l (psB ps S l) r f → P30 (nI f) from hL l.length 0 (Nat.zero_add _) rfl
  intro r
  induction r with
  | zero =>
    intro f hf hc
    apply hP30
    refine ⟨fun _ => ?_, fun hz => absurd ((nI_leU (by omega) (by omega)).mpr (by omega)) hz⟩
    rw [hc] at H; exact H
  | succ r ih =>
    intro f hf hc
    have hfl : f < l.length := by omega
    have h4 := (hok.2.2.1 f hfl).2.2.2.2.2.2.2.2.1
    have hin : vp_in (nI f) 12 := nI_inU (by omega) (by omega)
    rw [crF, fnA_at hfl] at hc
    apply hP30
    refine ⟨fun hz => absurd ((nI_leU (by omega) (by omega)).mp hz) (by omega), fun _ => ?_⟩
    intro P41 hP41
    rw [nI_ix (n := f) (by omega), (hp.2 f hfl).2.2.2.2.1] at hP41
    suffices hI : ∀ (r i : Nat), i + r = (fC l[f]).length → crI (psB ps S l) f (fC l[f]).length 0 = crI (psB ps S l) f r i → P41 (nI i) from hI _ 0 (Nat.zero_add _) rfl
    intro r2
    induction r2 with
    | zero =>
      intro i hi hci
      apply hP41
      refine ⟨hin, fun _ => ?_, fun hz => absurd ((nI_leU (by omega) (by omega)).mpr (by omega)) hz⟩
      intro x8 e8
      subst e8; rw [nI_s]
      rw [hci] at hc
      exact ih (f + 1) (by omega) hc
    | succ r2 ih2 =>
      intro i hi hci
      have hil : i < (fC l[f]).length := by omega
      rw [crI] at hci
      apply hP41
      refine ⟨hin, fun hz => absurd ((nI_leU (by omega) (by omega)).mp hz) (by omega), fun _ => ⟨p, hr6, hkp, ?_⟩⟩
      refine c_passes hok hm hp hpl hru hmy hfl hil ?_
      cases hps : psB ps S l f i with
      | false =>
        rw [hps, if_neg (by decide)] at hci
        rw [hci] at hc
        refine ⟨fun hz => absurd rfl hz, fun _ => ?_⟩
        rw [hc] at H
        rw [show (1 : Int32) = nI 1 from rfl, nI_mul, nI_addU, nI_addU]; exact H
      | true =>
        rw [hps, if_pos rfl] at hci
        refine ⟨fun _ => ?_, fun hz => absurd hz (by decide)⟩
        intro x11 e11
        subst e11; rw [nI_s]
        exact ih2 (i + 1) (by omega) hci
theorem k_cert {Q : Int32 → yS → Prop} (hq : q ≤ 1) (hok : pgOK l) (hm : mkd ps S) (hp : pgM s q l) (hpl : plM s ps S) (hmy : myM s q l (RJs ps S) (nn ps S)) (H : Q (nI (crt ps S l)) s) : ∀ P33 : Int32 → Prop, (∀ (x5 : Int32), (vp_in (nI q) 3 ∧ 
    (((sI s 178 (ix (nI q))) ≤ x5 → Q 0 s)
    ∧ (¬ (sI s 178 (ix (nI q))) ≤ x5 → ∀ P46 : Int32 → Prop, (∀ (x7 : Int32), (vp_in (((nI 12) * (nI q)) + x5) 36 ∧ 
      (((sI s 184 (ix (((nI 12) * (nI q)) + x5))) ≤ x7 → ∀ x9 : Int32, x9 = (x5 + 1) → 
       P33 x9)
      ∧ (¬ (sI s 184 (ix (((nI 12) * (nI q)) + x5))) ≤ x7 → ∀ x10 : Int32, x10 = ((((nI 4800) * (nI q)) + ((nI 400) * x5)) + x7) → 
       vp_in (((nI 12) * (nI q)) + x5) 36 ∧ 
       ∀ P101 : Int32 → Prop, (∀ (y12 : Int32), (vp_in x10 14400 ∧ 
        ∀ P166 : Int32 → Prop, (∀ (y14 : Int32), (((¬ y14 = 0 → Q ((1 + ((nI 512) * x5)) + x7) s)
         ∧ (y14 = 0 → W_X12_needs s (nI q) x5 x7 
          (fun r15 => ∀ P206 : Prop, ((∀ x16 : Int32, x16 = (x7 + 1) → 
           P46 x16) → P206) → 
          ((r15 = 0 → P206)
          ∧ (¬ r15 = 0 → W_X12_isGuarded s (nI q) x5 x7 
           (fun r17 => ((¬ r17 = 0 → P206)
           ∧ (r17 = 0 → Q ((1 + ((nI 512) * x5)) + x7) s))))))))) → P166 y14) → 
        ((¬ (sI s 186 (ix x10)) = (nI 29) → P166 0)
        ∧ ((sI s 186 (ix x10)) = (nI 29) → ((¬ y12 = 0 → P166 1)
         ∧ (y12 = 0 → ∀ P136 : Int32 → Prop, (∀ (y18 : Int32), (vp_in (x10 + y18) 14400 ∧ 
           vp_in x10 14400 ∧ 
           ((¬ (sI s 187 (ix (x10 + y18))) = (sI s 187 (ix x10)) → P166 1)
           ∧ ((sI s 187 (ix (x10 + y18))) = (sI s 187 (ix x10)) → W_X12_isGuarded s (nI q) x5 (x7 + 1) 
            (fun r21 => ((¬ r21 = 0 → P166 0)
            ∧ (r21 = 0 → P166 1)))))) → P136 y18) → 
          ((y12 = 0 → P136 1)
          ∧ (¬ y12 = 0 → P136 0))))))) → P101 y12) → 
       ((¬ (x7 + 1) = (sI s 184 (ix (((nI 12) * (nI q)) + x5))) → P101 0)
       ∧ ((x7 + 1) = (sI s 184 (ix (((nI 12) * (nI q)) + x5))) → P101 1))))) → P46 x7) → 
     P46 0))) → P33 x5) → 
   P33 0 := by
  have h12 := hok.2.1
  intro P33 hP33
  have inq : vp_in (nI q) 3 := nI_inU (by omega) (by omega)
  rw [nI_ix (n := q) (by omega), hp.1] at hP33
  suffices hL : ∀ (r f : Nat), f + r = l.length → crt ps S l = crF l (psB ps S l) r f → P33 (nI f) from hL l.length 0 (Nat.zero_add _) rfl
  intro r
  induction r with
  | zero =>
    intro f hf hc
    apply hP33
    refine ⟨inq, fun _ => ?_, fun hz => absurd ((nI_leU (by omega) (by omega)).mpr (by omega)) hz⟩
    rw [hc] at H; exact H
  | succ r ih =>
    intro f hf hc
    have hfl : f < l.length := by omega
    have h4 := (hok.2.2.1 f hfl).2.2.2.2.2.2.2.2.1
    have hin : vp_in (nI (12 * q + f)) 36 := nI_inU (by omega) (by omega)
    rw [crF, fnA_at hfl] at hc
    apply hP33
    refine ⟨inq, fun hz => absurd ((nI_leU (by omega) (by omega)).mp hz) (by omega), fun _ => ?_⟩
    intro P46 hP46
    rw [nI_mul, nI_mul, nI_mul, nI_mul, nI_addU, nI_addU, nI_ix (n := 12 * q + f) (by omega), (hp.2 f hfl).2.2.2.2.1] at hP46
    suffices hI : ∀ (r i : Nat), i + r = (fC l[f]).length → crI (psB ps S l) f (fC l[f]).length 0 = crI (psB ps S l) f r i → P46 (nI i) from hI _ 0 (Nat.zero_add _) rfl
    intro r2
    induction r2 with
    | zero =>
      intro i hi hci
      apply hP46
      refine ⟨hin, fun _ => ?_, fun hz => absurd ((nI_leU (by omega) (by omega)).mpr (by omega)) hz⟩
      intro x8 e8
      subst e8; rw [nI_s]
      rw [hci] at hc
      exact ih (f + 1) (by omega) hc
    | succ r2 ih2 =>
      intro i hi hci
      have hil : i < (fC l[f]).length := by omega
      rw [crI] at hci
      have hco : ∀ j, j < (fC l[f]).length → sI s 186 (4800 * q + 400 * f + j) = nI (opA l[f] j) ∧ sI s 187 (4800 * q + 400 * f + j) = orA l[f] j := fun j hj => by
        rw [opA_at hj, orA_at hj]; exact (hp.2 f hfl).2.2.2.2.2.2.1 j hj
      have o29 : opA l[f] i ≤ 29 := by rw [opA_at hil]; exact ((hok.2.2.1 f hfl).2.2.2.2.2.2.2.2.2.2.1 _ (List.getElem_mem hil)).1
      have hin4 : vp_in (nI (4800 * q + 400 * f + i)) 14400 := nI_inU (by omega) (by omega)
      apply hP46
      refine ⟨hin, fun hz => absurd ((nI_leU (by omega) (by omega)).mp hz) (by omega), fun _ => ?_⟩
      rw [nI_addU]
      intro x10 e10
      subst e10
      refine ⟨hin, ?_⟩
      rw [nI_s, nI_inj (by omega) (by omega), nI_ix (n := 4800 * q + 400 * f + i) (by omega), (hco i hil).1, (hco i hil).2]
      intro P101 hP101
      have bad : ¬ pas ps S l f i → Q ((1 + nI (512 * f)) + nI i) s := fun h => by
        rw [psB_f h, if_neg (by decide)] at hci
        rw [hci] at hc
        rw [hc] at H
        rw [show (1 : Int32) = nI 1 from rfl, nI_addU, nI_addU]; exact H
      have good : pas ps S l f i → ∀ x16 : Int32, x16 = nI i + 1 → P46 x16 := fun h x16 e16 => by
        rw [psB_t h, if_pos rfl] at hci
        subst e16; rw [nI_s]
        exact ih2 (i + 1) (by omega) hci
      unfold pas at bad good
      rw [fnA_at hfl] at bad good
      rw [nI_mul, nI_s] at *
      have bad29 : opA l[f] i = 29 → ¬ (i + 1 < (fC l[f]).length ∧ gdd l[f] (i + 1) = true) → ∀ P166 : Int32 → Prop, (∀ (y14 : Int32), (((¬ y14 = 0 → Q ((1 + nI (512 * f)) + nI i) s)
         ∧ (y14 = 0 → W_X12_needs s (nI q) (nI f) (nI i) 
          (fun r15 => ∀ P206 : Prop, ((∀ x16 : Int32, x16 = nI (i + 1) → 
           P46 x16) → P206) → 
          ((r15 = 0 → P206)
          ∧ (¬ r15 = 0 → W_X12_isGuarded s (nI q) (nI f) (nI i) 
           (fun r17 => ((¬ r17 = 0 → P206)
           ∧ (r17 = 0 → Q ((1 + nI (512 * f)) + nI i) s))))))))) → P166 y14) → P166 1 := fun h29 hn P166 hP166 => hP166 _ ⟨fun _ => bad (fun h => hn (h.1 h29)), fun hz => absurd hz (by decide)⟩
      have good0 : (opA l[f] i = 29 → i + 1 < (fC l[f]).length ∧ gdd l[f] (i + 1) = true) → ∀ P166 : Int32 → Prop, (∀ (y14 : Int32), (((¬ y14 = 0 → Q ((1 + nI (512 * f)) + nI i) s)
         ∧ (y14 = 0 → W_X12_needs s (nI q) (nI f) (nI i) 
          (fun r15 => ∀ P206 : Prop, ((∀ x16 : Int32, x16 = nI (i + 1) → 
           P46 x16) → P206) → 
          ((r15 = 0 → P206)
          ∧ (¬ r15 = 0 → W_X12_isGuarded s (nI q) (nI f) (nI i) 
           (fun r17 => ((¬ r17 = 0 → P206)
           ∧ (r17 = 0 → Q ((1 + nI (512 * f)) + nI i) s))))))))) → P166 y14) → P166 0 := fun h29 P166 hP166 => by
        apply hP166
        refine ⟨fun hz => absurd rfl hz, fun _ => k_needs hq hok hm hp hpl hmy hfl hil (fun r hr => ?_)⟩
        intro P206 hP206
        cases r with
        | false => exact ⟨fun _ => hP206 (good ⟨h29, fun _ h => absurd (hr.mpr h) (by decide)⟩), fun hz => absurd rfl hz⟩
        | true =>
          have hnd := hr.mp rfl
          have h26 := hnd.1
          rw [fnA_at hfl] at h26
          refine ⟨fun hz => absurd hz (by decide), fun _ => k_isGuarded (by omega) hok hp hfl hil ?_⟩
          cases hg : gdd l[f] i with
          | false => exact ⟨fun hz => absurd rfl hz, fun _ => bad (fun h => absurd (h.2 (by omega) hnd) (by rw [hg]; decide))⟩
          | true => exact ⟨fun _ => hP206 (good ⟨h29, fun _ _ => hg⟩), fun hz => absurd hz (by decide)⟩
      have c29 : nI (opA l[f] i) = nI 29 ↔ opA l[f] i = 29 := nI_inj (by omega) (by omega)
      refine ⟨fun hne => ?_, fun heq => ?_⟩
      · apply hP101
        rw [c29]
        refine ⟨hin4, ?_⟩
        intro P166 hP166
        refine ⟨fun n29 => good0 (fun h => absurd h n29) P166 hP166, fun h29 => ⟨fun hz => absurd rfl hz, fun _ => ?_⟩⟩
        intro P136 hP136
        refine ⟨fun _ => ?_, fun hz => absurd rfl hz⟩
        apply hP136
        have hi1 : i + 1 < (fC l[f]).length := by omega
        rw [nI_s, Nat.add_assoc _ i 1, nI_ix (n := 4800 * q + 400 * f + (i + 1)) (by omega), (hco _ hi1).2]
        refine ⟨nI_inU (by omega) (by omega), hin4, fun hne2 => bad29 h29 (fun hh => hne2 ?_) P166 hP166, fun heq2 => k_isGuarded (by omega) hok hp hfl hi1 ?_⟩
        · have hg := hh.2
          unfold gdd at hg
          rw [Bool.and_eq_true, decide_eq_true_eq] at hg
          have := hg.1.2.2.2
          rw [Nat.add_sub_cancel] at this
          exact this.symm
        · cases hg : gdd l[f] (i + 1) with
          | false => exact ⟨fun hz => absurd rfl hz, fun _ => bad29 h29 (fun hh => absurd hh.2 (by rw [hg]; decide)) P166 hP166⟩
          | true => exact ⟨fun _ => good0 (fun _ => ⟨hi1, hg⟩) P166 hP166, fun hz => absurd hz (by decide)⟩
      · apply hP101
        rw [c29]
        refine ⟨hin4, ?_⟩
        intro P166 hP166
        refine ⟨fun n29 => good0 (fun h => absurd h n29) P166 hP166, fun h29 => ⟨fun _ => bad29 h29 (by omega) P166 hP166, fun hz => absurd hz (by decide)⟩⟩
end
