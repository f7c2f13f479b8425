/-! ===== PURE: loadPolicy of the other one ===== -/
section
variable {s : yS}
def byC (s : yS) (B : Nat → Nat) (n : Nat) : Prop := txC s B n ∧ (sI s 0 2) = nI n
/-- what is always so of a policy's cells -/
def poI (s : yS) (p : Nat) : Prop := (sI s (p + 5)) 0 = 0 ∧ sI s (p + 13) 0 = 0
def keyI (s : yS) : Prop := ∀ κ, κ < 4096 → (sI s 110) κ = -1
def dQ (p a i : Nat) : Prop := (a = 0 ∧ (i = 4 ∨ i = 5)) ∨ (91 ≤ a ∧ a ≤ 112 ∧ a ≠ 96) ∨ (p ≤ a ∧ a ≤ p + 16)
/-- frame of loading, with references -/
def frQ (p : Nat) (s s' : yS) : Prop := (∀ a i, ¬ dQ p a i → sI s' a i = sI s a i) ∧ (∀ a i, ¬ dQ p a i → sJ s' a i = sJ s a i) ∧ ∀ a i, ¬ (a = 91 ∧ i = 4) → ¬ (a = 103 ∧ i = 0) → sR s' a i = sR s a i
theorem frQ.of {p : Nat} {D : Nat → Nat → Prop} {s t u : yS} (h : frQ p s t) (k : frM D t u) (hd : ∀ a i, D a i → dQ p a i) : frQ p s u :=
  ⟨fun a i n => (k.1 a i (fun d => n (hd a i d))).trans (h.1 a i n), fun a i n => (k.2.1 a i (fun d => n (hd a i d))).trans (h.2.1 a i n), fun a i n1 n2 => (k.2.2 a i).trans (h.2.2 a i n1 n2)⟩
theorem pAll_none {T : Nat → Nat} {n : Nat} {ps : PS} (h1 : pTop (tkJ T n) 8193 n 32 ps0 0 = .ok ps) (h2 : pRes ps = none) : pAll T n = .ok ps := by
  unfold pAll; rw [h1]; simp only [h2]
theorem c_loadPolicy {B : Nat → Nat} {nb p pc g : Nat} {Q : Int32 → yS → Prop} (hy : byC s B nb) (hw : wdC s) (hk : keyI s) (hp3 : p = 3 ∧ pc = 20 ∨ p = 20 ∧ pc = 3) (hsp : (sR s 0 7) = p + 1) (hcu : (sR s 0 6) = pc + 1) (hpi : poI s p) (hg : (sR s 0 8) = g + 1) (hgk : kd g = some (9, 0)) (hg3 : 37 ≤ g ∧ g < 91)
    (Hok : ∀ ps S, polP B nb = .ok (ps, S) → ∀ s', (∀ a i, ¬ dQ p a i → ¬ (a = 0 ∧ i = 12) → ¬ (a = g ∧ i = 13) → ¬ (a = 124 ∧ i = 0) → ¬ (a = 136 ∧ i = 0) → a ≠ 137 → sI s' a i = sI s a i) → (∀ a i, ¬ dQ p a i → a ≠ 137 → sJ s' a i = sJ s a i) → (∀ a i, ¬ (a = 91 ∧ i = 4) → ¬ (a = 103 ∧ i = 0) → ¬ (a = 0 ∧ (i = 6 ∨ i = 7)) → sR s' a i = sR s a i) → (sR s' 0 6) = p + 1 → (sR s' 0 7) = pc + 1 → keyI s' → poI s' p → poC s' p ps → plC s' p ps S → (sI s' 0 4) = 0 → (sI s' 0 5) = -1 → (sI s' 0 12) = 0 → sI s' g 13 = 0 → (sI s' 124) 0 = -1 → (sI s' 136 0) = 0 → (∀ k, k < 6 → (sI s' 137) k = 0) → Q 0 s')
    (Herr : ∀ e, polP B nb = .error e → 1 ≤ e.1 → e.1 ≤ 8 → ∀ s', frQ p s s' → keyI s' → poI s' p → (sI s' 0 4) = nI e.1 → (sI s' 0 5) = nI e.2 → Q (nI e.1) s') : W_X11_loadPolicy s Q := by
  have hkd : kd p = some (7, 0) := by rcases hp3 with h | h <;> (rw [h.1]; rfl)
  have hkd2 : kd pc = some (7, 0) := by rcases hp3 with h | h <;> (rw [h.2]; rfl)
  have hpp : p = 3 ∨ p = 20 := by omega
  have hnb := hy.1.1
  unfold W_X11_loadPolicy
  refine ⟨p, hsp, hkd, ?_⟩
  rw [hy.2]
  -- a fault found while reading or in names
  have late : ∀ (e : Nat × Nat) (s5 : yS), polP B nb = .error e → 1 ≤ e.1 → e.1 ≤ 8 → frQ p s s5 → keyI s5 → poI s5 p → (sI s5 91 1) = nI e.2 → ∀ s6 : yS, s6 = wI s5 0 4 (nI e.1) → ∀ s7 : yS, s7 = wI s6 0 5 (sI s6 91 1) → 
      (sI s7 0 4 = nI e.1) ∧ Q (nI e.1) s7 := by
    intro e s5 he h1 h8 F5 k5 i5 w5 s6 e6 s7 e7
    have f7 : sI s7 0 4 = nI e.1 := by subst e7; rw [sI_w, if_neg (by omega)]; subst e6; rw [sI_w, if_pos ⟨rfl, rfl⟩]
    refine ⟨f7, Herr e he h1 h8 s7 ?_ ?_ ?_ f7 ?_⟩
    · subst e7; subst e6
      exact F5.of ((frM.rfl'.wI (D := fun a i => a = 0 ∧ (i = 4 ∨ i = 5)) (by omega)).wI (by omega)) (fun a i h => by unfold dQ; omega)
    · intro κ hκ; subst e7; rw [sI_w, if_neg (by omega)]; subst e6; rw [sI_w, if_neg (by omega)]; exact k5 κ hκ
    · refine ⟨?_, ?_⟩
      · subst e7; rw [sI_w, if_neg (by omega)]; subst e6; rw [sI_w, if_neg (by omega)]; exact i5.1
      · subst e7; rw [sI_w, if_neg (by omega)]; subst e6; rw [sI_w, if_neg (by omega)]; exact i5.2
    · subst e7; rw [sI_w, if_pos ⟨rfl, rfl⟩]; subst e6; rw [sI_w, if_neg (by omega)]; exact w5
  have ne0 : ∀ e : Nat × Nat, 1 ≤ e.1 → e.1 ≤ 8 → ¬ nI e.1 = 0 := fun e h1 h8 hh => by rw [nI_0U, nI_inj (by omega) (by omega)] at hh; omega
  -- a fault of the tables
  have tbl : ∀ (k : Nat) (s25 : yS) (P115 : yS → Prop), (k = 7 ∨ k = 8) → polP B nb = .error (k, nb) → frQ p s s25 → keyI s25 → poI s25 p → (sI s25 0 5) = nI nb → (∀ s8 : yS, ((((sI s8 0 4) = 0 → ∀ s9 : yS, s9 = wI s8 0 5 (-1) → 
      ∃ p10 : Nat, sR s9 0 6 = p10 + 1 ∧ kd p10 = some (7, 0) ∧ 
      ∃ p11 : Nat, sR s9 0 7 = p11 + 1 ∧ kd p11 = some (7, 0) ∧ 
      ∀ s12 : yS, s12 = wR s9 0 6 (p11 + 1) → 
      ∀ s13 : yS, s13 = wR s12 0 7 (p10 + 1) → 
      ∃ p14 : Nat, sR s13 0 8 = p14 + 1 ∧ kd p14 = some (9, 0) ∧ 
      ∀ s15 : yS, s15 = wI s13 p14 13 0 → 
      ∀ s16 : yS, s16 = wI s15 0 12 0 → 
      W_X2_forget s16 
      (fun s17 => W_X10_begin s17 136 
      (fun s18 => Q 0 s18)))
     ∧ (¬ (sI s8 0 4) = 0 → Q (sI s8 0 4) s8))) → P115 s8) → ∀ s26 : yS, s26 = wI s25 0 4 (nI k) → P115 s26 := by
    intro k s25 P115 hk78 he F25 k25 i25 w25 hP115 s26 e26
    have f26 : sI s26 0 4 = nI k := by subst e26; rw [sI_w, if_pos ⟨rfl, rfl⟩]
    apply hP115
    rw [f26]
    refine ⟨fun hh => absurd hh (ne0 (k, nb) (by show 1 ≤ k; omega) (by show k ≤ 8; omega)), fun _ => ?_⟩
    refine Herr (k, nb) he (by show 1 ≤ k; omega) (by show k ≤ 8; omega) s26 ?_ ?_ ?_ f26 ?_
    · subst e26
      exact F25.of (frM.rfl'.wI (D := fun a i => a = 0 ∧ (i = 4 ∨ i = 5)) (by omega)) (fun a i h => by unfold dQ; omega)
    · intro κ hκ; subst e26; rw [sI_w, if_neg (by omega)]; exact k25 κ hκ
    · exact ⟨by subst e26; rw [sI_w, if_neg (by omega)]; exact i25.1, by subst e26; rw [sI_w, if_neg (by omega)]; exact i25.2⟩
    · subst e26; rw [sI_w, if_neg (by omega)]; exact w25
  refine c_parse hy.1 hw hpp hpi.1 (fun ps hps s3 F3 pol3 ps3 z3 w3 => ?_) (fun e he s3 F3 er3 => ?_)
  · have Q3 : frQ p s s3 := ⟨fun a i n => F3.1 a i (fun h => n (by unfold dEr at h; unfold dQ; omega)) (fun h => n (by unfold dQ; omega)) (fun h => n (by unfold dQ; omega)) (fun h => n (by unfold dQ; omega)), fun a i n => F3.2.1 a i (fun h => n (by unfold dEr at h; unfold dQ; omega)) (fun h => n (by unfold dQ; omega)), fun a i n1 n2 => F3.2.2 a i n1⟩
    have k3 : keyI s3 := fun κ hκ => by rw [F3.1 _ _ (by unfold dEr; omega) (by omega) (by omega) (by omega)]; exact hk κ hκ
    have i3 : poI s3 p := ⟨(F3.1 _ _ (by unfold dEr; omega) (by omega) (by omega) (by omega)).trans hpi.1, (F3.1 _ _ (by unfold dEr; omega) (by omega) (by omega) (by omega)).trans hpi.2⟩
    obtain ⟨hwf, hl, hN⟩ := pTop_wf hps
    intro P40 hP40
    refine ⟨fun hh => absurd hh (by decide), fun _ => ?_⟩
    refine c_findNames pol3 ps3 hl hwf hN z3 (fun hpr s5 F5 z5 w5 po5 => ?_) (fun e hpr h1 h8 s5 F5 z5 w5 => ?_)
    · -- read and looked up
      have hres := pRes_ok hpr
      have hpa := pAll_none hps hpr
      have Q5 : frQ p s s5 := Q3.of F5 (fun a i h => by unfold dN at h; unfold dQ; omega)
      have k5 : keyI s5 := fun κ hκ => by rw [F5.1 _ _ (by unfold dN; omega)]; exact k3 κ hκ
      have i5 : poI s5 p := ⟨(F5.1 _ _ (by unfold dN; omega)).trans i3.1, (F5.1 _ _ (by unfold dN; omega)).trans i3.2⟩
      apply hP40
      intro s6 e6 s7 e7 P115 hP115
      have f7 : sI s7 0 4 = 0 := by subst e7; rw [sI_w, if_neg (by omega)]; subst e6; rw [sI_w, if_pos ⟨rfl, rfl⟩]
      rw [f7]
      refine ⟨fun hh => absurd rfl hh, fun _ => ?_⟩
      intro s19 e19
      have b7 : sI s7 0 2 = nI nb := by
        subst e7; rw [sI_w, if_neg (by omega)]; subst e6; rw [sI_w, if_neg (by omega), Q5.1 _ _ (by unfold dQ; omega)]; exact hy.2
      rw [b7] at e19
      have F19 : frM (fun a i => a = 0 ∧ (i = 4 ∨ i = 5)) s5 s19 := by
        subst e19; subst e7; subst e6; exact ((frM.rfl'.wI (by omega)).wI (by omega)).wI (by omega)
      have w19 : sI s19 0 5 = nI nb := by subst e19; rw [sI_w, if_pos ⟨rfl, rfl⟩]
      clear e19 e7 e6
      have Q19 : frQ p s s19 := Q5.of F19 (fun a i h => by unfold dQ; omega)
      have k19 : keyI s19 := fun κ hκ => by rw [F19.1 _ _ (by omega)]; exact k5 κ hκ
      have i19 : poI s19 p := ⟨(F19.1 _ _ (by omega)).trans i5.1, (F19.1 _ _ (by omega)).trans i5.2⟩
      have po19 : poC s19 p ps := po5.fr (fun a i ha => F19.1 _ _ (by omega))
      have r19 : sR s19 0 7 = p + 1 := (Q19.2.2 _ _ (by omega) (by omega)).trans hsp
      refine ⟨p, r19, hkd, p, r19, hkd, ?_⟩
      refine c_divide hpp po19 hwf hl hres i19.2 (fun ho s23 F23 l23 l23b => ?_) (fun ho s23 F23 l23 => ?_)
      · have Q23 : frQ p s s23 := Q19.of F23 (fun a i h => by unfold dLt at h; unfold dQ; omega)
        have k23 : keyI s23 := fun κ hκ => by rw [F23.1 _ _ (by unfold dLt; omega)]; exact k19 κ hκ
        have lt23 : ltF s23 p ps := ⟨ho, l23, l23b⟩
        have po23 : poC s23 p ps := po19.fr (fun a i ha => F23.1 _ _ (by unfold dLt; omega))
        have r23 : sR s23 0 7 = p + 1 := (Q23.2.2 _ _ (by omega) (by omega)).trans hsp
        have i23 : poI s23 p := ⟨(F23.1 _ _ (by unfold dLt; omega)).trans i19.1, by rw [l23.1 0 (by omega)]; rfl⟩
        have w23 : sI s23 0 5 = nI nb := (F23.1 _ _ (by unfold dLt; omega)).trans w19
        intro P112 hP112
        refine ⟨fun _ => ⟨p, r23, hkd, ?_⟩, fun hh => absurd hh (by decide)⟩
        refine c_make hpp po23 lt23 hwf hl hres k23 (fun S hS u s29 eu F29 k29 pl29 => ?_) (fun hS u s29 eu F29 k29 => ?_)
        · refine ⟨fun _ => ?_, fun hh => absurd hh (by decide)⟩
          apply hP112
          intro s26 e26
          have hpol : polP B nb = .ok (ps, S) := by
            unfold polP; rw [hpa]; simp only [if_neg (show ¬ 512 < offs ps 16 by omega), hS]
          have po29 : poC s29 p ps := po23.fr (fun a i ha => by rw [F29.1 _ _ (by unfold dMk; omega)]; subst eu; rfl)
          have i29 : poI s29 p := ⟨by rw [F29.1 _ _ (by unfold dMk; omega)]; subst eu; exact i23.1, by rw [F29.1 _ _ (by unfold dMk; omega)]; subst eu; exact i23.2⟩
          have Qi : ∀ a i, ¬ dQ p a i → sI s29 a i = sI s a i := fun a i n => by
            rw [F29.1 _ _ (fun h => n (by unfold dMk at h; unfold dQ; omega))]; subst eu; exact Q23.1 a i n
          have Qj : ∀ a i, ¬ dQ p a i → sJ s29 a i = sJ s a i := fun a i n => by
            rw [F29.2.1 _ _ (fun h => n (by unfold dMk at h; unfold dQ; omega))]; subst eu; exact Q23.2.1 a i n
          have Qr : ∀ a i, ¬ (a = 91 ∧ i = 4) → ¬ (a = 103 ∧ i = 0) → sR s29 a i = sR s a i := fun a i n1 n2 => by
            rw [F29.2.2]; subst eu; rw [sR_w, if_neg n2]; exact Q23.2.2 a i n1 n2
          apply hP115
          have f26 : sI s26 0 4 = 0 := by subst e26; rw [sI_w, if_pos ⟨rfl, rfl⟩]
          rw [f26]
          refine ⟨fun _ => ?_, fun hh => absurd rfl hh⟩
          intro s9 e9
          have r9 : ∀ a i, sR s9 a i = sR s29 a i := fun a i => by subst e9; subst e26; rfl
          refine ⟨pc, by rw [r9, Qr _ _ (by omega) (by omega)]; exact hcu, hkd2, p, by rw [r9, Qr _ _ (by omega) (by omega)]; exact hsp, hkd, ?_⟩
          intro s12 e12 s13 e13
          have r13 : sR s13 0 8 = g + 1 := by subst e13; rw [sR_w, if_neg (by omega)]; subst e12; rw [sR_w, if_neg (by omega), r9, Qr _ _ (by omega) (by omega)]; exact hg
          refine ⟨g, r13, hgk, ?_⟩
          intro s15 e15 s16 e16
          unfold W_X2_forget
          refine ⟨nI_inU (a := 0) (by omega) (by omega), ?_⟩
          intro s2 e2
          rw [show ix 0 = 0 from rfl] at e2
          unfold W_X10_begin
          intro s1' e1'
          refine c_fill (by omega) ?_
          intro s' F' v'
          have Gi : ∀ a i, ¬ (a = 0 ∧ (i = 4 ∨ i = 5 ∨ i = 12)) → ¬ (a = g ∧ i = 13) → ¬ (a = 124 ∧ i = 0) → ¬ (a = 136 ∧ i = 0) → a ≠ 137 → sI s' a i = sI s29 a i := fun a i n1 n2 n3 n4 n5 => by
            rw [F'.1 _ _ n5]; subst e1'; rw [sI_w, if_neg n4]; subst e2; rw [sI_w, if_neg n3]; subst e16; rw [sI_w, if_neg (by omega)]; subst e15; rw [sI_w, if_neg n2]; subst e13; subst e12; subst e9; rw [show sI (wR (wR (wI s26 0 5 (-1)) 0 6 (p + 1)) 0 7 (pc + 1)) a i = sI (wI s26 0 5 (-1)) a i from rfl, sI_w, if_neg (by omega)]; subst e26; rw [sI_w, if_neg (by omega)]
          have Gj : ∀ a i, a ≠ 137 → sJ s' a i = sJ s29 a i := fun a i n5 => by
            rw [F'.2.1 _ _ n5]; subst e1'; subst e2; subst e16; subst e15; subst e13; subst e12; subst e9; subst e26; rfl
          have Gr : ∀ a i, sR s' a i = sR s13 a i := fun a i => by rw [F'.2.2]; subst e1'; subst e2; subst e16; subst e15; rfl
          refine Hok ps S hpol s' (fun a i n1 n2 n3 n4 n5 n6 => ?_) (fun a i n1 n2 => (Gj a i n2).trans (Qj a i n1)) (fun a i n1 n2 n3 => ?_) ?_ ?_ (fun κ hκ => ?_) ⟨?_, ?_⟩ (po29.fr (fun a i ha => ?_)) (pl29.fr (fun a i ha => ?_) (fun a i ha => ?_)) ?_ ?_ ?_ ?_ ?_ ?_ v'
          · rw [Gi a i (fun h => by have : dQ p a i ∨ (a = 0 ∧ i = 12) := by { unfold dQ; omega }; exact this.elim n1 n2) n3 n4 n5 n6]; exact Qi a i n1
          · rw [Gr]; subst e13; rw [sR_w, if_neg (by omega)]; subst e12; rw [sR_w, if_neg (by omega), r9]; exact Qr a i n1 n2
          · rw [Gr]; subst e13; rw [sR_w, if_neg (by omega)]; subst e12; rw [sR_w, if_pos ⟨rfl, rfl⟩]
          · rw [Gr]; subst e13; rw [sR_w, if_pos ⟨rfl, rfl⟩]
          · rw [Gi _ _ (by omega) (by omega) (by omega) (by omega) (by omega)]; exact k29 κ hκ
          · rw [Gi _ _ (by omega) (by omega) (by omega) (by omega) (by omega)]; exact i29.1
          · rw [Gi _ _ (by omega) (by omega) (by omega) (by omega) (by omega)]; exact i29.2
          · exact Gi _ _ (by omega) (by omega) (by omega) (by omega) (by omega)
          · exact Gi _ _ (by omega) (by omega) (by omega) (by omega) (by omega)
          · exact Gj _ _ (by omega)
          · rw [F'.1 _ _ (by omega)]; subst e1'; rw [sI_w, if_neg (by omega)]; subst e2; rw [sI_w, if_neg (by omega)]; subst e16; rw [sI_w, if_neg (by omega)]; subst e15; rw [sI_w, if_neg (by omega)]; subst e13; subst e12; subst e9; rw [show sI (wR (wR (wI s26 0 5 (-1)) 0 6 (p + 1)) 0 7 (pc + 1)) 0 4 = sI (wI s26 0 5 (-1)) 0 4 from rfl, sI_w, if_neg (by omega)]; exact f26
          · rw [F'.1 _ _ (by omega)]; subst e1'; rw [sI_w, if_neg (by omega)]; subst e2; rw [sI_w, if_neg (by omega)]; subst e16; rw [sI_w, if_neg (by omega)]; subst e15; rw [sI_w, if_neg (by omega)]; subst e13; subst e12; subst e9; rw [show sI (wR (wR (wI s26 0 5 (-1)) 0 6 (p + 1)) 0 7 (pc + 1)) 0 5 = sI (wI s26 0 5 (-1)) 0 5 from rfl, sI_w, if_pos ⟨rfl, rfl⟩]
          · rw [F'.1 _ _ (by omega)]; subst e1'; rw [sI_w, if_neg (by omega)]; subst e2; rw [sI_w, if_neg (by omega)]; subst e16; rw [sI_w, if_pos ⟨rfl, rfl⟩]
          · rw [F'.1 _ _ (by omega)]; subst e1'; rw [sI_w, if_neg (by omega)]; subst e2; rw [sI_w, if_neg (by omega)]; subst e16; rw [sI_w, if_neg (by omega)]; subst e15; rw [sI_w, if_pos ⟨rfl, rfl⟩]
          · rw [F'.1 _ _ (by omega)]; subst e1'; rw [sI_w, if_neg (by omega)]; subst e2; rw [sI_w, if_pos ⟨rfl, rfl⟩]
          · rw [F'.1 _ _ (by omega)]; subst e1'; rw [sI_w, if_pos ⟨rfl, rfl⟩]
        · refine ⟨fun hh => absurd rfl hh, fun _ => ?_⟩
          apply hP112
          have hpol : polP B nb = .error (8, nb) := by
            unfold polP; rw [hpa]; simp only [if_neg (show ¬ 512 < offs ps 16 by omega), hS]
          refine tbl 8 s29 P115 (Or.inr rfl) hpol ⟨fun a i n => ?_, fun a i n => ?_, fun a i n1 n2 => ?_⟩ k29 ⟨?_, ?_⟩ ?_ hP115
          · rw [F29.1 _ _ (fun h => n (by unfold dMk at h; unfold dQ; omega))]; subst eu; exact Q23.1 a i n
          · rw [F29.2.1 _ _ (fun h => n (by unfold dMk at h; unfold dQ; omega))]; subst eu; exact Q23.2.1 a i n
          · rw [F29.2.2]; subst eu; rw [sR_w, if_neg n2]; exact Q23.2.2 a i n1 n2
          · rw [F29.1 _ _ (by unfold dMk; omega)]; subst eu; exact i23.1
          · rw [F29.1 _ _ (by unfold dMk; omega)]; subst eu; exact i23.2
          · rw [F29.1 _ _ (by unfold dMk; omega)]; subst eu; exact w23
      · intro P112 hP112
        refine ⟨fun hh => absurd rfl hh, fun _ => ?_⟩
        apply hP112
        have hpol : polP B nb = .error (7, nb) := by
          unfold polP; rw [hpa]; simp only [if_pos ho]
        exact tbl 7 s23 P115 (Or.inl rfl) hpol (Q19.of F23 (fun a i h => by unfold dLt at h; unfold dQ; omega)) (fun κ hκ => by rw [F23.1 _ _ (by unfold dLt; omega)]; exact k19 κ hκ) ⟨(F23.1 _ _ (by unfold dLt; omega)).trans i19.1, l23⟩ ((F23.1 _ _ (by unfold dLt; omega)).trans w19) hP115
    · have hpol : polP B nb = .error e := by
        unfold polP pAll; rw [hps]; simp only [hpr]
      apply hP40
      intro s6 e6 s7 e7 P115 hP115
      have L := late e s5 hpol (by omega) (by omega) (Q3.of F5 (fun a i h => by unfold dN at h; unfold dQ; omega)) (fun κ hκ => by rw [F5.1 _ _ (by unfold dN; omega)]; exact k3 κ hκ) ⟨(F5.1 _ _ (by unfold dN; omega)).trans i3.1, (F5.1 _ _ (by unfold dN; omega)).trans i3.2⟩ w5 s6 e6 s7 e7
      have hne := ne0 e (by omega) (by omega)
      rw [L.1]
      refine ⟨fun _ => ?_, fun hh => absurd hh hne⟩
      apply hP115
      rw [L.1]
      exact ⟨fun hh => absurd hh hne, fun _ => L.2⟩
  · have Q3 : frQ p s s3 := ⟨fun a i n => F3.1 a i (fun h => n (by unfold dEr at h; unfold dQ; omega)) (fun h => n (by unfold dQ; omega)) (fun h => n (by unfold dQ; omega)) (fun h => n (by unfold dQ; omega)), fun a i n => F3.2.1 a i (fun h => n (by unfold dEr at h; unfold dQ; omega)) (fun h => n (by unfold dQ; omega)), fun a i n1 n2 => F3.2.2 a i n1⟩
    have k3 : keyI s3 := fun κ hκ => by rw [F3.1 _ _ (by unfold dEr; omega) (by omega) (by omega) (by omega)]; exact hk κ hκ
    have i3 : poI s3 p := ⟨(F3.1 _ _ (by unfold dEr; omega) (by omega) (by omega) (by omega)).trans hpi.1, (F3.1 _ _ (by unfold dEr; omega) (by omega) (by omega) (by omega)).trans hpi.2⟩
    have hpol : polP B nb = .error e := by unfold polP pAll; rw [he]
    intro P40 hP40
    refine ⟨fun _ => ?_, fun hh => absurd rfl hh⟩
    apply hP40
    rw [er3.1]
    intro s6 e6 s7 e7 P115 hP115
    have L := late e s3 hpol er3.2.2.1 er3.2.2.2 Q3 k3 i3 er3.2.1 s6 e6 s7 e7
    have hne := ne0 e er3.2.2.1 er3.2.2.2
    rw [L.1]
    refine ⟨fun _ => ?_, fun hh => absurd hh hne⟩
    apply hP115
    rw [L.1]
    exact ⟨fun hh => absurd hh hne, fun _ => L.2⟩
end
