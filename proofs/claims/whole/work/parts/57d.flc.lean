/-! ===== PURE: the other one's flow, in its cells ===== -/
theorem nd_len : ∀ (N : Nat) (qs : List Nat), qs.Nodup → (∀ a ∈ qs, a < N) → qs.length ≤ N
  | 0, qs, _, h => by
    cases qs with
    | nil => exact Nat.le_refl _
    | cons a r => have := h a (List.mem_cons_self ..); omega
  | N + 1, qs, hn, h => by
    have ih := nd_len N (qs.erase N) (hn.erase N) (fun a ha => by
      rw [hn.mem_erase_iff] at ha
      have := h a ha.2
      omega)
    have := List.length_erase (a := N) (l := qs)
    split at this <;> omega
section
variable {s : yS} {g p n : Nat} {l : List Fn} {cs : List Nat} {RJ : Nat → Nat → Int64} {F : FSt}
/-- what stays -/
def fcC (s : yS) (g p : Nat) (l : List Fn) (cs : List Nat) (RJ : Nat → Nat → Int64) (n : Nat) : Prop := gOK g ∧ (p = 3 ∨ p = 20) ∧ sR s 116 0 = g + 1 ∧ sR s 116 1 = p + 1 ∧ pgC s g l ∧ ((sI s p 3) = nI n ∧ n ≤ 63 ∧ ∀ c, c < 16 → ∀ q, q < n → (sJ s (p + 15)) (c * 63 + q) = RJ c q) ∧ (sI s 116 9) = nI cs.length ∧ (∀ (j : Nat) (h : j < cs.length), (sI s 121) j = nI cs[j]) ∧ cs.length ≤ 4800 ∧ ∀ a ∈ cs, vld l a
/-- what moves -/
def flD (s : yS) (g : Nat) (l : List Fn) (F : FSt) : Prop := (∀ a, a < 4800 → sJ s (g + 12) a = eM F a) ∧ (∀ t, t < 12 → sJ s 119 t = eX F t) ∧ (∀ t, t < 12 → sJ s 120 t = eA F t) ∧ (∃ h, h < 4800 ∧ sI s 116 4 = nI h ∧ sI s 116 5 = nI (eQ F).length ∧ ∀ (j : Nat) (hj : j < (eQ F).length), sI s 117 ((h + j) % 4800) = nI (eQ F)[j]) ∧ ∀ a, vld l a → sI s 118 a = bI (decide (a ∈ eQ F))
def dFl (g a i : Nat) : Prop := (a = 116 ∧ (i = 4 ∨ i = 5)) ∨ a = 117 ∨ a = 118 ∨ a = 119 ∨ a = 120 ∨ a = g + 12
theorem fcC.kp (h : fcC s g p l cs RJ n) : kd p = some (7, 0) := by rcases h.2.1 with e | e <;> (rw [e]; rfl)
theorem fcC.fr {s' : yS} (h : fcC s g p l cs RJ n) (F' : frM (dFl g) s s') : fcC s' g p l cs RJ n := by
  obtain ⟨h1, h2, h3, h4, h5, h6, h7, h8, h9⟩ := h
  have hgv : g = 37 ∨ g = 55 ∨ g = 73 := h1
  exact ⟨h1, h2, (F'.2.2 _ _).trans h3, (F'.2.2 _ _).trans h4, h5.fr (fun a i ha => F'.1 _ _ (by unfold dFl; omega)), ⟨(F'.1 _ _ (by unfold dFl; omega)).trans h6.1, h6.2.1, fun c hc q hq => (F'.2.1 _ _ (by unfold dFl; omega)).trans (h6.2.2 c hc q hq)⟩, (F'.1 _ _ (by unfold dFl; omega)).trans h7, fun j hj => (F'.1 _ _ (by unfold dFl; omega)).trans (h8 j hj), h9⟩
theorem c_enqueue {a : Nat} {Q : yS → Prop} (hok : pgOK l) (hv : vld l a) (hk : okq l F) (hD : flD s g l F) (H : ∀ s', frM (dFl g) s s' → flD s' g l (enq a F) → Q s') : W_X0_enqueue s (nI a) Q := by
  have ha := vld_lt hok hv
  have hin : vp_in (nI a) 4800 := nI_inU (by omega) (by omega)
  obtain ⟨d1, d2, d3, ⟨h, hh, d4, d5, d6⟩, d7⟩ := id hD
  unfold W_X0_enqueue
  rw [nI_ix (n := a) (by omega), d7 a hv]
  refine ⟨hin, ?_⟩
  by_cases c : a ∈ eQ F
  · have e : enq a F = F := by unfold enq; rw [if_pos c]
    rw [e] at H
    rw [decide_eq_true c]
    exact ⟨fun _ => H s frM.rfl' hD, fun hz => absurd hz (by decide)⟩
  · have e : enq a F = (eM F, eX F, eA F, eQ F ++ [a]) := by unfold enq; rw [if_neg c]
    rw [e] at H
    have hlen : (eQ F).length < 4800 := by
      have := nd_len 4800 (a :: eQ F) (List.nodup_cons.mpr ⟨c, hk.1⟩) (fun b hb => by
        rcases List.mem_cons.mp hb with hb | hb
        · subst hb; exact ha
        · exact vld_lt hok (hk.2 b hb).1)
      rw [List.length_cons] at this
      omega
    rw [decide_eq_false c]
    refine ⟨fun hz => absurd rfl hz, fun _ => ⟨hin, ?_⟩⟩
    intro s3 e3
    have q4 : sI s3 116 4 = nI h := by subst e3; rw [sI_w, if_neg (by omega)]; exact d4
    have q5 : sI s3 116 5 = nI (eQ F).length := by subst e3; rw [sI_w, if_neg (by omega)]; exact d5
    rw [q4, q5, nI_addU, nI_mod (by omega) (by omega), nI_ix (n := (h + (eQ F).length) % 4800) (by omega)]
    refine ⟨nI_inU (by omega) (by omega), ?_⟩
    intro s5 e5
    have r5 : sI s5 116 5 = nI (eQ F).length := by subst e5; rw [sI_w, if_neg (by omega)]; exact q5
    rw [r5, nI_s]
    intro s6 e6
    have n6 : ∀ b i, ¬ (b = 116 ∧ i = 5) → b ≠ 117 → b ≠ 118 → sI s6 b i = sI s b i := fun b i h1 h2 h3 => by
      subst e6; rw [sI_w, if_neg (by omega)]; subst e5; rw [sI_w, if_neg (by omega)]; subst e3; rw [sI_w, if_neg (by omega)]
    have J6 : ∀ b i, sJ s6 b i = sJ s b i := fun b i => by subst e6; subst e5; subst e3; rfl
    refine H s6 ?_ ⟨fun b hb => (J6 _ _).trans (d1 b hb), fun t ht => (J6 _ _).trans (d2 t ht), fun t ht => (J6 _ _).trans (d3 t ht), ⟨h, hh, (n6 _ _ (by omega) (by omega) (by omega)).trans d4, ?_, fun j hj => ?_⟩, fun b hb => ?_⟩
    · subst e6; subst e5; subst e3
      exact ((frM.rfl'.wI (by unfold dFl; omega)).wI (by unfold dFl; omega)).wI (by unfold dFl; omega)
    · subst e6; rw [sI_w, if_pos ⟨rfl, rfl⟩]
      show _ = nI (eQ F ++ [a]).length
      rw [List.length_append]; rfl
    · have hj : j < (eQ F ++ [a]).length := hj
      show sI s6 117 ((h + j) % 4800) = nI (eQ F ++ [a])[j]
      rw [List.length_append] at hj
      have hj : j < (eQ F).length + 1 := hj
      subst e6; rw [sI_w, if_neg (by omega)]; subst e5
      by_cases cj : j = (eQ F).length
      · subst cj
        rw [sI_w, if_pos ⟨rfl, rfl⟩, List.getElem_append_right (Nat.le_refl _)]
        simp only [Nat.sub_self, List.getElem_cons_zero]
      · rw [sI_w, if_neg (by omega), List.getElem_append_left (by omega)]
        subst e3; rw [sI_w, if_neg (by omega)]; exact d6 j (by omega)
    · show sI s6 118 b = bI (decide (b ∈ eQ F ++ [a]))
      subst e6; rw [sI_w, if_neg (by omega)]; subst e5; rw [sI_w, if_neg (by omega)]; subst e3
      by_cases cb : b = a
      · subst cb
        rw [sI_w, if_pos ⟨rfl, rfl⟩, decide_eq_true (List.mem_append.mpr (Or.inr (List.mem_singleton.mpr rfl)))]; rfl
      · rw [sI_w, if_neg (by omega), d7 b hb]
        congr 1
        apply decide_eq_decide.mpr
        rw [List.mem_append, List.mem_singleton]
        exact ⟨Or.inl, fun h => by rcases h with h | h; exact h; exact absurd h cb⟩
theorem c_grow {a : Nat} {v : Int64} {Q : yS → Prop} (hok : pgOK l) (hs : fcC s g p l cs RJ n) (hv : vld l a) (hk : okq l F) (hD : flD s g l F) (H : ∀ s', frM (dFl g) s s' → flD s' g l (grw a v F) → Q s') : W_X0_grow s (nI a) v Q := by
  have ha := vld_lt hok hv
  have hin : vp_in (nI a) 4800 := nI_inU (by omega) (by omega)
  have hgv : g = 37 ∨ g = 55 ∨ g = 73 := hs.1
  unfold W_X0_grow
  refine ⟨g, hs.2.2.1, hs.1.kd, hin, ?_⟩
  rw [nI_ix (n := a) (by omega), hD.1 a ha]
  unfold grw at H
  by_cases c : lg_cmp (v &&& (eM F a ^^^ (-1))) 0 = 0
  · rw [if_pos c] at H
    exact ⟨fun _ => H s frM.rfl' hD, fun hz => absurd c hz⟩
  · rw [if_neg c] at H
    refine ⟨fun hz => absurd hz c, fun _ => ⟨g, hs.2.2.1, hs.1.kd, hin, hin, ?_⟩⟩
    rw [hD.1 a ha]
    intro s6 e6
    have c' := c
    rw [newJ] at c'
    have hk6 : okq l (upF (eM F) a (eM F a ||| v), eX F, eA F, eQ F) := ⟨hk.1, fun b hb => ⟨(hk.2 b hb).1, by
      show upF (eM F) a (eM F a ||| v) b ≠ 0
      by_cases cb : b = a
      · subst cb; rw [upF_at]; exact or_ne0 c'
      · rw [upF_ne cb]; exact (hk.2 b hb).2⟩⟩
    have D6 : flD s6 g l (upF (eM F) a (eM F a ||| v), eX F, eA F, eQ F) := by
      obtain ⟨d1, d2, d3, ⟨h, hh, d4, d5, d6⟩, d7⟩ := hD
      subst e6
      refine ⟨fun b hb => ?_, fun t ht => ?_, fun t ht => ?_, ⟨h, hh, d4, d5, d6⟩, d7⟩
      · show _ = upF (eM F) a (eM F a ||| v) b
        by_cases cb : b = a
        · subst cb; rw [sJ_w, if_pos ⟨rfl, rfl⟩, upF_at]
        · rw [sJ_w, if_neg (by omega), upF_ne cb]; exact d1 b hb
      · rw [sJ_w, if_neg (by omega)]; exact d2 t ht
      · rw [sJ_w, if_neg (by omega)]; exact d3 t ht
    have F6 : frM (dFl g) s s6 := by subst e6; exact frM.rfl'.wJ (by unfold dFl; omega)
    exact c_enqueue hok hv hk6 D6 (fun s' F' D' => H s' (F6.trans F') D')
theorem opr_C {a : Nat} (hok : pgOK l) (hp : pgC s g l) (hv : vld l a) : (sI s (g + 8)) a = opr l a ∧ (sI s (g + 7)) a = nI (opA (fnA l (a / 400)) (a % 400)) := by
  have hf : a / 400 < l.length := hv.1
  have hi := hv.2
  rw [fnA_at hf] at hi
  have := (hp.2 _ hf).2.2.2.2.2.2.1 _ hi
  rw [show a / 400 * 400 + a % 400 = a by omega] at this
  unfold opr
  rw [fnA_at hf, orA_at hi, opA_at hi]
  exact ⟨this.2, this.1⟩
theorem c_enqueueCalls {t : Nat} {Q : yS → Prop} (hok : pgOK l) (hs : fcC s g p l cs RJ n) (hk : okq l F) (hD : flD s g l F) (H : ∀ s', frM (dFl g) s s' → flD s' g l (enC l t cs F) → Q s') : W_X0_enqueueCalls s (nI t) Q := by
  unfold W_X0_enqueueCalls
  intro P2 hP2
  obtain ⟨hl8, hvs⟩ := hs.2.2.2.2.2.2.2.2
  suffices hL : ∀ (r k : Nat) (F1 : FSt) (u : yS), k + r = cs.length → frM (dFl g) s u → okq l F1 → flD u g l F1 → enC l t cs F = enC l t (cs.drop k) F1 → P2 (nI k) u from hL cs.length 0 F s (by omega) frM.rfl' hk hD rfl
  intro r
  induction r with
  | zero =>
    intro k F1 u hkk Fu ku Du he
    have su := hs.fr Fu
    apply hP2
    rw [su.2.2.2.2.2.2.1]
    refine ⟨fun _ => ?_, fun hz => absurd ((nI_leU (by omega) (by omega)).mpr (by omega)) hz⟩
    rw [show k = cs.length by omega, List.drop_length] at he
    have he : enC l t cs F = F1 := he
    rw [he] at H
    exact H u Fu Du
  | succ r ih =>
    intro k F1 u hkk Fu ku Du he
    have hkl : k < cs.length := by omega
    have su := hs.fr Fu
    have hvk := hvs _ (List.getElem_mem hkl)
    have hak := vld_lt hok hvk
    rw [List.drop_eq_getElem_cons hkl, enC] at he
    have hop := (opr_C hok su.2.2.2.2.1 hvk).1
    have hcl := su.2.2.2.2.2.2.2.1 k hkl
    generalize cs[k] = a at *
    apply hP2
    rw [su.2.2.2.2.2.2.1]
    refine ⟨fun hz => absurd ((nI_leU (by omega) (by omega)).mp hz) (by omega), fun _ => ⟨nI_inU (by omega) (by omega), ?_⟩⟩
    rw [nI_ix (n := k) (by omega), hcl]
    intro x4 e4
    subst e4
    have hin : vp_in (nI a) 4800 := nI_inU (by omega) (by omega)
    refine ⟨g, su.2.2.1, su.1.kd, hin, ?_⟩
    rw [nI_ix (n := a) (by omega), hop]
    intro P49 hP49
    have nx : ∀ (F2 : FSt) (u2 : yS), frM (dFl g) s u2 → okq l F2 → flD u2 g l F2 → enC l t cs F = enC l t (cs.drop (k + 1)) F2 → P49 u2 := by
      intro F2 u2 Fu2 ku2 Du2 he2
      refine hP49 _ (fun x8 e8 => ?_)
      subst e8; rw [nI_s]
      exact ih (k + 1) F2 u2 (by omega) Fu2 ku2 Du2 he2
    refine ⟨fun hne => nx F1 u Fu ku Du (by rw [if_neg (fun hh => hne hh.1)] at he; exact he), fun heq => ⟨g, su.2.2.1, su.1.kd, hin, ?_⟩⟩
    rw [Du.1 a hak]
    refine ⟨fun h0 => nx F1 u Fu ku Du (by rw [if_neg (fun hh => hh.2 h0)] at he; exact he), fun h0 => ?_⟩
    rw [if_pos ⟨heq, h0⟩] at he
    refine c_enqueue hok hvk ku Du (fun u2 Fu2 Du2 => nx _ u2 (Fu.trans Fu2) (enq_okq ku hvk (fun hh => h0 (cmp0.mpr hh))) Du2 he)
theorem c_growAll {t : Nat} {v : Int64} {Q : yS → Prop} (hok : pgOK l) (hs : fcC s g p l cs RJ n) (ht : t < 12) (hk : okq l F) (hD : flD s g l F) (H : ∀ s', frM (dFl g) s s' → flD s' g l (grA l cs t v F) → Q s') : W_X0_growAll s (nI t) v Q := by
  have hin : vp_in (nI t) 12 := nI_inU (by omega) (by omega)
  have hgv : g = 37 ∨ g = 55 ∨ g = 73 := hs.1
  unfold W_X0_growAll
  rw [nI_ix (n := t) (by omega), hD.2.2.1 t ht]
  refine ⟨hin, ?_⟩
  unfold grA at H
  by_cases c : lg_cmp (v &&& (eA F t ^^^ (-1))) 0 = 0
  · rw [if_pos c] at H
    exact ⟨fun _ => H s frM.rfl' hD, fun hz => absurd c hz⟩
  · rw [if_neg c] at H
    refine ⟨fun hz => absurd hz c, fun _ => ⟨hin, hin, ?_⟩⟩
    intro s4 e4
    have F4 : frM (dFl g) s s4 := by subst e4; exact frM.rfl'.wJ (by unfold dFl; omega)
    have D4 : flD s4 g l (eM F, eX F, upF (eA F) t (eA F t ||| v), eQ F) := by
      obtain ⟨d1, d2, d3, ⟨h, hh, d4, d5, d6⟩, d7⟩ := hD
      subst e4
      refine ⟨fun b hb => ?_, fun u hu => ?_, fun u hu => ?_, ⟨h, hh, d4, d5, d6⟩, d7⟩
      · rw [sJ_w, if_neg (by omega)]; exact d1 b hb
      · rw [sJ_w, if_neg (by omega)]; exact d2 u hu
      · show _ = upF (eA F) t (eA F t ||| v) u
        by_cases cb : u = t
        · subst cb; rw [sJ_w, if_pos ⟨rfl, rfl⟩, upF_at]
        · rw [sJ_w, if_neg (by omega), upF_ne cb]; exact d3 u hu
    exact c_enqueueCalls (F := (eM F, eX F, upF (eA F) t (eA F t ||| v), eQ F)) hok (hs.fr F4) hk D4 (fun s' F' D' => H s' (F4.trans F') D')
theorem c_growExit {t : Nat} {v : Int64} {Q : yS → Prop} (hok : pgOK l) (hs : fcC s g p l cs RJ n) (ht : t < 12) (hk : okq l F) (hD : flD s g l F) (H : ∀ s', frM (dFl g) s s' → flD s' g l (grX l cs t v F) → Q s') : W_X0_growExit s (nI t) v Q := by
  have hin : vp_in (nI t) 12 := nI_inU (by omega) (by omega)
  have hgv : g = 37 ∨ g = 55 ∨ g = 73 := hs.1
  unfold W_X0_growExit
  rw [nI_ix (n := t) (by omega), hD.2.1 t ht]
  refine ⟨hin, ?_⟩
  unfold grX at H
  by_cases c : lg_cmp (v &&& (eX F t ^^^ (-1))) 0 = 0
  · rw [if_pos c] at H
    exact ⟨fun _ => H s frM.rfl' hD, fun hz => absurd c hz⟩
  · rw [if_neg c] at H
    refine ⟨fun hz => absurd hz c, fun _ => ⟨hin, hin, ?_⟩⟩
    intro s4 e4
    have F4 : frM (dFl g) s s4 := by subst e4; exact frM.rfl'.wJ (by unfold dFl; omega)
    have D4 : flD s4 g l (eM F, upF (eX F) t (eX F t ||| v), eA F, eQ F) := by
      obtain ⟨d1, d2, d3, ⟨h, hh, d4, d5, d6⟩, d7⟩ := hD
      subst e4
      refine ⟨fun b hb => ?_, fun u hu => ?_, fun u hu => ?_, ⟨h, hh, d4, d5, d6⟩, d7⟩
      · rw [sJ_w, if_neg (by omega)]; exact d1 b hb
      · show _ = upF (eX F) t (eX F t ||| v) u
        by_cases cb : u = t
        · subst cb; rw [sJ_w, if_pos ⟨rfl, rfl⟩, upF_at]
        · rw [sJ_w, if_neg (by omega), upF_ne cb]; exact d2 u hu
      · rw [sJ_w, if_neg (by omega)]; exact d3 u hu
    exact c_enqueueCalls (F := (eM F, upF (eX F) t (eX F t ||| v), eA F, eQ F)) hok (hs.fr F4) hk D4 (fun s' F' D' => H s' (F4.trans F') D')
theorem c_led {c : Nat} {v : Int64} {Q : Int64 → Prop} (hs : fcC s g p l cs RJ n) (hc : c < 16) (H : Q (ledJ RJ v c n)) : W_X0_led s v (nI c) Q := by
  obtain ⟨h1, h2, h3, h4, h5, ⟨h6, h7, h8⟩, h9⟩ := id hs
  unfold W_X0_led
  intro P6 hP6
  suffices hL : ∀ (r k : Nat), k + r = n → P6 (ledJ RJ v c k) (nI k) from hL n 0 (by omega)
  intro r
  induction r with
  | zero =>
    intro k hk
    apply hP6
    refine ⟨p, h4, hs.kp, ?_⟩
    rw [h6]
    refine ⟨fun _ => ?_, fun hz => absurd ((nI_leU (by omega) (by omega)).mpr (by omega)) hz⟩
    rw [show k = n by omega]; exact H
  | succ r ih =>
    intro k hk
    apply hP6
    refine ⟨p, h4, hs.kp, ?_⟩
    rw [h6]
    refine ⟨fun hz => absurd ((nI_leU (by omega) (by omega)).mp hz) (by omega), fun _ => ?_⟩
    intro P49 hP49
    rw [bitJ_at (by omega), nI_s] at *
    rw [cmp0]
    have nx : ∀ y : Int64, y = ledJ RJ v c (k + 1) → P49 y := fun y hy => hP49 y (fun x5 e5 => by
      subst e5; subst hy; exact ih (k + 1) (by omega))
    rw [ledJ] at nx
    cases hb : bJ v k with
    | false =>
      rw [hb, if_neg (by decide)] at nx
      exact ⟨fun _ => nx _ rfl, fun hz => absurd hz (by decide)⟩
    | true =>
      rw [hb, if_pos rfl] at nx
      refine ⟨fun hz => absurd rfl hz, fun _ => ⟨p, h4, hs.kp, ?_⟩⟩
      rw [nI_mul, nI_addU, nI_ix (n := c * 63 + k) (by omega), h8 c hc k (by omega)]
      exact ⟨nI_inU (by omega) (by omega), fun x8 e8 => nx _ e8⟩
end
