section
variable {s : yS} {g p : Nat} {l : List Fn} {R : List (Nat × Nat)} {r : Fr} {fs : List Fr} {ps : PS} {S : List Int32}
theorem c_argument {c k : Nat} {Q : Int32 → Prop} (hc : c < 16) (hk : k < 3) (hlen : fs.length < 40) (f2 : (jS r).length ≤ 16) (f3 : kS s R (16 * fs.length) (jS r)) (c17 : sI s 123 17 = nI (16 * fs.length + (jS r).length)) (hn : c % 4 ≤ (jS r).length) (ht : ∀ i, i < c % 4 → ((jS r).getD i v0).1 = false) (H : Q (arg c (jS r) k)) : W_X2_argument s (nI c) (nI k) Q := by
  unfold W_X2_argument
  rw [nI_mod (by omega) (by omega), nI_leU (by omega) (by omega), c17]
  unfold arg at H
  refine ⟨fun hle => by rw [if_neg (by omega)] at H; exact H, fun hlt => ?_⟩
  rw [if_pos (by omega)] at H
  have hat := f3.at (i := c % 4 - 1 - k) (by omega)
  rw [cvt_n (ht _ (by omega))] at hat
  rw [nI_sub (by omega), nI_addU, nI_ix (by omega), show 16 * fs.length + (jS r).length - c % 4 + k = 16 * fs.length + ((jS r).length - 1 - (c % 4 - 1 - k)) by omega, hat]
  exact ⟨nI_inU (by omega) (by omega), H⟩
set_option maxHeartbeats 1000000 in
theorem c_callOutside {c out na : Nat} {an : Nat → Int32} {Q : yS → Prop} (hc : c < 16) (hF : cFs s l R (r :: fs)) (hpl : sI s 123 16 = nI (jP r + 1)) (hlen : fs.length < 40) (ho : out < 2147483000) (h3 : sI s 124 3 = nI out) (hna : sI s 123 2 = nI na ∧ na ≤ 256 ∧ ∀ i, i < na → sI s 128 i = an i) (hn : c % 4 ≤ (jS r).length) (ht : ∀ i, i < c % 4 → ((jS r).getD i v0).1 = false) (h16 : ((jS r).drop (c % 4)).length < 16)
    (H : ∀ s', frM (fun a i => dStk a i ∨ (a = 124 ∧ i = 3) ∨ a = 129) s s' → sI s' 124 3 = nI (out + 1) → (∀ i, sI s' 129 i = if out < 256 then trN (sI s 129) out c (jS r) (ans an na out) i else sI s 129 i) → cFs s' l R ((jF r, jP r + 1, (false, ans an na out) :: (jS r).drop (c % 4), jL r) :: fs) → sI s' 123 16 = nI (jP r + 1) → Q s') : W_X2_callOutside s (nI c) Q := by
  obtain ⟨⟨⟨f1, f2, f3, f4⟩, c14, c15, c17⟩, cw⟩ := id hF
  unfold W_X2_callOutside
  rw [nI_ix (n := 3) (by omega), h3, hna.1]
  refine ⟨nI_inU (by omega) (by omega), ?_⟩
  intro x2 e2
  subst e2
  intro P25 hP25
  rw [nI_mod (by omega) (by omega)] at hP25
  have main : P25 (ans an na out) := by
    apply hP25
    intro P88 hP88
    -- behind the trace
    have fin : ∀ t : yS, frM (fun a i => a = 129) s t → (∀ i, sI t 129 i = if out < 256 then trN (sI s 129) out c (jS r) (ans an na out) i else sI s 129 i) → P88 t := by
      intro t Ft tt
      apply hP88
      refine ⟨nI_inU (by omega) (by omega), nI_inU (by omega) (by omega), ?_⟩
      rw [Ft.1 124 _ (by omega), h3, nI_s]
      intro s7 e7
      have t7 : sI s7 123 17 = nI (16 * fs.length + (jS r).length) := by subst e7; rw [sI_w, if_neg (by omega), Ft.1 _ _ (by omega)]; exact c17
      rw [t7, nI_sub (by omega), show 16 * fs.length + (jS r).length - c % 4 = 16 * fs.length + ((jS r).drop (c % 4)).length by rw [List.length_drop]; omega]
      intro s8 e8
      have n8 : ∀ a i, ¬ (a = 124 ∧ i = 3) → ¬ (a = 123 ∧ i = 17) → sI s8 a i = sI t a i := fun a i h1 h2 => by subst e8; rw [sI_w, if_neg h2]; subst e7; rw [sI_w, if_neg h1]
      have t8 : sI s8 123 17 = nI (16 * fs.length + ((jS r).drop (c % 4)).length) := by subst e8; rw [sI_w, if_pos ⟨rfl, rfl⟩]
      have k8 : kS s8 R (16 * fs.length) ((jS r).drop (c % 4)) := (f3.drop (c % 4)).fr (fun i _ _ => by rw [n8 _ _ (by omega) (by omega), Ft.1 _ _ (by omega)])
      refine c_pushV (R := R) (y := (false, ans an na out)) cvt_f.symm t8 k8 (by omega) (fun s' F' t' k' => ?_)
      have kp : ∀ a i, ¬ ((a = 123 ∧ i = 17) ∨ (a = 131 ∧ 16 * fs.length ≤ i) ∨ (a = 124 ∧ i = 3) ∨ a = 129) → sI s' a i = sI s a i := fun a i h => by rw [F'.1 _ _ (by omega), n8 _ _ (by omega) (by omega), Ft.1 _ _ (by omega)]
      refine H s' ?_ ?_ (fun i => ?_) (hF.stk (fun a i h => kp _ _ (by omega)) t' k' (by rw [List.length_cons]; omega)) ((kp _ _ (by omega)).trans hpl)
      · have q1 : frM (fun a i => dStk a i ∨ (a = 124 ∧ i = 3) ∨ a = 129) s t := Ft.mono (fun a i h => by omega)
        have q2 : frM (fun a i => dStk a i ∨ (a = 124 ∧ i = 3) ∨ a = 129) t s8 := by subst e8; subst e7; exact (frM.rfl'.wI (by omega)).wI (by unfold dStk; omega)
        exact (q1.trans q2).trans (F'.mono (fun a i h => by unfold dStk; omega))
      · rw [F'.1 _ _ (by omega)]; subst e8; rw [sI_w, if_neg (by omega)]; subst e7; rw [sI_w, if_pos ⟨rfl, rfl⟩]
      · rw [F'.1 _ _ (by omega), n8 _ _ (by omega) (by omega)]; exact tt i
    rw [nI_leU (by omega) (by omega)]
    refine ⟨fun hge => fin s frM.rfl' (fun i => by rw [if_neg (by omega)]), fun hlt => ?_⟩
    rw [nI_mul, nI_ix (n := out * 5) (by omega)]
    refine ⟨nI_inU (by omega) (by omega), ?_⟩
    intro s11 e11
    intro P45 hP45
    suffices hL : ∀ (q k : Nat) (t : yS), k + q = 3 → frM (fun a i => a = 129) s t → (∀ i, sI t 129 i = if i = 5 * out then nI c else if i = 5 * out + 1 ∧ 0 < k then arg c (jS r) 0 else if i = 5 * out + 2 ∧ 1 < k then arg c (jS r) 1 else if i = 5 * out + 3 ∧ 2 < k then arg c (jS r) 2 else sI s 129 i) → P45 (nI k) t from by
      refine hL 3 0 s11 (by omega) (by subst e11; exact frM.rfl'.wI rfl) (fun i => ?_)
      subst e11
      rw [sI_w]
      by_cases c1 : i = 5 * out
      · rw [if_pos c1, if_pos ⟨rfl, by omega⟩]
      · rw [if_neg c1, if_neg (fun h => c1 (by omega)), if_neg (by omega), if_neg (by omega), if_neg (by omega)]
    intro q
    induction q with
    | zero =>
      intro k t hk Ft tt
      obtain rfl : k = 3 := by omega
      apply hP45
      refine ⟨fun _ => ?_, fun hz => absurd (by decide) hz⟩
      rw [nI_addU, nI_ix (n := out * 5 + 4) (by omega)]
      refine ⟨nI_inU (by omega) (by omega), ?_⟩
      intro s15 e15
      refine fin s15 (by subst e15; exact Ft.wI rfl) (fun i => ?_)
      rw [if_pos (show out < 256 by omega)]
      unfold trN
      subst e15
      rw [sI_w]
      by_cases c5 : i = 5 * out + 4
      · rw [if_pos ⟨rfl, by omega⟩, if_neg (by omega), if_neg (by omega), if_neg (by omega), if_neg (by omega), if_pos c5]
      rw [if_neg (fun h => c5 (by omega)), tt i]
      by_cases c1 : i = 5 * out
      · rw [if_pos c1, if_pos c1]
      rw [if_neg c1, if_neg c1]
      by_cases c2 : i = 5 * out + 1
      · rw [if_pos ⟨c2, by omega⟩, if_pos c2]
      rw [if_neg (fun h => c2 h.1), if_neg c2]
      by_cases c3 : i = 5 * out + 2
      · rw [if_pos ⟨c3, by omega⟩, if_pos c3]
      rw [if_neg (fun h => c3 h.1), if_neg c3]
      by_cases c4 : i = 5 * out + 3
      · rw [if_pos ⟨c4, by omega⟩, if_pos c4]
      rw [if_neg (fun h => c4 h.1), if_neg c4, if_neg c5]
    | succ q ih =>
      intro k t hk Ft tt
      apply hP45
      refine ⟨fun hz => absurd ((nI_leU (by omega) (by omega)).mp hz) (by omega), fun _ => ?_⟩
      refine c_argument (r := r) (fs := fs) (R := R) hc (by omega) hlen f2 (f3.fr (fun i _ _ => Ft.1 _ _ (by omega))) ((Ft.1 _ _ (by omega)).trans c17) hn ht ?_
      rw [show (1 : Int32) = nI 1 from rfl, nI_addU, nI_addU, nI_ix (n := out * 5 + 1 + k) (by omega)]
      refine ⟨nI_inU (by omega) (by omega), ?_⟩
      intro s18 e18 x19 e19
      subst e19; rw [nI_addU]
      refine ih (k + 1) s18 (by omega) (by subst e18; exact Ft.wI rfl) (fun i => ?_)
      subst e18
      rw [sI_w]
      by_cases c0 : i = out * 5 + 1 + k
      · rw [if_pos ⟨rfl, c0⟩, if_neg (by omega)]
        rcases (show k = 0 ∨ k = 1 ∨ k = 2 by omega) with h | h | h
        · subst h; rw [if_pos ⟨by omega, by omega⟩]
        · subst h; rw [if_neg (by omega), if_pos ⟨by omega, by omega⟩]
        · subst h; rw [if_neg (by omega), if_neg (by omega), if_pos ⟨by omega, by omega⟩]
      rw [if_neg (fun h => c0 h.2), tt i]
      by_cases c1 : i = 5 * out
      · rw [if_pos c1, if_pos c1]
      rw [if_neg c1, if_neg c1]
      by_cases c2 : i = 5 * out + 1 ∧ 0 < k
      · rw [if_pos c2, if_pos ⟨c2.1, by omega⟩]
      rw [if_neg c2, if_neg (show ¬ (i = 5 * out + 1 ∧ 0 < k + 1) by omega)]
      by_cases c3 : i = 5 * out + 2 ∧ 1 < k
      · rw [if_pos c3, if_pos ⟨c3.1, by omega⟩]
      rw [if_neg c3, if_neg (show ¬ (i = 5 * out + 2 ∧ 1 < k + 1) by omega)]
      by_cases c4 : i = 5 * out + 3 ∧ 2 < k
      · rw [if_pos c4, if_pos ⟨c4.1, by omega⟩]
      rw [if_neg c4, if_neg (show ¬ (i = 5 * out + 3 ∧ 2 < k + 1) by omega)]
  rw [nI_leU (by omega) (by omega)]
  refine ⟨fun hle => ?_, fun hlt => ?_⟩
  · have : ans an na out = 0 := by unfold ans; rw [if_neg (by omega)]
    rw [← this]; exact main
  · rw [nI_ix (n := out) (by omega), hna.2.2 out (by omega)]
    have : ans an na out = an out := by unfold ans; rw [if_pos (by omega)]
    rw [this] at main
    exact ⟨nI_inU (by omega) (by omega), main⟩
/-- the watch of a run -/
def waC (s : yS) (ps : PS) (S : List Int32) (x : Int32) (f : Nat → Int32) : Prop := sI s 125 0 = nI (stQ ps S x) ∧ inQ ps S x ∧ (∀ k, k < 6 → sI s 126 k = f k) ∧ okR6 ps f
theorem vOf_ag {ps : PS} {a b c : Int32} {f f' : Nat → Int32} (hl : lenP ps) (h : ∀ k, k < 6 → f k = f' k) : ∀ d, d < 3 + (pC ps).length → vOf a b c f d = vOf a b c f' d := by
  intro d hd
  have h6 := hl.1
  unfold vOf
  by_cases c0 : d = 0
  · rw [if_pos c0, if_pos c0]
  · rw [if_neg c0, if_neg c0]
    by_cases c1 : d = 1
    · rw [if_pos c1, if_pos c1]
    · rw [if_neg c1, if_neg c1]
      by_cases c2 : d = 2
      · rw [if_pos c2, if_pos c2]
      · rw [if_neg c2, if_neg c2]; exact h _ (by omega)
theorem c_guardM {c pas : Nat} {x : Int32} {f : Nat → Int32} {Q : yS → Prop} (hc : c < 16) (hpp : p = 3 ∨ p = 20) (h12 : sR s 123 12 = p + 1) (hm : mkd ps S) (hpu : puC s p ps) (hpl : plC s p ps S) (hF : cFs s l R (r :: fs)) (hlen : fs.length < 40) (h4 : sI s 124 4 = nI pas) (hn : c % 4 ≤ (jS r).length) (ht : ∀ i, i < c % 4 → ((jS r).getD i v0).1 = false) (hwa : waC s ps S x f)
    (H1 : ¬ stepP ps c (vOf (arg c (jS r) 0) (arg c (jS r) 1) (arg c (jS r) 2) f) x = 0 → ∀ s', frM (fun a i => (a = 124 ∧ i = 4) ∨ dPa 125 a i) s s' → sI s' 124 4 = nI (pas + 1) → waC s' ps S (stepP ps c (vOf (arg c (jS r) 0) (arg c (jS r) 1) (arg c (jS r) 2) f) x) (fun k => if k < (pC ps).length then nxt ps c (vOf (arg c (jS r) 0) (arg c (jS r) 1) (arg c (jS r) 2) f) k (f k) else f k) → Q s')
    (H0 : stepP ps c (vOf (arg c (jS r) 0) (arg c (jS r) 1) (arg c (jS r) 2) f) x = 0 → ∀ s', frM (fun a i => (a = 124 ∧ i ≤ 1) ∨ a = 127) s s' → sI s' 124 0 = nI 2 → sI s' 124 1 = 0 → Q s') : W_X2_guard s (nI c) Q := by
  obtain ⟨⟨⟨f1, f2, f3, f4⟩, c14, c15, c17⟩, cw⟩ := id hF
  have hkp : kd p = some (7, 0) := by rcases hpp with e | e <;> (rw [e]; rfl)
  obtain ⟨w0, w1, w2, w3⟩ := hwa
  have hwf := hm.1
  have hl := hm.2.1
  have hres := hm.2.2.1
  have h6 := hl.1
  have hag := fun a b d => vOf_ag (ps := ps) (a := a) (b := b) (c := d) hl w2
  have ok126 : okR6 ps (sI s 126) := fun k hk => by
    obtain ⟨n, hn, e⟩ := w3 k hk
    exact ⟨n, hn, by rw [w2 k (by omega)]; exact e⟩
  unfold W_X2_guard
  refine ⟨p, h12, hkp, ?_⟩
  refine c_argument (k := 0) (r := r) (fs := fs) (R := R) hc (by omega) hlen f2 f3 c17 hn ht ?_
  refine c_argument (k := 1) (r := r) (fs := fs) (R := R) hc (by omega) hlen f2 f3 c17 hn ht ?_
  refine c_argument (k := 2) (r := r) (fs := fs) (R := R) hc (by omega) hlen f2 f3 c17 hn ht ?_
  refine c_pass hpp (Or.inl rfl) hm hpu hpl hc w1 w0 ok126 (fun hne hin s6 F6 q6 n6 => ⟨fun hz => absurd hz (by decide), fun _ => ?_⟩) (fun h0 s6 F6 => ⟨fun _ => ?_, fun hz => absurd rfl hz⟩)
  · rw [stepP_cong hwf hl hres (hag _ _ _)] at hne hin q6
    refine ⟨nI_inU (by omega) (by omega), nI_inU (by omega) (by omega), ?_⟩
    have m6 : sI s6 124 4 = nI pas := (F6.1 _ _ (by unfold dPa; omega)).trans h4
    rw [nI_ix (n := 4) (by omega), m6, nI_s]
    intro s10 e10
    refine H1 hne s10 ?_ (by subst e10; rw [sI_w, if_pos ⟨rfl, rfl⟩]) ⟨?_, hin, fun k hk => ?_, okR6_nxt hwf w3⟩
    · subst e10; exact (F6.mono (fun a i h => Or.inr h)).wI (by omega)
    · subst e10; rw [sI_w, if_neg (by omega)]; exact q6
    · subst e10; rw [sI_w, if_neg (by omega), n6 k, nxt_cong hwf hl hres (hag _ _ _), w2 k hk]
  · rw [stepP_cong hwf hl hres (hag _ _ _)] at h0
    unfold W_X2_end
    refine ⟨nI_inU (a := 0) (by omega) (by omega), ?_⟩
    intro s2 e2
    refine ⟨nI_inU (a := 1) (by omega) (by omega), ?_⟩
    intro s4 e4
    rw [show ix 0 = 0 from rfl] at e2
    rw [show ix 1 = 1 from rfl] at e4
    refine H0 h0 s4 ?_ ?_ ?_
    · subst e4; subst e2
      exact ((F6.mono (fun a i h => Or.inr h)).wI (by omega)).wI (by omega)
    · subst e4; rw [sI_w, if_neg (by omega)]; subst e2; rw [sI_w, if_pos ⟨rfl, rfl⟩]
    · subst e4; rw [sI_w, if_pos ⟨rfl, rfl⟩]
end
