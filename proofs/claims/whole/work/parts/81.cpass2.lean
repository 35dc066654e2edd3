section
-- needs: cpass
/-! the class: an hour, whole -/
variable {X : KXw} {n tot kn D : Nat} {kx : Nat → Nat × Nat} {M : MMw}
theorem or_lt256 {a b : Nat} (ha : a < 256) (hb : b < 8) : a ||| 2 ^ b < 256 := by
  have : 2 ^ b < 2 ^ 8 := Nat.pow_lt_pow_right (by decide) hb
  exact Nat.or_lt_two_pow (n := 8) ha this
theorem q_now_do {tr : Bool} {W : Nat → Int32} {a t m i : Nat} (h : q_now W a) (hT : q_n W 96 ≤ 8) (ht : t < 8) (hi : i < 8) : q_now (q_do tr W t m i) (a ||| 2 ^ t) := by
  refine ⟨or_lt256 h.1 ht, ?_⟩
  intro t' ht'
  rw [q_n_eq (q_do_low2 ht hi (by omega) (by omega))] at ht'
  obtain ⟨h1, h2⟩ := h.2 t' ht'
  rw [q_do_9 hi (by omega), Nat.testBit_or, Nat.testBit_two_pow, h1]
  by_cases e : t' = t
  · subst e
    rw [if_pos rfl]
    simp
  · have e2 : decide (t = t') = false := decide_eq_false (fun h => e h.symm)
    rw [if_neg e, e2, Bool.or_false]
    exact ⟨rfl, h2⟩
theorem q_now_eq {W W' : Nat → Int32} {a : Nat} (h : q_now W a) (h96 : W' 96 = W 96) (h9 : ∀ t, t < 8 → W' (25 + 10 * t) = W (25 + 10 * t)) (hT : q_n W 96 ≤ 8) : q_now W' a := by
  refine ⟨h.1, fun t ht => ?_⟩
  rw [q_n_eq h96] at ht
  rw [h9 t (by omega)]
  exact h.2 t ht
/-- between two lines -/
def CLs (P : Nat) (tr : Bool) (W0 : Nat → Int32) (M0 : MMw) (r0 : Nat) (s : Hst) (M1 : MMw) : Prop := CX M1 P s.1 ∧ sameY W0 s.1 ∧ s.1 0 = W0 0 ∧ (∃ a, q_now s.1 a ∧ M1 123 5 = nI a) ∧ s.2.1 < 16 ∧ M1 123 6 = nI s.2.1 ∧
  M1 123 0 = M0 123 0 + nI s.2.2.1 ∧ M1 123 1 = nI (r0 + s.2.2.2.1) ∧ (s.2.2.2.2 = none ↔ s.2.2.2.1 = 0) ∧ M1 123 2 = q_cf r0 (M0 123 2) (W0 0) s.2.2.2.2 ∧ M1 123 3 = q_cl r0 (M0 123 3) s.2.2.2.2 ∧ M1 123 4 = M0 123 4 ∧ (tr = true → CRbook M1 43 s.1)
theorem CLs.step {P : Nat} {tr : Bool} {W0 : Nat → Int32} {M0 : MMw} {r0 l a : Nat} {s : Hst} {M1 M2 : MMw} (h : CLs P tr W0 M0 r0 s M1) (hon : q_on s.1 l = true) (hl : l < q_n s.1 99) (hnow : q_now s.1 a) (hg : GoP P tr s.1 M1 a s.2.1 (r0 + s.2.2.2.1) l (q_T s.1 l) (q_M s.1 l) (q_I s.1 l) M2) (hbk : M2 43 = M1 43 → tr = true → CRbook M2 43 s.1) : CLs P tr W0 M0 r0 (q_line tr l s) M2 := by
  obtain ⟨h1, h2, h3, h4, h5, h6, h7, h8, h9, h10, h11, h12, h13⟩ := h
  obtain ⟨hy, hn, h4'⟩ := hg
  have hok := q_line_ok (tr := tr) (l := l) (s := s) hl h1.2.2.1 h1.2.2.2
  obtain ⟨a1, a2, a3, _⟩ := h1.2.2.1.2.2.2.2.2.2.2 l hl
  have b1 := h1.2.2.1.1.1.2; have b2 := h1.2.2.1.1.2.1.2; have b3 := h1.2.2.1.1.2.2.1.2
  have c1 := a1.2; have c2 := a2.2; have c3 := a3.2
  have t8 : q_T s.1 l < 8 := by unfold q_T; omega
  have m4 : q_M s.1 l < 4 := by unfold q_M; omega
  have i8 : q_I s.1 l < 8 := by unfold q_I; omega
  cases hc : q_can s.1 s.2.1 l with
  | true =>
    obtain ⟨g1, g2, g3, g4, g5, g6, g7, g8⟩ := hy hc
    have e := q_line_2 (tr := tr) hon hc
    rw [e] at hok ⊢
    refine ⟨g1, h2.tr hok.1, ?_, ⟨_, q_now_do hnow (by omega) t8 i8, g3⟩, or_lt16 h5 m4, g4, ?_, g6, h9, by rw [g7]; exact h10, by rw [g8]; exact h11, by rw [h4']; exact h12, g2⟩
    · show q_do tr s.1 _ _ _ 0 = W0 0
      rw [q_hour0_f i8 t8]; exact h3
    · rw [g5, h7, Int32.add_assoc, nI_add]
  | false =>
    obtain ⟨g1, g2, g3, g4, g5, g6, g7, g8⟩ := hn hc
    have e := q_line_3 (tr := tr) hon hc
    rw [e]
    refine ⟨g1, h2, h3, ⟨a, hnow, g3⟩, h5, g4, by rw [g5]; exact h7, by rw [g6, Nat.add_assoc], ?_, ?_, ?_, by rw [h4']; exact h12, hbk g2⟩
    · dsimp only
      constructor
      · intro hh
        cases hf : s.2.2.2.2 with
        | none => rw [hf] at hh; cases hh
        | some k => rw [hf] at hh; cases hh
      · intro hh; omega
    · dsimp only
      rw [g7, h10]
      cases hf : s.2.2.2.2 with
      | none =>
        have hz := h9.mp hf
        rw [hz, Nat.add_zero]
        show (if r0 = 0 then s.1 0 else M0 123 2) = if r0 = 0 then W0 0 else M0 123 2
        rw [h3]
      | some k =>
        have hz : ¬ s.2.2.2.1 = 0 := fun hh => by rw [h9.mpr hh] at hf; cases hf
        rw [if_neg (by omega)]
        rfl
    · dsimp only
      rw [g8, h11]
      cases hf : s.2.2.2.2 with
      | none =>
        have hz := h9.mp hf
        rw [hz, Nat.add_zero]
        rfl
      | some k =>
        have hz : ¬ s.2.2.2.1 = 0 := fun hh => by rw [h9.mpr hh] at hf; cases hf
        rw [if_neg (by omega)]
        rfl
theorem q_line_rf {tr : Bool} {l : Nat} {s : Hst} : (q_line tr l s).2.2.2.1 ≤ s.2.2.2.1 + 1 := by
  unfold q_line
  split
  · split
    · exact Nat.le_succ _
    · exact Nat.le_refl _
  · exact Nat.le_succ _
theorem CRm.edge {M : MMw} {p : Nat} {W : Nat → Int32} {t : Nat} {v : Int32} (h : CRm M p W) : CRm (up M (p + 1) t v) p (upW W (19 + 10 * t) v) := by
  obtain ⟨m1, m2, m3, m4, b1, b2, b3, b4, b5, b6⟩ := h
  unfold CRm
  simp (disch := omega) only [up_ne, up_at]
  refine ⟨?_, ?_, ?_, ?_, b1.up (by decide), b2.un (by omega), b3.un (by omega), b4.un (by omega), b5.un (by omega), b6.un (by omega)⟩
  · rw [upW_n (by omega)]; exact m1
  · rw [upW_n (by omega)]; exact m2
  · rw [upW_n (by omega)]; exact m3
  · rw [upW_n (by omega)]; exact m4
theorem CRm.mood {M : MMw} {p : Nat} {W : Nat → Int32} {t : Nat} {v : Int32} (h : CRm M p W) : CRm (up M (p + 2) t v) p (upW W (20 + 10 * t) v) := by
  obtain ⟨m1, m2, m3, m4, b1, b2, b3, b4, b5, b6⟩ := h
  unfold CRm
  simp (disch := omega) only [up_ne, up_at]
  refine ⟨?_, ?_, ?_, ?_, b1.un (by omega), b2.up (by decide), b3.un (by omega), b4.un (by omega), b5.un (by omega), b6.un (by omega)⟩
  · rw [upW_n (by omega)]; exact m1
  · rw [upW_n (by omega)]; exact m2
  · rw [upW_n (by omega)]; exact m3
  · rw [upW_n (by omega)]; exact m4
theorem CRm.may {M : MMw} {p : Nat} {W : Nat → Int32} {t : Nat} {v : Int32} (h : CRm M p W) (ht : t < 4) : CRm (up M (p + 6) t v) p (upW W (4 + t) v) := by
  obtain ⟨m1, m2, m3, m4, b1, b2, b3, b4, b5, b6⟩ := h
  unfold CRm
  simp (disch := omega) only [up_ne, up_at]
  refine ⟨?_, ?_, ?_, ?_, b1.un (by omega), b2.un (by omega), b3.un (by omega), b4.un (by omega), b5.un (by omega), ?_⟩
  · rw [upW_n (by omega)]; exact m1
  · rw [upW_n (by omega)]; exact m2
  · rw [upW_n (by omega)]; exact m3
  · rw [upW_n (by omega)]; exact m4
  · have := b6.up (a := t) (v := v) (by decide)
    rw [Nat.one_mul] at this
    exact this
theorem CRm.hr {M : MMw} {p : Nat} {W : Nat → Int32} {v : Int32} (h : CRm M p W) : CRm (up M p 6 v) p (upW W 0 v) := by
  obtain ⟨m1, m2, m3, m4, b1, b2, b3, b4, b5, b6⟩ := h
  unfold CRm
  simp (disch := omega) only [up_ne, up_at, upW_s, upW_n]
  refine ⟨?_, ?_, ?_, ?_, b1.un (by omega), b2.un (by omega), b3.un (by omega), b4.un (by omega), b5.un (by omega), b6.un (by omega)⟩ <;> first | trivial | assumption
theorem CRm.dr {M : MMw} {p : Nat} {W : Nat → Int32} {v : Int32} (h : CRm M p W) : CRm (up M p 7 v) p (upW W 3 v) := by
  obtain ⟨m1, m2, m3, m4, b1, b2, b3, b4, b5, b6⟩ := h
  unfold CRm
  simp (disch := omega) only [up_ne, up_at, upW_s, upW_n]
  refine ⟨?_, ?_, ?_, ?_, b1.un (by omega), b2.un (by omega), b3.un (by omega), b4.un (by omega), b5.un (by omega), b6.un (by omega)⟩ <;> first | trivial | assumption
theorem CRm.st {M : MMw} {p : Nat} {W : Nat → Int32} {v : Int32} (h : CRm M p W) : CRm (up M p 8 v) p (upW W 1 v) := by
  obtain ⟨m1, m2, m3, m4, b1, b2, b3, b4, b5, b6⟩ := h
  unfold CRm
  simp (disch := omega) only [up_ne, up_at, upW_s, upW_n]
  refine ⟨?_, ?_, ?_, ?_, b1.un (by omega), b2.un (by omega), b3.un (by omega), b4.un (by omega), b5.un (by omega), b6.un (by omega)⟩ <;> first | trivial | assumption
/-- the draw -/
theorem c_draw (hD : 1 ≤ D) {W : Nat → Int32} (h : M 10 7 = W 3) : callw X D 71 [.inr (.inl 10), .inl (nI 1000)] (Gk n tot kn kx) M = some (q_rem (q_top24 (q_drawn W 3)) (nI 1000), Gk n tot kn kx, up M 10 7 (q_drawn W 3)) :=
  ex1 hD (fun cl => t_71_p10_0_ok X cl n tot kn kx _ M) (fun cl => by
    unfold t_71_p10_0
    have e : M 10 7 * Int32.ofNat 1664525 + Int32.ofNat 1013904223 = q_drawn W 3 := by
      unfold q_drawn
      rw [upW_s, h, Int32.mul_comm]
      rfl
    rw [e, if_pos (by decide +kernel), if_neg (by decide +kernel), up_at, upW_s]
    rfl)
theorem c_rust (hD : 2 ≤ D) {W : Nat → Int32} {a : Nat} (h : CX M 10 W) (hnow : q_now W a) (h5 : M 123 5 = nI a) : Sq X D 72 [.inr (.inl 123), .inr (.inl 2), .inr (.inl 10)] (Gk n tot kn kx) M (fun x M' => CX M' 10 (q_for q_rust1 (q_n W 96) W) ∧ Fr [10, 11] M M') :=
  Sq.mk (k := 1) hD (fun D' hD' => by
    refine Lq.of (t_72_p123_p2_p10_0_ok X (callw X D') n tot kn kx M) ?_
    unfold t_72_p123_p2_p10_0
    rw [Wq_jmp, o_nI]
    have hy := h.2.2.1
    have h96 := hy.1.1; have h96' := h96.2; have h98' := hy.1.2.2.1.2
    have loop : ∀ (c t : Nat) (M1 : MMw), t + c = q_n W 96 → CX M1 10 (q_for q_rust1 t W) → Fr [10, 11] M M1 → Lq X (callw X D') 72 2 [some (.inr (.inl 123)), some (.inr (.inl 2)), some (.inr (.inl 10)), some (.inl (nI t))] (Gk n tot kn kx) M1 (fun x M' => CX M' 10 (q_for q_rust1 (q_n W 96) W) ∧ Fr [10, 11] M M') := by
      intro c
      induction c with
      | zero =>
        intro t M1 htc hx hf
        refine Lq.of (t_72_p123_p2_p10_2_ok X (callw X D') n tot kn kx _ M1) ?_
        unfold t_72_p123_p2_p10_2
        have e0 : M1 2 0 = nI (q_n W 96) := by rw [hf 2 (by decide), h.1.1.1]; exact h96.1
        rw [e0, if_neg (by rw [lt_i (by omega) (by omega)]; omega), Wq_ret]
        rw [show t = q_n W 96 by omega] at hx
        exact ⟨hx, hf⟩
      | succ c ih =>
        intro t M1 htc hx hf
        refine Lq.of (t_72_p123_p2_p10_2_ok X (callw X D') n tot kn kx _ M1) ?_
        unfold t_72_p123_p2_p10_2
        have e0 : M1 2 0 = nI (q_n W 96) := by rw [hf 2 (by decide), h.1.1.1]; exact h96.1
        have e5 : M1 123 5 = nI a := by rw [hf 123 (by decide)]; exact h5
        have ht : t < q_n W 96 := by omega
        have t8 : t < 8 := by omega
        have ha := hnow.1
        obtain ⟨n1, n2⟩ := hnow.2 t ht
        have hW9 : q_for q_rust1 t W (25 + 10 * t) = W (25 + 10 * t) := q_rusts_at (by omega) (by intro t; omega) t
        have hok := q_rust1_ok (t := t) (W := q_for q_rust1 t W) t8 (by rw [q_n_eq (q_rusts_at (by omega) (by intro t; omega) t)]; omega) hx.2.2.2
        generalize hV : q_for q_rust1 t W = V at *
        have hVs : q_for q_rust1 (t + 1) W = q_rust1 t V := by rw [q_for_s, hV]
        obtain ⟨hcy, hcm, hiy, him⟩ := id hx
        have e1 := hcm.2.2.2.2.1 t t8
        have e7 := hcm.2.1
        have e22 : M1 2 2 = V 102 := hcy.1.2.2.1
        have next : ∀ M2, Fr [10, 11] M1 M2 → CRm M2 10 (q_rust1 t V) → Lq X (callw X D') 72 2 [some (.inr (.inl 123)), some (.inr (.inl 2)), some (.inr (.inl 10)), some (.inl (nI (t + 1)))] (Gk n tot kn kx) M2 (fun x M' => CX M' 10 (q_for q_rust1 (q_n W 96) W) ∧ Fr [10, 11] M M') := by
          intro M2 hf2 hm2
          refine ih (t + 1) M2 (by omega) ?_ (hf.tr hf2)
          rw [hVs]
          exact ⟨hcy.ch (fun d hd => hf2 d (by unfold Yp at hd; simp; omega)) hok.1 hiy.1, hm2, hiy.ch hok.1, hok.2⟩
        simp (disch := omega) only [Nat.one_mul, m1_nI, m1n, o_nI, z_nI, i1_nI, im1_nI, nI_add, nI_mul, lt_i, eq_i, inb_nI, ↓reduceIte, nI_clamp, bnd_some, b2i_0, b2i_1, b2i_t, b2i_f, Wq_ret, Wq_jmp, up_ne, up_at, upW_s, upW_n, Nat.reduceAdd, Nat.reduceMul, Nat.reduceLT, Nat.reduceEqDiff, Nat.add_zero, Nat.zero_add, reduceCtorEq, e0, ht, t8, c_isIn hD', e5, q_bit_nI (show a < 2 ^ 31 by omega) (show t < 32 by omega), c_draw hD' e7, e1, e22]
        rw [n1]
        rcases n2 with n2 | n2
        · rw [n2, decide_eq_false (by decide +kernel), if_pos rfl]
          by_cases h2 : nI 0 < V (19 + 10 * t)
          · rw [if_pos h2]
            have hdraw : CRm (up M1 10 7 (q_drawn V 3)) 10 (q_drawn V) := by
              have e := hcm.dr (v := nI 1664525 * V 3 + nI 1013904223)
              unfold q_drawn
              rw [upW_s]
              exact e
            have e19 : q_drawn V (19 + 10 * t) = V (19 + 10 * t) := upW_n (by omega)
            by_cases h3 : q_rem (q_top24 (q_drawn V 3)) (nI 1000) < V 102
            · rw [if_pos h3, Wq_jmp]
              have e : q_rust1 t V = upW (q_drawn V) (19 + 10 * t) (V (19 + 10 * t) - nI 1) := by
                unfold q_rust1
                rw [if_pos ⟨by rw [hW9]; exact n2, h2⟩, if_pos h3]
              refine next _ ((Fr.rf.up (by decide)).up (by decide)) ?_
              rw [e]; exact hdraw.edge
            · rw [if_neg h3, Wq_jmp]
              have e : q_rust1 t V = q_drawn V := by
                unfold q_rust1
                rw [if_pos ⟨by rw [hW9]; exact n2, h2⟩, if_neg h3]
              refine next _ (Fr.rf.up (by decide)) ?_
              rw [e]; exact hdraw
          · rw [if_neg h2, Wq_jmp]
            have e : q_rust1 t V = V := by
              unfold q_rust1
              rw [if_neg (fun h => h2 h.2)]
            refine next _ Fr.rf ?_
            rw [e]; exact hcm
        · rw [n2, decide_eq_true rfl, if_neg (by decide), Wq_jmp]
          have e : q_rust1 t V = V := by
            unfold q_rust1
            rw [if_neg (fun h => by rw [hW9, n2] at h; exact absurd h.1 (by decide +kernel))]
          refine next _ Fr.rf ?_
          rw [e]; exact hcm
    exact loop (q_n W 96) 0 M (by omega) h Fr.rf)
theorem q_zero7_at {W : Nat → Int32} {k : Nat} (h : ∀ t, k ≠ 23 + 10 * t) : ∀ n, q_zero7 W n k = W k := fun n =>
  q_for_ind (P := fun W' : Nat → Int32 => W' k = W k) rfl (fun i W1 hi hh => by rw [upW_n (h i)]; exact hh)
theorem q_zero7_in {W : Nat → Int32} : ∀ {n t : Nat}, t < n → q_zero7 W n (23 + 10 * t) = nI 0
  | n + 1, t, h => by
    show upW (q_zero7 W n) (23 + 10 * n) (nI 0) (23 + 10 * t) = nI 0
    by_cases e : t = n
    · subst e; rw [upW_s]
    · rw [upW_n (by omega)]
      exact q_zero7_in (by omega)
theorem q_zero7_out {W : Nat → Int32} : ∀ {n t : Nat}, n ≤ t → q_zero7 W n (23 + 10 * t) = W (23 + 10 * t)
  | 0, t, h => rfl
  | n + 1, t, h => by
    show upW (q_zero7 W n) (23 + 10 * n) (nI 0) (23 + 10 * t) = _
    rw [upW_n (by omega)]
    exact q_zero7_out (by omega)
theorem c_next10 (hD : 2 ≤ D) {W : Nat → Int32} (h : CX M 10 W) : Sq X D 73 [.inr (.inl 10)] (Gk n tot kn kx) M (fun x M' => CX M' 10 (q_next W) ∧ Fr [10, 13] M M') :=
  Sq.mk (k := 1) hD (fun D' hD' => by
    refine Lq.of (t_73_p10_0_ok X (callw X D') n tot kn kx M) ?_
    unfold t_73_p10_0
    obtain ⟨hcy, hcm, hiy, him⟩ := id h
    have hok := q_next_ok hiy him
    have h96 := hiy.1.1; have h96' := h96.2
    have e6 : M 10 6 + nI 1 = q_later W 0 := by unfold q_later; rw [upW_s, hcm.1]
    have hl : CRm (up M 10 6 (q_later W 0)) 10 (q_later W) := by
      have e := hcm.hr (v := W 0 + nI 1)
      unfold q_later
      rw [upW_s]
      exact e
    have fin : ∀ M2, Fr [10, 13] M M2 → CRm M2 10 (q_next W) → CX M2 10 (q_next W) ∧ Fr [10, 13] M M2 := fun M2 hf hm2 =>
      ⟨⟨hcy.ch (fun d hd => hf d (by unfold Yp at hd; simp; omega)) hok.1 hiy.1, hm2, hiy.ch hok.1, hok.2⟩, hf⟩
    rw [o_nI, e6, c_bell10 hD' hl]
    simp (disch := omega) only [Nat.one_mul, m1_nI, m1n, o_nI, z_nI, i1_nI, im1_nI, nI_add, nI_mul, lt_i, eq_i, inb_nI, ↓reduceIte, nI_clamp, bnd_some, b2i_0, b2i_1, b2i_t, b2i_f, Wq_ret, Wq_jmp, upW_s, upW_n, Nat.reduceAdd, Nat.reduceMul, Nat.reduceLT, Nat.reduceEqDiff, Nat.add_zero, Nat.zero_add, reduceCtorEq]
    by_cases hb : q_bell (q_later W) = nI 0
    · rw [if_pos hb, Wq_jmp]
      have e : q_next W = q_zero7 (q_later W) (q_n W 96) := by unfold q_next; rw [if_pos hb]
      have loop : ∀ (c t : Nat) (M1 : MMw), t + c = 8 → Fr [13] (up M 10 6 (q_later W 0)) M1 → (∀ j, j < t → M1 13 j = nI 0) → Lq X (callw X D') 73 19 [some (.inr (.inl 10)), some (.inl (nI t))] (Gk n tot kn kx) M1 (fun x M' => CX M' 10 (q_next W) ∧ Fr [10, 13] M M') := by
        intro c
        induction c with
        | zero =>
          intro t M1 htc hf hz
          refine Lq.of (t_73_p10_19_ok X (callw X D') n tot kn kx _ M1) ?_
          unfold t_73_p10_19
          rw [o_nI, if_neg (by rw [lt_i (by omega) (by omega)]; omega), Wq_ret]
          refine fin M1 ((Fr.rf.up (by decide)).tr (hf.mono (by decide))) ?_
          rw [e]
          obtain ⟨m1, m2, m3, m4, b1, b2, b3, b4, b5, b6⟩ := hl
          rw [← hf 10 (by decide)] at m1 m2 m3 m4
          refine ⟨?_, ?_, ?_, ?_, b1.ch (hf _ (by decide)) ?_, b2.ch (hf _ (by decide)) ?_, ?_, b4.ch (hf _ (by decide)) ?_, b5.ch (hf _ (by decide)) ?_, b6.ch (hf _ (by decide)) ?_⟩
          · rw [q_zero7_at (by intro t; omega)]; exact m1
          · rw [q_zero7_at (by intro t; omega)]; exact m2
          · rw [q_zero7_at (by intro t; omega)]; exact m3
          · rw [q_zero7_at (by intro t; omega)]; exact m4
          · intro t ht; exact q_zero7_at (by intro t; omega) _
          · intro t ht; exact q_zero7_at (by intro t; omega) _
          · intro t' ht'
            show M1 13 t' = _
            rw [hz t' (by omega)]
            rcases Nat.lt_or_ge t' (q_n W 96) with hlt | hge
            · exact (q_zero7_in hlt).symm
            · rw [q_zero7_out hge]
              unfold q_later
              rw [upW_n (by omega)]
              exact ((him.2.2.2.1 t' ht').2.2 hge).symm
          · intro t ht; exact q_zero7_at (by intro t; omega) _
          · intro t ht; exact q_zero7_at (by intro t; omega) _
          · intro t ht; exact q_zero7_at (by intro t; omega) _
        | succ c ih =>
          intro t M1 htc hf hz
          refine Lq.of (t_73_p10_19_ok X (callw X D') n tot kn kx _ M1) ?_
          unfold t_73_p10_19
          have t8 : t < 8 := by omega
          simp (disch := omega) only [Nat.one_mul, m1_nI, m1n, o_nI, z_nI, i1_nI, im1_nI, nI_add, nI_mul, lt_i, eq_i, inb_nI, ↓reduceIte, nI_clamp, bnd_some, b2i_0, b2i_1, b2i_t, b2i_f, Wq_ret, Wq_jmp, upW_s, upW_n, Nat.reduceAdd, Nat.reduceMul, Nat.reduceLT, Nat.reduceEqDiff, Nat.add_zero, Nat.zero_add, reduceCtorEq, t8]
          refine ih (t + 1) _ (by omega) (hf.up (by decide)) ?_
          intro j hj
          rw [up_at]
          by_cases ej : j = t
          · subst ej; rw [upW_s]
          · rw [upW_n ej]; exact hz j (by omega)
      exact loop 8 0 _ (by decide) Fr.rf (fun j hj => absurd hj (Nat.not_lt_zero j))
    · rw [if_neg hb, Wq_ret]
      have e : q_next W = q_later W := by unfold q_next; rw [if_neg hb]
      refine fin _ (Fr.rf.up (by decide)) ?_
      rw [e]; exact hl)
theorem c_next87 (hD : 2 ≤ D) {W : Nat → Int32} (h : CX M 87 W) : Sq X D 73 [.inr (.inl 87)] (Gk n tot kn kx) M (fun x M' => CX M' 87 (q_next W) ∧ Fr [87, 90] M M') :=
  Sq.mk (k := 1) hD (fun D' hD' => by
    refine Lq.of (t_73_p87_0_ok X (callw X D') n tot kn kx M) ?_
    unfold t_73_p87_0
    obtain ⟨hcy, hcm, hiy, him⟩ := id h
    have hok := q_next_ok hiy him
    have h96 := hiy.1.1; have h96' := h96.2
    have e6 : M 87 6 + nI 1 = q_later W 0 := by unfold q_later; rw [upW_s, hcm.1]
    have hl : CRm (up M 87 6 (q_later W 0)) 87 (q_later W) := by
      have e := hcm.hr (v := W 0 + nI 1)
      unfold q_later
      rw [upW_s]
      exact e
    have fin : ∀ M2, Fr [87, 90] M M2 → CRm M2 87 (q_next W) → CX M2 87 (q_next W) ∧ Fr [87, 90] M M2 := fun M2 hf hm2 =>
      ⟨⟨hcy.ch (fun d hd => hf d (by unfold Yp at hd; simp; omega)) hok.1 hiy.1, hm2, hiy.ch hok.1, hok.2⟩, hf⟩
    rw [o_nI, e6, c_bell87 hD' hl]
    simp (disch := omega) only [Nat.one_mul, m1_nI, m1n, o_nI, z_nI, i1_nI, im1_nI, nI_add, nI_mul, lt_i, eq_i, inb_nI, ↓reduceIte, nI_clamp, bnd_some, b2i_0, b2i_1, b2i_t, b2i_f, Wq_ret, Wq_jmp, upW_s, upW_n, Nat.reduceAdd, Nat.reduceMul, Nat.reduceLT, Nat.reduceEqDiff, Nat.add_zero, Nat.zero_add, reduceCtorEq]
    by_cases hb : q_bell (q_later W) = nI 0
    · rw [if_pos hb, Wq_jmp]
      have e : q_next W = q_zero7 (q_later W) (q_n W 96) := by unfold q_next; rw [if_pos hb]
      have loop : ∀ (c t : Nat) (M1 : MMw), t + c = 8 → Fr [90] (up M 87 6 (q_later W 0)) M1 → (∀ j, j < t → M1 90 j = nI 0) → Lq X (callw X D') 73 19 [some (.inr (.inl 87)), some (.inl (nI t))] (Gk n tot kn kx) M1 (fun x M' => CX M' 87 (q_next W) ∧ Fr [87, 90] M M') := by
        intro c
        induction c with
        | zero =>
          intro t M1 htc hf hz
          refine Lq.of (t_73_p87_19_ok X (callw X D') n tot kn kx _ M1) ?_
          unfold t_73_p87_19
          rw [o_nI, if_neg (by rw [lt_i (by omega) (by omega)]; omega), Wq_ret]
          refine fin M1 ((Fr.rf.up (by decide)).tr (hf.mono (by decide))) ?_
          rw [e]
          obtain ⟨m1, m2, m3, m4, b1, b2, b3, b4, b5, b6⟩ := hl
          rw [← hf 87 (by decide)] at m1 m2 m3 m4
          refine ⟨?_, ?_, ?_, ?_, b1.ch (hf _ (by decide)) ?_, b2.ch (hf _ (by decide)) ?_, ?_, b4.ch (hf _ (by decide)) ?_, b5.ch (hf _ (by decide)) ?_, b6.ch (hf _ (by decide)) ?_⟩
          · rw [q_zero7_at (by intro t; omega)]; exact m1
          · rw [q_zero7_at (by intro t; omega)]; exact m2
          · rw [q_zero7_at (by intro t; omega)]; exact m3
          · rw [q_zero7_at (by intro t; omega)]; exact m4
          · intro t ht; exact q_zero7_at (by intro t; omega) _
          · intro t ht; exact q_zero7_at (by intro t; omega) _
          · intro t' ht'
            show M1 90 t' = _
            rw [hz t' (by omega)]
            rcases Nat.lt_or_ge t' (q_n W 96) with hlt | hge
            · exact (q_zero7_in hlt).symm
            · rw [q_zero7_out hge]
              unfold q_later
              rw [upW_n (by omega)]
              exact ((him.2.2.2.1 t' ht').2.2 hge).symm
          · intro t ht; exact q_zero7_at (by intro t; omega) _
          · intro t ht; exact q_zero7_at (by intro t; omega) _
          · intro t ht; exact q_zero7_at (by intro t; omega) _
        | succ c ih =>
          intro t M1 htc hf hz
          refine Lq.of (t_73_p87_19_ok X (callw X D') n tot kn kx _ M1) ?_
          unfold t_73_p87_19
          have t8 : t < 8 := by omega
          simp (disch := omega) only [Nat.one_mul, m1_nI, m1n, o_nI, z_nI, i1_nI, im1_nI, nI_add, nI_mul, lt_i, eq_i, inb_nI, ↓reduceIte, nI_clamp, bnd_some, b2i_0, b2i_1, b2i_t, b2i_f, Wq_ret, Wq_jmp, upW_s, upW_n, Nat.reduceAdd, Nat.reduceMul, Nat.reduceLT, Nat.reduceEqDiff, Nat.add_zero, Nat.zero_add, reduceCtorEq, t8]
          refine ih (t + 1) _ (by omega) (hf.up (by decide)) ?_
          intro j hj
          rw [up_at]
          by_cases ej : j = t
          · subst ej; rw [upW_s]
          · rw [upW_n ej]; exact hz j (by omega)
      exact loop 8 0 _ (by decide) Fr.rf (fun j hj => absurd hj (Nat.not_lt_zero j))
    · rw [if_neg hb, Wq_ret]
      have e : q_next W = q_later W := by unfold q_next; rw [if_neg hb]
      refine fin _ (Fr.rf.up (by decide)) ?_
      rw [e]; exact hl)
theorem q_zero9_at {W : Nat → Int32} {k : Nat} (h : ∀ t, k ≠ 25 + 10 * t) : ∀ n, q_zero9 W n k = W k := fun n =>
  q_for_ind (P := fun W' : Nat → Int32 => W' k = W k) rfl (fun i W1 hi hh => by rw [upW_n (h i)]; exact hh)
theorem q_zero9_in {W : Nat → Int32} : ∀ {n t : Nat}, t < n → q_zero9 W n (25 + 10 * t) = nI 0
  | n + 1, t, h => by
    show upW (q_zero9 W n) (25 + 10 * n) (nI 0) (25 + 10 * t) = nI 0
    by_cases e : t = n
    · subst e; rw [upW_s]
    · rw [upW_n (by omega)]
      exact q_zero9_in (by omega)
theorem CRm.eqs {M : MMw} {p : Nat} {W W' : Nat → Int32} (h : CRm M p W) (hw : ∀ k, k < 96 → (∀ t, k ≠ 25 + 10 * t) → W' k = W k) : CRm M p W' := by
  obtain ⟨m1, m2, m3, m4, b1, b2, b3, b4, b5, b6⟩ := h
  refine ⟨?_, ?_, ?_, ?_, b1.ch rfl ?_, b2.ch rfl ?_, b3.ch rfl ?_, b4.ch rfl ?_, b5.ch rfl ?_, b6.ch rfl ?_⟩
  · rw [hw _ (by omega) (by omega)]; exact m1
  · rw [hw _ (by omega) (by omega)]; exact m2
  · rw [hw _ (by omega) (by omega)]; exact m3
  · rw [hw _ (by omega) (by omega)]; exact m4
  all_goals (intro t ht; exact hw _ (by omega) (by omega))
theorem CX.begun {M : MMw} {P : Nat} {W : Nat → Int32} (h : CX M P W) : CX M P (q_begun W).1 ∧ sameY W (q_begun W).1 ∧ q_now (q_begun W).1 0 := by
  have h96 := h.2.2.1.1.1.2
  have hz := q_zero9_ok (n := q_n W 96) (by omega) h.2.2.1 h.2.2.2
  refine ⟨⟨h.1.ch (fun _ _ => rfl) hz.1 h.2.2.1.1, h.2.1.eqs (fun k h1 h2 => q_zero9_at h2 _), h.2.2.1.ch hz.1, hz.2⟩, hz.1, by decide, ?_⟩
  intro t ht
  have e : (q_begun W).1 (25 + 10 * t) = nI 0 := by
    refine q_zero9_in ?_
    have e96 : q_n (q_begun W).1 96 = q_n W 96 := q_n_eq (hz.1 96 (by unfold mvI; omega))
    rw [e96] at ht
    exact ht
  rw [e, Nat.zero_testBit]
  exact ⟨by decide +kernel, Or.inl rfl⟩
/-- an hour, on the class's side -/
def PsP (P : Nat) (tr : Bool) (W : Nat → Int32) (M : MMw) (r0 : Nat) (M' : MMw) : Prop := CX M' P (q_hour tr W).1 ∧ (tr = true → CRbook M' 43 (q_hour tr W).1) ∧ M' 123 0 = M 123 0 + nI (q_hour tr W).2.2.1 ∧ M' 123 1 = nI (r0 + (q_hour tr W).2.2.2.1) ∧
  M' 123 2 = q_cf r0 (M 123 2) (W 0) (q_hour tr W).2.2.2.2 ∧ M' 123 3 = q_cl r0 (M 123 3) (q_hour tr W).2.2.2.2 ∧ ∃ a, q_now (q_hour tr W).1 a ∧ M' 123 4 = M 123 4 ||| nI a
theorem q_next_at {W : Nat → Int32} {k : Nat} (h0 : k ≠ 0) (h : ∀ t, k ≠ 23 + 10 * t) : q_next W k = W k := by
  unfold q_next q_later
  split
  · rw [q_zero7_at h, upW_n h0]
  · rw [upW_n h0]
theorem q_rusted_at {tr : Bool} {W : Nat → Int32} {k : Nat} (h1 : k ≠ 3) (h2 : ∀ t, k ≠ 19 + 10 * t) : q_rusted tr W k = W k := by
  unfold q_rusted
  split
  · exact q_rusts_at h1 h2 _
  · rfl
theorem q_rusts_hi {W : Nat → Int32} {k n : Nat} (hk : 96 ≤ k) (hn : n ≤ 8) : q_for q_rust1 n W k = W k :=
  q_for_ind (P := fun W' : Nat → Int32 => W' k = W k) rfl (fun i W1 hi h => by
    unfold q_rust1 q_drawn
    split
    · split
      · rw [upW_n (by omega), upW_n (by omega)]; exact h
      · rw [upW_n (by omega)]; exact h
    · exact h)
theorem q_rusted_hi {tr : Bool} {W : Nat → Int32} {k : Nat} (hk : 96 ≤ k) (hn : q_n W 96 ≤ 8) : q_rusted tr W k = W k := by
  unfold q_rusted
  split
  · exact q_rusts_hi hk hn
  · rfl
theorem q_zero9_hi {W : Nat → Int32} {k n : Nat} (hk : 96 ≤ k) (hn : n ≤ 8) : q_zero9 W n k = W k :=
  q_for_ind (P := fun W' : Nat → Int32 => W' k = W k) rfl (fun i W1 hi hh => by rw [upW_n (by omega)]; exact hh)
theorem q_zero7_hi {W : Nat → Int32} {k n : Nat} (hk : 96 ≤ k) (hn : n ≤ 8) : q_zero7 W n k = W k :=
  q_for_ind (P := fun W' : Nat → Int32 => W' k = W k) rfl (fun i W1 hi hh => by rw [upW_n (by omega)]; exact hh)
theorem q_next_hi {W : Nat → Int32} {k : Nat} (hk : 96 ≤ k) (hn : q_n W 96 ≤ 8) : q_next W k = W k := by
  unfold q_next q_later
  split
  · rw [q_zero7_hi hk hn, upW_n (by omega)]
  · rw [upW_n (by omega)]
theorem q_now_end {tr : Bool} {W : Nat → Int32} {a : Nat} (h : q_now W a) (hT : q_n W 96 ≤ 8) : q_now (q_next (q_rusted tr W)) a :=
  q_now_eq h (by rw [q_next_at (by omega) (by omega), q_rusted_at (by omega) (by omega)]) (fun t ht => by rw [q_next_at (by omega) (by omega), q_rusted_at (by omega) (by omega)]) hT
def PsQ10 (W : Nat → Int32) (M : MMw) (r0 : Nat) (_ : Int32) (M' : MMw) : Prop := PsP 10 true W M r0 M' ∧ Fr [43, 121, 122, 123, 10, 11, 12, 13, 14, 15] M M'
set_option maxHeartbeats 4000000 in
theorem c_pass10 (hD : 6 ≤ D) {W : Nat → Int32} {r0 : Nat} (h : CX M 10 W) (h1 : M 123 1 = nI r0) (hr : r0 < 2 ^ 29) (hbk : true = true → CRbook M 43 W) :
    Sq X D 74 [.inr (.inl 123), .inr (.inl 1), .inr (.inl 10), .inr (.inl 120), .inl (b2i true)] (Gk n tot kn kx) M (PsQ10 W M r0) :=
  Sq.mk (k := 5) hD (fun D' hD' => by
    refine Lq.of (t_74_p123_p1_p10_p120_0_ok X (callw X D') n tot kn kx _ M) ?_
    unfold t_74_p123_p1_p10_p120_0
    rw [Wq_jmp, o_nI]
    have hy := h.2.2.1
    have h96' := hy.1.1.2
    have h99 := hy.1.2.2.2.1; have h99' := h99.2
    obtain ⟨g1, g2, g3⟩ := h.begun
    have fin : ∀ (s : Hst) (M1 : MMw), s = q_lines true W → CLs 10 true W M r0 s M1 → Fr [43, 121, 122, 123, 10, 11, 12, 13, 14, 15] M M1 → ∀ M2 M3 M4, M2 = up M1 123 4 (M1 123 4 ||| M1 123 5) → (CX M3 10 (q_rusted true s.1) ∧ Fr [10, 11] M2 M3) → (CX M4 10 (q_next (q_rusted true s.1)) ∧ Fr [10, 13] M3 M4) → PsQ10 W M r0 0 M4 := by
      intro s M1 hs hc hf M2 M3 M4 e2 h3 h4
      obtain ⟨c1, c2, c3, ⟨a, c4, c4'⟩, c5, c6, c7, c8, c9, c10, c11, c12, c13⟩ := hc
      have f4 : M4 123 = upW (M1 123) 4 (M1 123 4 ||| M1 123 5) := by rw [h4.2 123 (by decide), h3.2 123 (by decide), e2, up_at]
      have e : q_hour true W = (q_next (q_rusted true s.1), s.2) := by unfold q_hour; rw [← hs]
      have h8 : q_n s.1 96 ≤ 8 := by rw [q_n_eq (c2 96 (by unfold mvI; omega))]; omega
      refine ⟨?_, ?_⟩
      · unfold PsP
        rw [e]
        refine ⟨h4.1, fun ht => ?_, ?_, ?_, ?_, ?_, ⟨a, q_now_end c4 h8, ?_⟩⟩
        · refine (c13 ht).ch ?_ (fun t ht => by
            show q_next (q_rusted true s.1) (2034 + 1 * t) = _
            rw [q_next_hi (by omega) (by rw [q_n_eq (q_rusted_hi (by omega) h8)]; exact h8), q_rusted_hi (by omega) h8])
          rw [h4.2 43 (by decide), h3.2 43 (by decide), e2, up_ne (by decide)]
        · rw [f4, upW_n (by decide)]; exact c7
        · rw [f4, upW_n (by decide)]; exact c8
        · rw [f4, upW_n (by decide)]; exact c10
        · rw [f4, upW_n (by decide)]; exact c11
        · rw [f4, upW_s, c12, c4']
      · have hf2 : Fr [43, 121, 122, 123, 10, 11, 12, 13, 14, 15] M M2 := by
          rw [e2]
          exact hf.up (by decide)
        exact hf2.tr ((h3.2.mono (by decide)).tr (h4.2.mono (by decide)))
    have loop : ∀ (c l : Nat) (s : Hst) (M1 : MMw), l + c = q_n W 99 → s = q_for (q_line true) l (q_begun W) → s.2.2.2.1 ≤ l → CLs 10 true W M r0 s M1 → Fr [43, 121, 122, 123, 10, 11, 12, 13, 14, 15] M M1 → Lq X (callw X D') 74 13 [some (.inr (.inl 123)), some (.inr (.inl 1)), some (.inr (.inl 10)), some (.inr (.inl 120)), some (.inl (b2i true)), some (.inl (nI l))] (Gk n tot kn kx) M1 (PsQ10 W M r0) := by
      intro c
      induction c with
      | zero =>
        intro l s M1 hlc hs hrf hc hf
        refine Lq.of (t_74_p123_p1_p10_p120_13_ok X (callw X D') n tot kn kx _ _ M1) ?_
        unfold t_74_p123_p1_p10_p120_13
        have e99 : M1 25 0 = nI (q_n W 99) := by rw [hc.1.1.2.2.1.1, hc.2.1 99 (by unfold mvI; omega)]; exact h99.1
        have hnl : ¬ l < q_n W 99 := by omega
        have hs2 : s = q_lines true W := by rw [hs, show l = q_n W 99 by omega]; rfl
        have hfin := fin s M1 hs2 hc hf
        have c2 : CX (up M1 123 4 (M1 123 4 ||| M1 123 5)) 10 s.1 := hc.1.fr (Fr.rf.up (L := [123]) (by decide)) (by decide)
        simp (disch := omega) only [Nat.one_mul, m1_nI, m1n, o_nI, z_nI, i1_nI, im1_nI, nI_add, nI_mul, lt_i, eq_i, inb_nI, ↓reduceIte, nI_clamp, bnd_some, b2i_0, b2i_1, b2i_t, b2i_f, Wq_ret, Wq_jmp, upW_s, upW_n, Nat.reduceAdd, Nat.reduceMul, Nat.reduceLT, Nat.reduceEqDiff, Nat.add_zero, Nat.zero_add, reduceCtorEq, e99, hnl]
        have e102 : M1 2 2 = s.1 102 := hc.1.1.1.2.2.1
        obtain ⟨a, hnow, h5⟩ := hc.2.2.2.1
        by_cases hru : nI 0 < s.1 102
        · rw [e102, if_pos hru]
          have er : q_rusted true s.1 = q_for q_rust1 (q_n s.1 96) s.1 := by unfold q_rusted; rw [if_pos ⟨rfl, hru⟩]
          refine Wq.call (c_rust (show 2 ≤ D' by omega) c2 hnow (by rw [up_at, upW_n (by decide)]; exact h5)) ?_
          rintro x M3 h3
          rw [← er] at h3
          refine Wq.call (c_next10 (show 2 ≤ D' by omega) h3.1) ?_
          rintro y M4 h4
          rw [Wq_ret]
          exact hfin _ M3 M4 rfl h3 h4
        · rw [e102, if_neg hru]
          have er : q_rusted true s.1 = s.1 := by unfold q_rusted; rw [if_neg (fun h => hru h.2)]
          refine Wq.call (c_next10 (show 2 ≤ D' by omega) c2) ?_
          rintro y M4 h4
          rw [Wq_ret]
          rw [er] at hfin
          exact hfin _ _ M4 rfl ⟨c2, Fr.rf⟩ h4
      | succ c ih =>
        intro l s M1 hlc hs hrf hc hf
        refine Lq.of (t_74_p123_p1_p10_p120_13_ok X (callw X D') n tot kn kx _ _ M1) ?_
        unfold t_74_p123_p1_p10_p120_13
        have e99 : M1 25 0 = nI (q_n W 99) := by rw [hc.1.1.2.2.1.1, hc.2.1 99 (by unfold mvI; omega)]; exact h99.1
        have hll : l < q_n W 99 := by omega
        have h20 : l < 20 := by omega
        have hls : l < q_n s.1 99 := by rw [q_n_eq (hc.2.1 99 (by unfold mvI; omega))]; exact hll
        have hs' : q_line true l s = q_for (q_line true) (l + 1) (q_begun W) := by rw [q_for_s, ← hs]
        simp (disch := omega) only [Nat.one_mul, m1_nI, m1n, o_nI, z_nI, i1_nI, im1_nI, nI_add, nI_mul, lt_i, eq_i, inb_nI, ↓reduceIte, nI_clamp, bnd_some, b2i_0, b2i_1, b2i_t, b2i_f, Wq_ret, Wq_jmp, upW_s, upW_n, Nat.reduceAdd, Nat.reduceMul, Nat.reduceLT, Nat.reduceEqDiff, Nat.add_zero, Nat.zero_add, reduceCtorEq, e99, hll, h20, c_isOn (show 1 ≤ D' by omega) hc.1.1.2.2.1 hc.1.2.2.1 hls hc.1.2.1.1]
        cases hq : q_on s.1 l with
        | false =>
          rw [if_pos rfl, Wq_jmp]
          exact ih (l + 1) s M1 (by omega) (by rw [← hs', q_line_1 hq]) (by omega) hc hf
        | true =>
          rw [if_neg (by decide)]
          obtain ⟨a, hnow, h5⟩ := hc.2.2.2.1
          refine Wq.call (c_goBy10 (show 5 ≤ D' by omega) hc.1 hnow h5 hc.2.2.2.2.2.1 hc.2.2.2.2.1 hc.2.2.2.2.2.2.2.1 (by omega) hls hc.2.2.2.2.2.2.2.2.2.2.2.2) ?_
          rintro x M2 ⟨hg, hf2⟩
          rw [Wq_jmp]
          refine ih (l + 1) (q_line true l s) M2 (by omega) hs' (by have := q_line_rf (tr := true) (l := l) (s := s); omega) ?_ (hf.tr hf2)
          exact hc.step hq hls hnow hg (fun e ht => by
            have := hc.2.2.2.2.2.2.2.2.2.2.2.2 ht
            unfold CRbook at this ⊢
            rw [e]
            exact this)
    refine loop (q_n W 99) 0 (q_begun W) _ (by omega) rfl (Nat.le_refl _) ?_ ((Fr.rf.up (by decide)).up (by decide))
    have c2 : CX (up (up M 123 5 (nI 0)) 123 6 (nI 0)) 10 (q_begun W).1 := g1.fr ((Fr.rf.up (L := [123]) (by decide)).up (by decide)) (by decide)
    refine ⟨c2, g2, q_zero9_at (by omega) _, ⟨0, g3, ?_⟩, show 0 < 16 by decide, ?_, ?_, ?_, ⟨fun _ => rfl, fun _ => rfl⟩, ?_, ?_, ?_, fun ht => ?_⟩
    · simp (disch := omega) only [Nat.one_mul, m1_nI, m1n, o_nI, z_nI, i1_nI, im1_nI, nI_add, nI_mul, lt_i, eq_i, inb_nI, ↓reduceIte, nI_clamp, bnd_some, b2i_0, b2i_1, b2i_t, b2i_f, Wq_ret, Wq_jmp, up_ne, up_at, upW_s, upW_n, Nat.reduceAdd, Nat.reduceMul, Nat.reduceLT, Nat.reduceEqDiff, Nat.add_zero, Nat.zero_add, reduceCtorEq]
    · simp (disch := omega) only [Nat.one_mul, m1_nI, m1n, o_nI, z_nI, i1_nI, im1_nI, nI_add, nI_mul, lt_i, eq_i, inb_nI, ↓reduceIte, nI_clamp, bnd_some, b2i_0, b2i_1, b2i_t, b2i_f, Wq_ret, Wq_jmp, up_ne, up_at, upW_s, upW_n, Nat.reduceAdd, Nat.reduceMul, Nat.reduceLT, Nat.reduceEqDiff, Nat.add_zero, Nat.zero_add, reduceCtorEq]
      rfl
    · simp (disch := omega) only [Nat.one_mul, m1_nI, m1n, o_nI, z_nI, i1_nI, im1_nI, nI_add, nI_mul, lt_i, eq_i, inb_nI, ↓reduceIte, nI_clamp, bnd_some, b2i_0, b2i_1, b2i_t, b2i_f, Wq_ret, Wq_jmp, up_ne, up_at, upW_s, upW_n, Nat.reduceAdd, Nat.reduceMul, Nat.reduceLT, Nat.reduceEqDiff, Nat.add_zero, Nat.zero_add, reduceCtorEq]
      show M 123 0 = M 123 0 + 0
      rw [Int32.add_zero]
    · simp (disch := omega) only [Nat.one_mul, m1_nI, m1n, o_nI, z_nI, i1_nI, im1_nI, nI_add, nI_mul, lt_i, eq_i, inb_nI, ↓reduceIte, nI_clamp, bnd_some, b2i_0, b2i_1, b2i_t, b2i_f, Wq_ret, Wq_jmp, up_ne, up_at, upW_s, upW_n, Nat.reduceAdd, Nat.reduceMul, Nat.reduceLT, Nat.reduceEqDiff, Nat.add_zero, Nat.zero_add, reduceCtorEq]
      exact h1
    · simp (disch := omega) only [Nat.one_mul, m1_nI, m1n, o_nI, z_nI, i1_nI, im1_nI, nI_add, nI_mul, lt_i, eq_i, inb_nI, ↓reduceIte, nI_clamp, bnd_some, b2i_0, b2i_1, b2i_t, b2i_f, Wq_ret, Wq_jmp, up_ne, up_at, upW_s, upW_n, Nat.reduceAdd, Nat.reduceMul, Nat.reduceLT, Nat.reduceEqDiff, Nat.add_zero, Nat.zero_add, reduceCtorEq]
      rfl
    · simp (disch := omega) only [Nat.one_mul, m1_nI, m1n, o_nI, z_nI, i1_nI, im1_nI, nI_add, nI_mul, lt_i, eq_i, inb_nI, ↓reduceIte, nI_clamp, bnd_some, b2i_0, b2i_1, b2i_t, b2i_f, Wq_ret, Wq_jmp, up_ne, up_at, upW_s, upW_n, Nat.reduceAdd, Nat.reduceMul, Nat.reduceLT, Nat.reduceEqDiff, Nat.add_zero, Nat.zero_add, reduceCtorEq]
      rfl
    · simp (disch := omega) only [Nat.one_mul, m1_nI, m1n, o_nI, z_nI, i1_nI, im1_nI, nI_add, nI_mul, lt_i, eq_i, inb_nI, ↓reduceIte, nI_clamp, bnd_some, b2i_0, b2i_1, b2i_t, b2i_f, Wq_ret, Wq_jmp, up_ne, up_at, upW_s, upW_n, Nat.reduceAdd, Nat.reduceMul, Nat.reduceLT, Nat.reduceEqDiff, Nat.add_zero, Nat.zero_add, reduceCtorEq]
    · refine (hbk ht).ch (by rw [up_ne (by decide), up_ne (by decide)]) (fun t ht => q_zero9_hi (by omega) (by omega)))
def PsQ87 (W : Nat → Int32) (M : MMw) (r0 : Nat) (_ : Int32) (M' : MMw) : Prop := PsP 87 false W M r0 M' ∧ Fr [ 121, 122, 123, 87, 88, 89, 90, 91, 92] M M'
set_option maxHeartbeats 4000000 in
theorem c_pass87 (hD : 6 ≤ D) {W : Nat → Int32} {r0 : Nat} (h : CX M 87 W) (h1 : M 123 1 = nI r0) (hr : r0 < 2 ^ 29) (hbk : false = true → CRbook M 43 W) :
    Sq X D 74 [.inr (.inl 123), .inr (.inl 1), .inr (.inl 87), .inr (.inl 120), .inl (b2i false)] (Gk n tot kn kx) M (PsQ87 W M r0) :=
  Sq.mk (k := 5) hD (fun D' hD' => by
    refine Lq.of (t_74_p123_p1_p87_p120_0_ok X (callw X D') n tot kn kx _ M) ?_
    unfold t_74_p123_p1_p87_p120_0
    rw [Wq_jmp, o_nI]
    have hy := h.2.2.1
    have h96' := hy.1.1.2
    have h99 := hy.1.2.2.2.1; have h99' := h99.2
    obtain ⟨g1, g2, g3⟩ := h.begun
    have fin : ∀ (s : Hst) (M1 : MMw), s = q_lines false W → CLs 87 false W M r0 s M1 → Fr [ 121, 122, 123, 87, 88, 89, 90, 91, 92] M M1 → ∀ M2 M3 M4, M2 = up M1 123 4 (M1 123 4 ||| M1 123 5) → (CX M3 87 (q_rusted false s.1) ∧ Fr [87, 88] M2 M3) → (CX M4 87 (q_next (q_rusted false s.1)) ∧ Fr [87, 90] M3 M4) → PsQ87 W M r0 0 M4 := by
      intro s M1 hs hc hf M2 M3 M4 e2 h3 h4
      obtain ⟨c1, c2, c3, ⟨a, c4, c4'⟩, c5, c6, c7, c8, c9, c10, c11, c12, c13⟩ := hc
      have f4 : M4 123 = upW (M1 123) 4 (M1 123 4 ||| M1 123 5) := by rw [h4.2 123 (by decide), h3.2 123 (by decide), e2, up_at]
      have e : q_hour false W = (q_next (q_rusted false s.1), s.2) := by unfold q_hour; rw [← hs]
      have h8 : q_n s.1 96 ≤ 8 := by rw [q_n_eq (c2 96 (by unfold mvI; omega))]; omega
      refine ⟨?_, ?_⟩
      · unfold PsP
        rw [e]
        refine ⟨h4.1, fun ht => ?_, ?_, ?_, ?_, ?_, ⟨a, q_now_end c4 h8, ?_⟩⟩
        · refine (c13 ht).ch ?_ (fun t ht => by
            show q_next (q_rusted false s.1) (2034 + 1 * t) = _
            rw [q_next_hi (by omega) (by rw [q_n_eq (q_rusted_hi (by omega) h8)]; exact h8), q_rusted_hi (by omega) h8])
          rw [h4.2 43 (by decide), h3.2 43 (by decide), e2, up_ne (by decide)]
        · rw [f4, upW_n (by decide)]; exact c7
        · rw [f4, upW_n (by decide)]; exact c8
        · rw [f4, upW_n (by decide)]; exact c10
        · rw [f4, upW_n (by decide)]; exact c11
        · rw [f4, upW_s, c12, c4']
      · have hf2 : Fr [ 121, 122, 123, 87, 88, 89, 90, 91, 92] M M2 := by
          rw [e2]
          exact hf.up (by decide)
        exact hf2.tr ((h3.2.mono (by decide)).tr (h4.2.mono (by decide)))
    have loop : ∀ (c l : Nat) (s : Hst) (M1 : MMw), l + c = q_n W 99 → s = q_for (q_line false) l (q_begun W) → s.2.2.2.1 ≤ l → CLs 87 false W M r0 s M1 → Fr [ 121, 122, 123, 87, 88, 89, 90, 91, 92] M M1 → Lq X (callw X D') 74 13 [some (.inr (.inl 123)), some (.inr (.inl 1)), some (.inr (.inl 87)), some (.inr (.inl 120)), some (.inl (b2i false)), some (.inl (nI l))] (Gk n tot kn kx) M1 (PsQ87 W M r0) := by
      intro c
      induction c with
      | zero =>
        intro l s M1 hlc hs hrf hc hf
        refine Lq.of (t_74_p123_p1_p87_p120_13_ok X (callw X D') n tot kn kx _ _ M1) ?_
        unfold t_74_p123_p1_p87_p120_13
        have e99 : M1 25 0 = nI (q_n W 99) := by rw [hc.1.1.2.2.1.1, hc.2.1 99 (by unfold mvI; omega)]; exact h99.1
        have hnl : ¬ l < q_n W 99 := by omega
        have hs2 : s = q_lines false W := by rw [hs, show l = q_n W 99 by omega]; rfl
        have hfin := fin s M1 hs2 hc hf
        have c2 : CX (up M1 123 4 (M1 123 4 ||| M1 123 5)) 87 s.1 := hc.1.fr (Fr.rf.up (L := [123]) (by decide)) (by decide)
        simp (disch := omega) only [Nat.one_mul, m1_nI, m1n, o_nI, z_nI, i1_nI, im1_nI, nI_add, nI_mul, lt_i, eq_i, inb_nI, ↓reduceIte, nI_clamp, bnd_some, b2i_0, b2i_1, b2i_t, b2i_f, Wq_ret, Wq_jmp, upW_s, upW_n, Nat.reduceAdd, Nat.reduceMul, Nat.reduceLT, Nat.reduceEqDiff, Nat.add_zero, Nat.zero_add, reduceCtorEq, e99, hnl]
        have er : q_rusted false s.1 = s.1 := by unfold q_rusted; rw [if_neg (fun h => by cases h.1)]
        refine Wq.call (c_next87 (show 2 ≤ D' by omega) c2) ?_
        rintro y M4 h4
        rw [Wq_ret]
        rw [er] at hfin
        exact hfin _ _ M4 rfl ⟨c2, Fr.rf⟩ h4
      | succ c ih =>
        intro l s M1 hlc hs hrf hc hf
        refine Lq.of (t_74_p123_p1_p87_p120_13_ok X (callw X D') n tot kn kx _ _ M1) ?_
        unfold t_74_p123_p1_p87_p120_13
        have e99 : M1 25 0 = nI (q_n W 99) := by rw [hc.1.1.2.2.1.1, hc.2.1 99 (by unfold mvI; omega)]; exact h99.1
        have hll : l < q_n W 99 := by omega
        have h20 : l < 20 := by omega
        have hls : l < q_n s.1 99 := by rw [q_n_eq (hc.2.1 99 (by unfold mvI; omega))]; exact hll
        have hs' : q_line false l s = q_for (q_line false) (l + 1) (q_begun W) := by rw [q_for_s, ← hs]
        simp (disch := omega) only [Nat.one_mul, m1_nI, m1n, o_nI, z_nI, i1_nI, im1_nI, nI_add, nI_mul, lt_i, eq_i, inb_nI, ↓reduceIte, nI_clamp, bnd_some, b2i_0, b2i_1, b2i_t, b2i_f, Wq_ret, Wq_jmp, upW_s, upW_n, Nat.reduceAdd, Nat.reduceMul, Nat.reduceLT, Nat.reduceEqDiff, Nat.add_zero, Nat.zero_add, reduceCtorEq, e99, hll, h20, c_isOn (show 1 ≤ D' by omega) hc.1.1.2.2.1 hc.1.2.2.1 hls hc.1.2.1.1]
        cases hq : q_on s.1 l with
        | false =>
          rw [if_pos rfl, Wq_jmp]
          exact ih (l + 1) s M1 (by omega) (by rw [← hs', q_line_1 hq]) (by omega) hc hf
        | true =>
          rw [if_neg (by decide)]
          obtain ⟨a, hnow, h5⟩ := hc.2.2.2.1
          refine Wq.call (c_goBy87 (show 5 ≤ D' by omega) hc.1 hnow h5 hc.2.2.2.2.2.1 hc.2.2.2.2.1 hc.2.2.2.2.2.2.2.1 (by omega) hls hc.2.2.2.2.2.2.2.2.2.2.2.2) ?_
          rintro x M2 ⟨hg, hf2⟩
          rw [Wq_jmp]
          refine ih (l + 1) (q_line false l s) M2 (by omega) hs' (by have := q_line_rf (tr := false) (l := l) (s := s); omega) ?_ (hf.tr hf2)
          exact hc.step hq hls hnow hg (fun e ht => by
            have := hc.2.2.2.2.2.2.2.2.2.2.2.2 ht
            unfold CRbook at this ⊢
            rw [e]
            exact this)
    refine loop (q_n W 99) 0 (q_begun W) _ (by omega) rfl (Nat.le_refl _) ?_ ((Fr.rf.up (by decide)).up (by decide))
    have c2 : CX (up (up M 123 5 (nI 0)) 123 6 (nI 0)) 87 (q_begun W).1 := g1.fr ((Fr.rf.up (L := [123]) (by decide)).up (by decide)) (by decide)
    refine ⟨c2, g2, q_zero9_at (by omega) _, ⟨0, g3, ?_⟩, show 0 < 16 by decide, ?_, ?_, ?_, ⟨fun _ => rfl, fun _ => rfl⟩, ?_, ?_, ?_, fun ht => ?_⟩
    · simp (disch := omega) only [Nat.one_mul, m1_nI, m1n, o_nI, z_nI, i1_nI, im1_nI, nI_add, nI_mul, lt_i, eq_i, inb_nI, ↓reduceIte, nI_clamp, bnd_some, b2i_0, b2i_1, b2i_t, b2i_f, Wq_ret, Wq_jmp, up_ne, up_at, upW_s, upW_n, Nat.reduceAdd, Nat.reduceMul, Nat.reduceLT, Nat.reduceEqDiff, Nat.add_zero, Nat.zero_add, reduceCtorEq]
    · simp (disch := omega) only [Nat.one_mul, m1_nI, m1n, o_nI, z_nI, i1_nI, im1_nI, nI_add, nI_mul, lt_i, eq_i, inb_nI, ↓reduceIte, nI_clamp, bnd_some, b2i_0, b2i_1, b2i_t, b2i_f, Wq_ret, Wq_jmp, up_ne, up_at, upW_s, upW_n, Nat.reduceAdd, Nat.reduceMul, Nat.reduceLT, Nat.reduceEqDiff, Nat.add_zero, Nat.zero_add, reduceCtorEq]
      rfl
    · simp (disch := omega) only [Nat.one_mul, m1_nI, m1n, o_nI, z_nI, i1_nI, im1_nI, nI_add, nI_mul, lt_i, eq_i, inb_nI, ↓reduceIte, nI_clamp, bnd_some, b2i_0, b2i_1, b2i_t, b2i_f, Wq_ret, Wq_jmp, up_ne, up_at, upW_s, upW_n, Nat.reduceAdd, Nat.reduceMul, Nat.reduceLT, Nat.reduceEqDiff, Nat.add_zero, Nat.zero_add, reduceCtorEq]
      show M 123 0 = M 123 0 + 0
      rw [Int32.add_zero]
    · simp (disch := omega) only [Nat.one_mul, m1_nI, m1n, o_nI, z_nI, i1_nI, im1_nI, nI_add, nI_mul, lt_i, eq_i, inb_nI, ↓reduceIte, nI_clamp, bnd_some, b2i_0, b2i_1, b2i_t, b2i_f, Wq_ret, Wq_jmp, up_ne, up_at, upW_s, upW_n, Nat.reduceAdd, Nat.reduceMul, Nat.reduceLT, Nat.reduceEqDiff, Nat.add_zero, Nat.zero_add, reduceCtorEq]
      exact h1
    · simp (disch := omega) only [Nat.one_mul, m1_nI, m1n, o_nI, z_nI, i1_nI, im1_nI, nI_add, nI_mul, lt_i, eq_i, inb_nI, ↓reduceIte, nI_clamp, bnd_some, b2i_0, b2i_1, b2i_t, b2i_f, Wq_ret, Wq_jmp, up_ne, up_at, upW_s, upW_n, Nat.reduceAdd, Nat.reduceMul, Nat.reduceLT, Nat.reduceEqDiff, Nat.add_zero, Nat.zero_add, reduceCtorEq]
      rfl
    · simp (disch := omega) only [Nat.one_mul, m1_nI, m1n, o_nI, z_nI, i1_nI, im1_nI, nI_add, nI_mul, lt_i, eq_i, inb_nI, ↓reduceIte, nI_clamp, bnd_some, b2i_0, b2i_1, b2i_t, b2i_f, Wq_ret, Wq_jmp, up_ne, up_at, upW_s, upW_n, Nat.reduceAdd, Nat.reduceMul, Nat.reduceLT, Nat.reduceEqDiff, Nat.add_zero, Nat.zero_add, reduceCtorEq]
      rfl
    · simp (disch := omega) only [Nat.one_mul, m1_nI, m1n, o_nI, z_nI, i1_nI, im1_nI, nI_add, nI_mul, lt_i, eq_i, inb_nI, ↓reduceIte, nI_clamp, bnd_some, b2i_0, b2i_1, b2i_t, b2i_f, Wq_ret, Wq_jmp, up_ne, up_at, upW_s, upW_n, Nat.reduceAdd, Nat.reduceMul, Nat.reduceLT, Nat.reduceEqDiff, Nat.add_zero, Nat.zero_add, reduceCtorEq]
    · refine (hbk ht).ch (by rw [up_ne (by decide), up_ne (by decide)]) (fun t ht => q_zero9_hi (by omega) (by omega)))
end
