section
-- needs: chour
/-! the class: a line of the rota, an hour -/
variable {X : KXw} {n tot kn D : Nat} {kx : Nat → Nat × Nat} {M : MMw}
theorem CRm.did {M : MMw} {p : Nat} {W : Nat → Int32} {t i : Nat} {v : Int32} (h : CRm M p W) (ht : t < 8) (hi : i < 8) : CRm (up M (p + 5) i v) p (upW (upW W (25 + 10 * t) (nI 1)) (8 + i) v) := by
  obtain ⟨m1, m2, m3, m4, b1, b2, b3, b4, b5, b6⟩ := h
  unfold CRm
  simp (disch := omega) only [up_ne, up_at]
  refine ⟨?_, ?_, ?_, ?_, (b1.un (by omega)).un (by omega), (b2.un (by omega)).un (by omega), (b3.un (by omega)).un (by omega), (b4.un (by omega)).un (by omega), ?_, (b6.un (by omega)).un (by omega)⟩
  · rw [upW_n (by omega), upW_n (by omega)]; exact m1
  · rw [upW_n (by omega), upW_n (by omega)]; exact m2
  · rw [upW_n (by omega), upW_n (by omega)]; exact m3
  · rw [upW_n (by omega), upW_n (by omega)]; exact m4
  · have := (b5.un (j := 25 + 10 * t) (v := nI 1) (by omega)).up (a := i) (v := v) (by decide)
    rw [Nat.one_mul] at this
    exact this
theorem q_do_t {W : Nat → Int32} {t m i : Nat} : q_do true W t m i = q_note (q_did W t m i) t m i := by unfold q_do; rw [if_pos rfl]
theorem q_do_f {W : Nat → Int32} {t m i : Nat} : q_do false W t m i = q_did W t m i := by unfold q_do; rw [if_neg (by decide)]
theorem q_do_low2 {tr : Bool} {W : Nat → Int32} {t m i k : Nat} (ht : t < 8) (hi : i < 8) (h1 : 96 ≤ k) (h2 : k < 2034) : q_do tr W t m i k = W k := by
  unfold q_do
  cases tr with
  | false => exact q_did_low ht hi k h1
  | true => rw [if_pos rfl, q_note_at (by omega) h2]; exact q_did_low ht hi k h1
theorem CRm.note {M M' : MMw} {W : Nat → Int32} {t m i : Nat} (h : CRm M 10 W) (hf : Fr [10, 43] M M') (h10 : M' 10 = upW (M 10) 9 (q_note W t m i 2)) : CRm M' 10 (q_note W t m i) := by
  obtain ⟨m1, m2, m3, m4, b1, b2, b3, b4, b5, b6⟩ := h
  refine ⟨?_, ?_, ?_, ?_, b1.ch (hf _ (by decide)) ?_, b2.ch (hf _ (by decide)) ?_, b3.ch (hf _ (by decide)) ?_, b4.ch (hf _ (by decide)) ?_, b5.ch (hf _ (by decide)) ?_, b6.ch (hf _ (by decide)) ?_⟩
  · rw [h10, upW_n (by omega), q_note_at (by omega) (by omega)]; exact m1
  · rw [h10, upW_n (by omega), q_note_at (by omega) (by omega)]; exact m2
  · rw [h10, upW_n (by omega), q_note_at (by omega) (by omega)]; exact m3
  · rw [h10, upW_s]
  all_goals (intro t ht; exact q_note_at (by omega) (by omega))
/-- what a line of the rota does, on the class's side -/
def GoP (P : Nat) (tr : Bool) (W : Nat → Int32) (M : MMw) (a busy r l t m i : Nat) (M' : MMw) : Prop :=
  (q_can W busy l = true → CX M' P (q_do tr W t m i) ∧ (tr = true → CRbook M' 43 (q_do tr W t m i)) ∧ M' 123 5 = nI (a ||| 2 ^ t) ∧ M' 123 6 = nI (busy ||| 2 ^ m) ∧ M' 123 0 = M 123 0 + nI 1 ∧ M' 123 1 = nI r ∧ M' 123 2 = M 123 2 ∧ M' 123 3 = M 123 3) ∧
  (q_can W busy l = false → CX M' P W ∧ M' 43 = M 43 ∧ M' 123 5 = nI a ∧ M' 123 6 = nI busy ∧ M' 123 0 = M 123 0 ∧ M' 123 1 = nI (r + 1) ∧ M' 123 2 = (if r = 0 then W 0 else M 123 2) ∧ M' 123 3 = (if r = 0 then nI l else M 123 3)) ∧ M' 123 4 = M 123 4
theorem GoP.no {P : Nat} {tr : Bool} {W : Nat → Int32} {M : MMw} {a busy r l t m i : Nat} {M' : MMw} (hc : q_can W busy l = false) (h : CX M' P W ∧ M' 43 = M 43 ∧ M' 123 5 = nI a ∧ M' 123 6 = nI busy ∧ M' 123 0 = M 123 0 ∧ M' 123 1 = nI (r + 1) ∧ M' 123 2 = (if r = 0 then W 0 else M 123 2) ∧ M' 123 3 = (if r = 0 then nI l else M 123 3)) (h4 : M' 123 4 = M 123 4) : GoP P tr W M a busy r l t m i M' :=
  ⟨fun hh => (by rw [hc] at hh; cases hh), fun _ => h, h4⟩
theorem GoP.yes {P : Nat} {tr : Bool} {W : Nat → Int32} {M : MMw} {a busy r l t m i : Nat} {M' : MMw} (hc : q_can W busy l = true) (h : CX M' P (q_do tr W t m i) ∧ (tr = true → CRbook M' 43 (q_do tr W t m i)) ∧ M' 123 5 = nI (a ||| 2 ^ t) ∧ M' 123 6 = nI (busy ||| 2 ^ m) ∧ M' 123 0 = M 123 0 + nI 1 ∧ M' 123 1 = nI r ∧ M' 123 2 = M 123 2 ∧ M' 123 3 = M 123 3) (h4 : M' 123 4 = M 123 4) : GoP P tr W M a busy r l t m i M' :=
  ⟨fun _ => h, fun hh => (by rw [hc] at hh; cases hh), h4⟩
def GoQ10 (W : Nat → Int32) (M : MMw) (a busy r l t m i : Nat) (_ : Int32) (M' : MMw) : Prop := GoP 10 true W M a busy r l t m i M' ∧ Fr [43, 121, 122, 123, 10, 11, 12, 13, 14, 15] M M'
set_option maxHeartbeats 8000000 in
theorem c_goBy10 (hD : 5 ≤ D) {W : Nat → Int32} {a busy r l : Nat} (h : CX M 10 W) (hnow : q_now W a) (h5 : M 123 5 = nI a) (h6 : M 123 6 = nI busy) (hb : busy < 16) (h1 : M 123 1 = nI r) (hr : r < 2 ^ 30) (hl : l < q_n W 99) (hbk : true = true → CRbook M 43 W) :
    Sq X D 70 [.inr (.inl 123), .inr (.inl 1), .inr (.inl 10), .inr (.inl 120), .inl (nI l), .inl (b2i true)] (Gk n tot kn kx) M (GoQ10 W M a busy r l (q_T W l) (q_M W l) (q_I W l)) :=
  Sq.mk (k := 4) hD (fun D' hD' => by
    refine Lq.of (t_70_p123_p1_p10_p120_0_ok X (callw X D') n tot kn kx _ _ M) ?_
    unfold t_70_p123_p1_p10_p120_0
    obtain ⟨hcy, hcm, hy, hm⟩ := id h
    obtain ⟨a1, a2, a3, _⟩ := hy.2.2.2.2.2.2.2 l hl
    have b1 := hy.1.1.2; have b2 := hy.1.2.1.2; have b3 := hy.1.2.2.1.2; have b4 := hy.1.2.2.2.1.2
    have c1 := a1.2; have c2 := a2.2; have c3 := a3.2
    obtain ⟨_, r1, r2, r3, _⟩ := hcy.2.2.1
    have k1 := r1 l hl; have k2 := r2 l hl; have k3 := r3 l hl
    have g0 : W (166 + 5 * l) = nI (q_T W l) := a1.1
    have g1 : W (167 + 5 * l) = nI (q_M W l) := a2.1
    have g2 : W (168 + 5 * l) = nI (q_I W l) := a3.1
    rw [g0] at k1; rw [g1] at k2; rw [g2] at k3
    have d1 : q_T W l < q_n W 96 := c1
    have d2 : q_M W l < 4 := by unfold q_M; omega
    have d3 : q_I W l < q_n W 98 := c3
    have dn := (hnow.2 _ d1).1
    have hcan : q_can W busy l = (!a.testBit (q_T W l) && !busy.testBit (q_M W l) && (q_openB W (q_I W l) && decide (W (142 + 3 * q_I W l) = W (16 + 10 * q_T W l)) && q_serve W (q_T W l) (q_M W l))) := by
      unfold q_can
      rw [dn, Bool.and_assoc, Bool.and_assoc]
    have ha := hnow.1
    clear a1 a2 a3 c1 c2 c3
    generalize q_T W l = t at *
    generalize q_M W l = m at *
    generalize q_I W l = i at *
    have t8 : t < 8 := by omega
    have i8 : i < 8 := by omega
    have kk1 : M 18 i = W (142 + 3 * i) := hcy.2.1.2.2.1 i d3
    have kk2 : M 3 t = W (16 + 10 * t) := hcy.1.2.2.2.2.1 t t8
    have refuse : ∀ M1, Fr [121, 122] M M1 → q_can W busy l = false → ∀ f : Int32 → GGw → MMw → Option TRw, (∀ x M', f x (Gk n tot kn kx) M' = some (.inl (0, Gk n tot kn kx, M'))) → Wq X (callw X D') 70 (Gk n tot kn kx) (GoQ10 W M a busy r l t m i) (bnd (callw X D' 66 [.inr (.inl 123), .inl (M1 10 6), .inl (nI l)] (Gk n tot kn kx) M1) f) := by
      intro M1 hf1 hc f hf
      have e123 : M1 123 = M 123 := hf1 123 (by decide)
      refine Wq.call (c_refuse (show 1 ≤ D' by omega) (by rw [e123]; exact h1) hr) ?_
      rintro x M2 ⟨hf2, q1, q2, q3, q0, q4, q5, q6⟩
      rw [hf, Wq_ret]
      refine ⟨GoP.no hc ?_ (by rw [q4, e123]), (hf1.mono (by decide)).tr (hf2.mono (by decide))⟩
      have e6 : M1 10 6 = W 0 := by rw [hf1 10 (by decide)]; exact hcm.1
      refine ⟨(h.fr hf1 (by decide)).fr hf2 (by decide), (hf2 43 (by decide)).trans (hf1 43 (by decide)), by rw [q5, e123, h5], by rw [q6, e123, h6], by rw [q0, e123], q1, by rw [q2, e6, e123], by rw [q3, e123]⟩
    have at118 : ∀ f g : Bool, f = (!a.testBit t && !busy.testBit m) → g = (q_openB W i && decide (W (142 + 3 * i) = W (16 + 10 * t))) → Lq X (callw X D') 70 118 [some (.inr (.inl 123)), some (.inr (.inl 1)), some (.inr (.inl 10)), some (.inr (.inl 120)), some (.inl (nI l)), some (.inl (b2i true)), some (.inl (nI t)), some (.inl (nI m)), some (.inl (nI i)), some (.inl (b2i f)), some (.inl (b2i g))] (Gk n tot kn kx) M (GoQ10 W M a busy r l t m i) := by
      intro f g hf hg
      rw [← hf, ← hg] at hcan
      refine Lq.of (t_70_p123_p1_p10_p120_118_ok X (callw X D') n tot kn kx _ _ _ _ _ _ _ M) ?_
      unfold t_70_p123_p1_p10_p120_118
      simp only [z_nI, b2i_0]
      cases f with
      | false => rw [if_pos rfl]; refine refuse M Fr.rf hcan _ ?_; intro _ _; rfl
      | true =>
      rw [if_neg (by decide)]
      cases g with
      | false => rw [if_pos rfl]; refine refuse M Fr.rf hcan _ ?_; intro _ _; rfl
      | true =>
      rw [if_neg (by decide)]
      refine Wq.call (c_serve10 (show 4 ≤ D' by omega) t8 d2 h) ?_
      rintro x M1 ⟨hx, hf1⟩
      subst hx
      simp only [b2i_0]
      rw [Bool.true_and, Bool.true_and] at hcan
      cases hs : q_serve W t m with
      | false => rw [if_pos rfl]; refine refuse M1 hf1 (by rw [hcan, hs]) _ ?_; intro _ _; rfl
      | true =>
      rw [if_neg (by decide)]
      rw [hs] at hcan
      have hg2 := hg.symm
      rw [Bool.and_eq_true] at hg2
      refine Wq.call (c_work10 (show 4 ≤ D' by omega) d1 d2 (h.fr hf1 (by decide))) ?_
      rintro y M2 ⟨hw2, hf2⟩
      obtain ⟨w1, w2, w3, w4⟩ := hw2
      have ff : Fr [121, 122, 11, 12, 13, 14] M M2 := (hf1.mono (by decide)).tr hf2
      have e123 : M2 123 = M 123 := ff 123 (by decide)
      have w8 : q_wears W t m (8 + i) = W (8 + i) := q_wears_at (by omega) (by omega) (by omega) (by omega)
      have k5 : M2 15 i = W (8 + i) := by
        have := w2.2.2.2.2.2.2.2.2.1 i i8
        rw [Nat.one_mul, w8] at this
        exact this
      have hM3 : ∀ M3 : MMw, M3 = up (up (up (up M2 15 i (W (8 + i) + nI 1)) 123 5 (nI (a ||| 2 ^ t))) 123 6 (nI (busy ||| 2 ^ m))) 123 0 (M 123 0 + nI 1) → CX M3 10 (q_did W t m i) ∧ Fr [121, 122, 123, 11, 12, 13, 14, 15] M M3 ∧ M3 123 5 = nI (a ||| 2 ^ t) ∧ M3 123 6 = nI (busy ||| 2 ^ m) ∧ M3 123 0 = M 123 0 + nI 1 ∧ M3 123 1 = nI r ∧ M3 123 2 = M 123 2 ∧ M3 123 3 = M 123 3 ∧ M3 123 4 = M 123 4 := by
        intro M3 hM
        have hfr : Fr [121, 122, 123, 11, 12, 13, 14, 15] M M3 := by
          rw [hM]
          exact ((((ff.mono (by decide)).up (by decide)).up (by decide)).up (by decide)).up (by decide)
        have hcrm : CRm M3 10 (q_did W t m i) := by
          have e := w2.did (t := t) (i := i) (v := W (8 + i) + nI 1) t8 i8
          rw [hM]
          exact e.fr (L := [123]) (((Fr.rf.up (by decide)).up (by decide)).up (by decide)) (by decide)
        refine ⟨⟨hcy.ch (fun d hd => hfr d (by unfold Yp at hd; simp; omega)) (q_did_Y t8 i8) hy.1, hcrm, hy.ch (q_did_Y t8 i8), q_did_M d1 d3 hg2.1 hy hm⟩, hfr, ?_⟩
        rw [hM]
        simp (disch := omega) only [Nat.one_mul, m1_nI, m1n, o_nI, z_nI, i1_nI, im1_nI, nI_add, nI_mul, lt_i, eq_i, inb_nI, ↓reduceIte, nI_clamp, bnd_some, b2i_0, b2i_1, b2i_t, b2i_f, Wq_ret, Wq_jmp, up_ne, up_at, upW_s, upW_n, Nat.reduceAdd, Nat.reduceMul, Nat.reduceLT, Nat.reduceEqDiff, Nat.add_zero, Nat.zero_add, reduceCtorEq, e123, h1]
        trivial
      simp (disch := omega) only [Nat.one_mul, m1_nI, m1n, o_nI, z_nI, i1_nI, im1_nI, nI_add, nI_mul, lt_i, eq_i, inb_nI, ↓reduceIte, nI_clamp, bnd_some, b2i_0, b2i_1, b2i_t, b2i_f, Wq_ret, Wq_jmp, up_ne, up_at, upW_s, upW_n, Nat.reduceAdd, Nat.reduceMul, Nat.reduceLT, Nat.reduceEqDiff, Nat.add_zero, Nat.zero_add, reduceCtorEq, e123, h5, h6, k5]
      rw [nI_shl (by omega), nI_shl (by omega), nI_or, nI_or, Nat.one_mul, Nat.one_mul]
      generalize up (up (up (up M2 15 i (W (8 + i) + nI 1)) 123 5 (nI (a ||| 2 ^ t))) 123 6 (nI (busy ||| 2 ^ m))) 123 0 (M 123 0 + nI 1) = M3 at hM3 ⊢
      obtain ⟨q1, q2, q5, q6, q0, qq1, qq2, qq3, qq4⟩ := hM3 _ rfl
      have hlow : ∀ k, 96 ≤ k → q_did W t m i k = W k := q_did_low t8 i8
      refine Wq.call (c_write (show 1 ≤ D' by omega) q1.2.1.2.2.2.1 q1.2.1.1 q1.2.2.2.1 ?_) ?_
      · exact (hbk rfl).ch (q2 43 (by decide)) (fun k hk => hlow _ (by omega))
      rintro z M4 ⟨hf4, hb4, h10⟩
      rw [Wq_ret]
      have z123 : M4 123 = M3 123 := hf4 123 (by decide)
      have hfin : Fr [43, 121, 122, 123, 10, 11, 12, 13, 14, 15] M M4 := (q2.mono (by decide)).tr (hf4.mono (by decide))
      have hX : CX M4 10 (q_note (q_did W t m i) t m i) := ⟨q1.1.ch (fun d hd => hf4 d (by unfold Yp at hd; simp; omega)) q_note_Y q1.2.2.1.1, q1.2.1.note hf4 h10, q1.2.2.1.ch q_note_Y, q_note_M q1.2.2.1 q1.2.2.2⟩
      rw [← z123] at q5 q6 q0 qq1 qq2 qq3 qq4
      rw [← q_do_t] at hX hb4
      exact ⟨GoP.yes hcan ⟨hX, fun _ => hb4, q5, q6, q0, qq1, qq2, qq3⟩ qq4, hfin⟩
    simp (disch := omega) only [Nat.one_mul, m1_nI, m1n, o_nI, z_nI, i1_nI, im1_nI, nI_add, nI_mul, lt_i, eq_i, inb_nI, ↓reduceIte, nI_clamp, bnd_some, b2i_0, b2i_1, b2i_t, b2i_f, Wq_ret, Wq_jmp, up_ne, up_at, upW_s, upW_n, Nat.reduceAdd, Nat.reduceMul, Nat.reduceLT, Nat.reduceEqDiff, Nat.add_zero, Nat.zero_add, reduceCtorEq, k1, k2, k3, and7 t8, and7 i8, and3 d2, c_isIn (show 1 ≤ D' by omega), h5, h6, q_bit_nI (show a < 2 ^ 31 by omega) (show t < 32 by omega), q_bit_nI (show busy < 2 ^ 31 by omega) (show m < 32 by omega), c_isOpen10 (show 2 ≤ D' by omega) h d3, kk1, kk2]
    cases hat : a.testBit t with
    | true =>
      rw [if_neg (by decide)]
      cases ho : q_openB W i with
      | false => rw [if_pos rfl, Wq_jmp]; exact at118 false false (by rw [hat]; rfl) (by rw [ho]; rfl)
      | true =>
        rw [if_neg (by decide)]
        by_cases hk : W (142 + 3 * i) = W (16 + 10 * t)
        · rw [if_pos hk, Wq_jmp]; exact at118 false true (by rw [hat]; rfl) (by rw [ho, decide_eq_true hk]; rfl)
        · rw [if_neg hk, Wq_jmp]; exact at118 false false (by rw [hat]; rfl) (by rw [ho, decide_eq_false hk]; rfl)
    | false =>
      rw [if_pos rfl]
      cases hbt : busy.testBit m with
      | true =>
        rw [if_neg (by decide)]
        cases ho : q_openB W i with
        | false => rw [if_pos rfl, Wq_jmp]; exact at118 false false (by rw [hat, hbt]; rfl) (by rw [ho]; rfl)
        | true =>
          rw [if_neg (by decide)]
          by_cases hk : W (142 + 3 * i) = W (16 + 10 * t)
          · rw [if_pos hk, Wq_jmp]; exact at118 false true (by rw [hat, hbt]; rfl) (by rw [ho, decide_eq_true hk]; rfl)
          · rw [if_neg hk, Wq_jmp]; exact at118 false false (by rw [hat, hbt]; rfl) (by rw [ho, decide_eq_false hk]; rfl)
      | false =>
        rw [if_pos rfl]
        cases ho : q_openB W i with
        | false => rw [if_pos rfl, Wq_jmp]; exact at118 true false (by rw [hat, hbt]; rfl) (by rw [ho]; rfl)
        | true =>
          rw [if_neg (by decide)]
          by_cases hk : W (142 + 3 * i) = W (16 + 10 * t)
          · rw [if_pos hk, Wq_jmp]; exact at118 true true (by rw [hat, hbt]; rfl) (by rw [ho, decide_eq_true hk]; rfl)
          · rw [if_neg hk, Wq_jmp]; exact at118 true false (by rw [hat, hbt]; rfl) (by rw [ho, decide_eq_false hk]; rfl))
def GoQ87 (W : Nat → Int32) (M : MMw) (a busy r l t m i : Nat) (_ : Int32) (M' : MMw) : Prop := GoP 87 false W M a busy r l t m i M' ∧ Fr [ 121, 122, 123, 87, 88, 89, 90, 91, 92] M M'
set_option maxHeartbeats 8000000 in
theorem c_goBy87 (hD : 5 ≤ D) {W : Nat → Int32} {a busy r l : Nat} (h : CX M 87 W) (hnow : q_now W a) (h5 : M 123 5 = nI a) (h6 : M 123 6 = nI busy) (hb : busy < 16) (h1 : M 123 1 = nI r) (hr : r < 2 ^ 30) (hl : l < q_n W 99) (hbk : false = true → CRbook M 43 W) :
    Sq X D 70 [.inr (.inl 123), .inr (.inl 1), .inr (.inl 87), .inr (.inl 120), .inl (nI l), .inl (b2i false)] (Gk n tot kn kx) M (GoQ87 W M a busy r l (q_T W l) (q_M W l) (q_I W l)) :=
  Sq.mk (k := 4) hD (fun D' hD' => by
    refine Lq.of (t_70_p123_p1_p87_p120_0_ok X (callw X D') n tot kn kx _ _ M) ?_
    unfold t_70_p123_p1_p87_p120_0
    obtain ⟨hcy, hcm, hy, hm⟩ := id h
    obtain ⟨a1, a2, a3, _⟩ := hy.2.2.2.2.2.2.2 l hl
    have b1 := hy.1.1.2; have b2 := hy.1.2.1.2; have b3 := hy.1.2.2.1.2; have b4 := hy.1.2.2.2.1.2
    have c1 := a1.2; have c2 := a2.2; have c3 := a3.2
    obtain ⟨_, r1, r2, r3, _⟩ := hcy.2.2.1
    have k1 := r1 l hl; have k2 := r2 l hl; have k3 := r3 l hl
    have g0 : W (166 + 5 * l) = nI (q_T W l) := a1.1
    have g1 : W (167 + 5 * l) = nI (q_M W l) := a2.1
    have g2 : W (168 + 5 * l) = nI (q_I W l) := a3.1
    rw [g0] at k1; rw [g1] at k2; rw [g2] at k3
    have d1 : q_T W l < q_n W 96 := c1
    have d2 : q_M W l < 4 := by unfold q_M; omega
    have d3 : q_I W l < q_n W 98 := c3
    have dn := (hnow.2 _ d1).1
    have hcan : q_can W busy l = (!a.testBit (q_T W l) && !busy.testBit (q_M W l) && (q_openB W (q_I W l) && decide (W (142 + 3 * q_I W l) = W (16 + 10 * q_T W l)) && q_serve W (q_T W l) (q_M W l))) := by
      unfold q_can
      rw [dn, Bool.and_assoc, Bool.and_assoc]
    have ha := hnow.1
    clear a1 a2 a3 c1 c2 c3
    generalize q_T W l = t at *
    generalize q_M W l = m at *
    generalize q_I W l = i at *
    have t8 : t < 8 := by omega
    have i8 : i < 8 := by omega
    have kk1 : M 18 i = W (142 + 3 * i) := hcy.2.1.2.2.1 i d3
    have kk2 : M 3 t = W (16 + 10 * t) := hcy.1.2.2.2.2.1 t t8
    have refuse : ∀ M1, Fr [121, 122] M M1 → q_can W busy l = false → ∀ f : Int32 → GGw → MMw → Option TRw, (∀ x M', f x (Gk n tot kn kx) M' = some (.inl (0, Gk n tot kn kx, M'))) → Wq X (callw X D') 70 (Gk n tot kn kx) (GoQ87 W M a busy r l t m i) (bnd (callw X D' 66 [.inr (.inl 123), .inl (M1 87 6), .inl (nI l)] (Gk n tot kn kx) M1) f) := by
      intro M1 hf1 hc f hf
      have e123 : M1 123 = M 123 := hf1 123 (by decide)
      refine Wq.call (c_refuse (show 1 ≤ D' by omega) (by rw [e123]; exact h1) hr) ?_
      rintro x M2 ⟨hf2, q1, q2, q3, q0, q4, q5, q6⟩
      rw [hf, Wq_ret]
      refine ⟨GoP.no hc ?_ (by rw [q4, e123]), (hf1.mono (by decide)).tr (hf2.mono (by decide))⟩
      have e6 : M1 87 6 = W 0 := by rw [hf1 87 (by decide)]; exact hcm.1
      refine ⟨(h.fr hf1 (by decide)).fr hf2 (by decide), (hf2 43 (by decide)).trans (hf1 43 (by decide)), by rw [q5, e123, h5], by rw [q6, e123, h6], by rw [q0, e123], q1, by rw [q2, e6, e123], by rw [q3, e123]⟩
    have at118 : ∀ f g : Bool, f = (!a.testBit t && !busy.testBit m) → g = (q_openB W i && decide (W (142 + 3 * i) = W (16 + 10 * t))) → Lq X (callw X D') 70 118 [some (.inr (.inl 123)), some (.inr (.inl 1)), some (.inr (.inl 87)), some (.inr (.inl 120)), some (.inl (nI l)), some (.inl (b2i false)), some (.inl (nI t)), some (.inl (nI m)), some (.inl (nI i)), some (.inl (b2i f)), some (.inl (b2i g))] (Gk n tot kn kx) M (GoQ87 W M a busy r l t m i) := by
      intro f g hf hg
      rw [← hf, ← hg] at hcan
      refine Lq.of (t_70_p123_p1_p87_p120_118_ok X (callw X D') n tot kn kx _ _ _ _ _ _ _ M) ?_
      unfold t_70_p123_p1_p87_p120_118
      simp only [z_nI, b2i_0]
      cases f with
      | false => rw [if_pos rfl]; refine refuse M Fr.rf hcan _ ?_; intro _ _; rfl
      | true =>
      rw [if_neg (by decide)]
      cases g with
      | false => rw [if_pos rfl]; refine refuse M Fr.rf hcan _ ?_; intro _ _; rfl
      | true =>
      rw [if_neg (by decide)]
      refine Wq.call (c_serve87 (show 4 ≤ D' by omega) t8 d2 h) ?_
      rintro x M1 ⟨hx, hf1⟩
      subst hx
      simp only [b2i_0]
      rw [Bool.true_and, Bool.true_and] at hcan
      cases hs : q_serve W t m with
      | false => rw [if_pos rfl]; refine refuse M1 hf1 (by rw [hcan, hs]) _ ?_; intro _ _; rfl
      | true =>
      rw [if_neg (by decide)]
      rw [hs] at hcan
      have hg2 := hg.symm
      rw [Bool.and_eq_true] at hg2
      refine Wq.call (c_work87 (show 4 ≤ D' by omega) d1 d2 (h.fr hf1 (by decide))) ?_
      rintro y M2 ⟨hw2, hf2⟩
      obtain ⟨w1, w2, w3, w4⟩ := hw2
      have ff : Fr [121, 122, 88, 89, 90, 91] M M2 := (hf1.mono (by decide)).tr hf2
      have e123 : M2 123 = M 123 := ff 123 (by decide)
      have w8 : q_wears W t m (8 + i) = W (8 + i) := q_wears_at (by omega) (by omega) (by omega) (by omega)
      have k5 : M2 92 i = W (8 + i) := by
        have := w2.2.2.2.2.2.2.2.2.1 i i8
        rw [Nat.one_mul, w8] at this
        exact this
      have hM3 : ∀ M3 : MMw, M3 = up (up (up (up M2 92 i (W (8 + i) + nI 1)) 123 5 (nI (a ||| 2 ^ t))) 123 6 (nI (busy ||| 2 ^ m))) 123 0 (M 123 0 + nI 1) → CX M3 87 (q_did W t m i) ∧ Fr [121, 122, 123, 88, 89, 90, 91, 92] M M3 ∧ M3 123 5 = nI (a ||| 2 ^ t) ∧ M3 123 6 = nI (busy ||| 2 ^ m) ∧ M3 123 0 = M 123 0 + nI 1 ∧ M3 123 1 = nI r ∧ M3 123 2 = M 123 2 ∧ M3 123 3 = M 123 3 ∧ M3 123 4 = M 123 4 := by
        intro M3 hM
        have hfr : Fr [121, 122, 123, 88, 89, 90, 91, 92] M M3 := by
          rw [hM]
          exact ((((ff.mono (by decide)).up (by decide)).up (by decide)).up (by decide)).up (by decide)
        have hcrm : CRm M3 87 (q_did W t m i) := by
          have e := w2.did (t := t) (i := i) (v := W (8 + i) + nI 1) t8 i8
          rw [hM]
          exact e.fr (L := [123]) (((Fr.rf.up (by decide)).up (by decide)).up (by decide)) (by decide)
        refine ⟨⟨hcy.ch (fun d hd => hfr d (by unfold Yp at hd; simp; omega)) (q_did_Y t8 i8) hy.1, hcrm, hy.ch (q_did_Y t8 i8), q_did_M d1 d3 hg2.1 hy hm⟩, hfr, ?_⟩
        rw [hM]
        simp (disch := omega) only [Nat.one_mul, m1_nI, m1n, o_nI, z_nI, i1_nI, im1_nI, nI_add, nI_mul, lt_i, eq_i, inb_nI, ↓reduceIte, nI_clamp, bnd_some, b2i_0, b2i_1, b2i_t, b2i_f, Wq_ret, Wq_jmp, up_ne, up_at, upW_s, upW_n, Nat.reduceAdd, Nat.reduceMul, Nat.reduceLT, Nat.reduceEqDiff, Nat.add_zero, Nat.zero_add, reduceCtorEq, e123, h1]
        trivial
      simp (disch := omega) only [Nat.one_mul, m1_nI, m1n, o_nI, z_nI, i1_nI, im1_nI, nI_add, nI_mul, lt_i, eq_i, inb_nI, ↓reduceIte, nI_clamp, bnd_some, b2i_0, b2i_1, b2i_t, b2i_f, Wq_ret, Wq_jmp, up_ne, up_at, upW_s, upW_n, Nat.reduceAdd, Nat.reduceMul, Nat.reduceLT, Nat.reduceEqDiff, Nat.add_zero, Nat.zero_add, reduceCtorEq, e123, h5, h6, k5]
      rw [nI_shl (by omega), nI_shl (by omega), nI_or, nI_or, Nat.one_mul, Nat.one_mul]
      generalize up (up (up (up M2 92 i (W (8 + i) + nI 1)) 123 5 (nI (a ||| 2 ^ t))) 123 6 (nI (busy ||| 2 ^ m))) 123 0 (M 123 0 + nI 1) = M3 at hM3 ⊢
      obtain ⟨q1, q2, q5, q6, q0, qq1, qq2, qq3, qq4⟩ := hM3 _ rfl
      rw [← q_do_f] at q1
      exact ⟨GoP.yes hcan ⟨q1, fun hh => (by cases hh), q5, q6, q0, qq1, qq2, qq3⟩ qq4, q2.mono (by decide)⟩
    simp (disch := omega) only [Nat.one_mul, m1_nI, m1n, o_nI, z_nI, i1_nI, im1_nI, nI_add, nI_mul, lt_i, eq_i, inb_nI, ↓reduceIte, nI_clamp, bnd_some, b2i_0, b2i_1, b2i_t, b2i_f, Wq_ret, Wq_jmp, up_ne, up_at, upW_s, upW_n, Nat.reduceAdd, Nat.reduceMul, Nat.reduceLT, Nat.reduceEqDiff, Nat.add_zero, Nat.zero_add, reduceCtorEq, k1, k2, k3, and7 t8, and7 i8, and3 d2, c_isIn (show 1 ≤ D' by omega), h5, h6, q_bit_nI (show a < 2 ^ 31 by omega) (show t < 32 by omega), q_bit_nI (show busy < 2 ^ 31 by omega) (show m < 32 by omega), c_isOpen87 (show 2 ≤ D' by omega) h d3, kk1, kk2]
    cases hat : a.testBit t with
    | true =>
      rw [if_neg (by decide)]
      cases ho : q_openB W i with
      | false => rw [if_pos rfl, Wq_jmp]; exact at118 false false (by rw [hat]; rfl) (by rw [ho]; rfl)
      | true =>
        rw [if_neg (by decide)]
        by_cases hk : W (142 + 3 * i) = W (16 + 10 * t)
        · rw [if_pos hk, Wq_jmp]; exact at118 false true (by rw [hat]; rfl) (by rw [ho, decide_eq_true hk]; rfl)
        · rw [if_neg hk, Wq_jmp]; exact at118 false false (by rw [hat]; rfl) (by rw [ho, decide_eq_false hk]; rfl)
    | false =>
      rw [if_pos rfl]
      cases hbt : busy.testBit m with
      | true =>
        rw [if_neg (by decide)]
        cases ho : q_openB W i with
        | false => rw [if_pos rfl, Wq_jmp]; exact at118 false false (by rw [hat, hbt]; rfl) (by rw [ho]; rfl)
        | true =>
          rw [if_neg (by decide)]
          by_cases hk : W (142 + 3 * i) = W (16 + 10 * t)
          · rw [if_pos hk, Wq_jmp]; exact at118 false true (by rw [hat, hbt]; rfl) (by rw [ho, decide_eq_true hk]; rfl)
          · rw [if_neg hk, Wq_jmp]; exact at118 false false (by rw [hat, hbt]; rfl) (by rw [ho, decide_eq_false hk]; rfl)
      | false =>
        rw [if_pos rfl]
        cases ho : q_openB W i with
        | false => rw [if_pos rfl, Wq_jmp]; exact at118 true false (by rw [hat, hbt]; rfl) (by rw [ho]; rfl)
        | true =>
          rw [if_neg (by decide)]
          by_cases hk : W (142 + 3 * i) = W (16 + 10 * t)
          · rw [if_pos hk, Wq_jmp]; exact at118 true true (by rw [hat, hbt]; rfl) (by rw [ho, decide_eq_true hk]; rfl)
          · rw [if_neg hk, Wq_jmp]; exact at118 true false (by rw [hat, hbt]; rfl) (by rw [ho, decide_eq_false hk]; rfl))
end
