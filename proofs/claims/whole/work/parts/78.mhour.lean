section
-- needs: m2 hdefs
/-! the reference model: an hour -/
theorem and_not_0 {a b : Nat} (ha : a < 2 ^ 31) : (nI a &&& (nI b ^^^ -1) = nI 0) = (∀ j, a.testBit j = true → b.testBit j = true) := by
  rw [nI_not, nI_and]
  have hle : a &&& (b ^^^ 4294967295) ≤ a := Nat.and_le_left
  have e32 : ∀ j, a.testBit j = true → j < 32 := by
    intro j hj
    rcases Nat.lt_or_ge j 32 with h | h
    · exact h
    · rw [Nat.testBit_lt_two_pow (Nat.lt_of_lt_of_le (show a < 2 ^ 32 by omega) (Nat.pow_le_pow_right (by decide) h))] at hj
      cases hj
  have tb : ∀ j, (4294967295 : Nat).testBit j = decide (j < 32) := fun j => Nat.testBit_two_pow_sub_one 32 j
  rw [nI_inj (by omega) (by decide)]
  apply propext
  constructor
  · intro h j hj
    have h2 := congrArg (fun x => x.testBit j) h
    simp only [Nat.testBit_and, Nat.testBit_xor, tb, Nat.zero_testBit, hj, Bool.true_and, decide_eq_true (e32 j hj)] at h2
    cases hb : b.testBit j with
    | true => rfl
    | false => rw [hb] at h2; cases h2
  · intro h
    apply Nat.eq_of_testBit_eq
    intro j
    rw [Nat.testBit_and, Nat.testBit_xor, tb, Nat.zero_testBit]
    cases hj : a.testBit j with
    | false => rfl
    | true => rw [h j hj, decide_eq_true (e32 j hj)]; rfl
variable {X : KXw} {n tot kn D : Nat} {kx : Nat → Nat × Nat} {M : MMw}
theorem m_isDone (hD : 2 ≤ D) {i : Nat} (hi : i < 8) : callw X D 77 [.inr (.inl 178), .inl (nI i)] (Gk n tot kn kx) M = some (b2i (q_doneB (M 179) i), Gk n tot kn kx, M) :=
  exk (k := 1) hD (fun D' hD' => t_77_0_ok X (callw X D') n tot kn kx _ M) (fun D' hD' => by
    unfold t_77_0
    simp (disch := omega) only [Nat.one_mul, m1_nI, m1n, o_nI, z_nI, i1_nI, im1_nI, nI_add, nI_mul, lt_i, eq_i, inb_nI, ↓reduceIte, nI_clamp, bnd_some, b2i_0, b2i_1, b2i_t, b2i_f, Wq_ret, Wq_jmp, up_ne, up_at, upW_s, upW_n, Nat.reduceAdd, Nat.reduceMul, Nat.reduceLT, Nat.reduceEqDiff, Nat.add_zero, Nat.zero_add, reduceCtorEq, m_ofWork hD']
    unfold q_doneB
    rw [show 142 + 3 * i + 1 = 143 + 3 * i by omega]
    by_cases h : M 179 (8 + i) = M 179 (143 + 3 * i)
    · rw [if_pos h, decide_eq_true h]; rfl
    · rw [if_neg h, decide_eq_false h]; rfl)
theorem m_doneSet (hD : 3 ≤ D) (hy : q_invY (M 179)) : callw X D 78 [.inr (.inl 178)] (Gk n tot kn kx) M = some (nI (sto (q_doneB (M 179)) (q_n (M 179) 98)), Gk n tot kn kx, M) :=
  Sq.eq (Sq.mk (k := 2) hD (fun D' hD' => by
    refine Lq.of (t_78_0_ok X (callw X D') n tot kn kx M) ?_
    unfold t_78_0
    have h98 := hy.1.2.2.1
    have h98' := h98.2
    rw [Wq_jmp, o_nI]
    have loop : ∀ c i : Nat, i + c = q_n (M 179) 98 → Lq X (callw X D') 78 4 [some (.inr (.inl 178)), some (.inl (nI (sto (q_doneB (M 179)) i))), some (.inl (nI i))] (Gk n tot kn kx) M (fun x M1 => x = nI (sto (q_doneB (M 179)) (q_n (M 179) 98)) ∧ M1 = M) := by
      intro c
      induction c with
      | zero =>
        intro i hi
        refine Lq.of (t_78_4_ok X (callw X D') n tot kn kx _ _ M) ?_
        unfold t_78_4
        rw [h98.1, if_neg (by rw [lt_i (by omega) (by omega)]; omega), Wq_ret]
        rw [show i = q_n (M 179) 98 by omega]
        exact ⟨rfl, rfl⟩
      | succ c ih =>
        intro i hi
        refine Lq.of (t_78_4_ok X (callw X D') n tot kn kx _ _ M) ?_
        unfold t_78_4
        rw [h98.1, if_pos (by rw [lt_i (by omega) (by omega)]; omega), m_isDone hD' (by omega)]
        simp (disch := omega) only [Nat.one_mul, m1_nI, m1n, o_nI, z_nI, i1_nI, im1_nI, nI_add, nI_mul, lt_i, eq_i, inb_nI, ↓reduceIte, nI_clamp, bnd_some, b2i_0, b2i_1, b2i_t, b2i_f, Wq_ret, Wq_jmp, up_ne, up_at, upW_s, upW_n, Nat.reduceAdd, Nat.reduceMul, Nat.reduceLT, Nat.reduceEqDiff, Nat.add_zero, Nat.zero_add, reduceCtorEq]
        cases hq : q_doneB (M 179) i with
        | false =>
          rw [if_pos rfl, nI_or, Nat.or_zero]
          have := ih (i + 1) (by omega)
          rw [sto_sf hq] at this
          exact this
        | true =>
          rw [if_neg (by decide), nI_shl (by omega), nI_or, Nat.one_mul]
          have := ih (i + 1) (by omega)
          rw [sto_st hq] at this
          exact this
    exact loop (q_n (M 179) 98) 0 (by omega)))
theorem q_openB_and {W : Nat → Int32} {i : Nat} (hi : i < q_n W 98) (ha : q_lt W (144 + 3 * i) (2 ^ i)) (hy : q_n W 98 ≤ 8) : (nI (q_n W (144 + 3 * i)) &&& (nI (sto (q_doneB W) (q_n W 98)) ^^^ -1) = nI 0) = (q_all (fun j => !(q_n W (144 + 3 * i)).testBit j || q_doneB W j) i = true) := by
  have hb : q_n W (144 + 3 * i) < 2 ^ 8 := Nat.lt_of_lt_of_le ha.2 (Nat.pow_le_pow_right (by decide) (by omega))
  rw [and_not_0 (by omega), q_all_iff]
  apply propext
  constructor
  · intro h j hj
    cases hj2 : (q_n W (144 + 3 * i)).testBit j with
    | false => rfl
    | true =>
      have := h j hj2
      rw [sto_tb, Bool.and_eq_true] at this
      rw [this.2]
      rfl
  · intro h j hj
    have hji : j < i := by
      rcases Nat.lt_or_ge j i with h | h
      · exact h
      · rw [Nat.testBit_lt_two_pow (Nat.lt_of_lt_of_le ha.2 (Nat.pow_le_pow_right (by decide) h))] at hj
        cases hj
    have := h j hji
    simp only [hj, Bool.not_true, Bool.false_or] at this
    rw [sto_tb, this, decide_eq_true (by omega)]
    rfl
theorem m_isOpen (hD : 4 ≤ D) {i : Nat} (hy : q_invY (M 179)) (hi : i < q_n (M 179) 98) : callw X D 79 [.inr (.inl 178), .inl (nI i)] (Gk n tot kn kx) M = some (b2i (q_openB (M 179) i), Gk n tot kn kx, M) :=
  exk (k := 3) hD (fun D' hD' => t_79_0_ok X (callw X D') n tot kn kx _ M) (fun D' hD' => by
    unfold t_79_0
    have h98' := hy.1.2.2.1.2
    have ha := (hy.2.2.2.2.2.1 i hi).2.2.2
    have ha1 := ha.1
    rw [m_isDone (by omega) (by omega)]
    simp (disch := omega) only [Nat.one_mul, m1_nI, m1n, o_nI, z_nI, i1_nI, im1_nI, nI_add, nI_mul, lt_i, eq_i, inb_nI, ↓reduceIte, nI_clamp, bnd_some, b2i_0, b2i_1, b2i_t, b2i_f, Wq_ret, Wq_jmp, up_ne, up_at, upW_s, upW_n, Nat.reduceAdd, Nat.reduceMul, Nat.reduceLT, Nat.reduceEqDiff, Nat.add_zero, Nat.zero_add, reduceCtorEq, m_ofWork (show 1 ≤ D' by omega), m_doneSet hD' hy]
    unfold q_openB
    cases hq : q_doneB (M 179) i with
    | true => rw [if_neg (by decide)]; rfl
    | false =>
      rw [if_pos rfl, show 142 + 3 * i + 2 = 144 + 3 * i by omega, ha1]
      simp only [q_openB_and hi ha (by omega)]
      by_cases h : q_all (fun j => !(q_n (M 179) (144 + 3 * i)).testBit j || q_doneB (M 179) j) i = true
      · rw [if_pos h, h]; rfl
      · rw [if_neg h, eq_false_of_ne_true h]; rfl)
set_option maxHeartbeats 4000000 in
theorem m_wears (hD : 6 ≤ D) {t m : Nat} {C : Nat → Int32} (ht : t < 8) (hm : m < 4) (hl : q_law (M 179) 1 C) :
    Sq X D 92 [.inr (.inl 178), .inl (nI t), .inl (nI m)] (Gk n tot kn kx) M (fun x M' => M' 179 = q_wears (M 179) t m ∧ Fr [179, 187, 188] M M') :=
  Sq.mk (k := 5) hD (fun D' hD' => by
    refine Lq.of (t_92_0_ok X (callw X D') n tot kn kx _ _ M) ?_
    unfold t_92_0
    refine Wq.call (m_wear hD' ht hm hl) ?_
    rintro x M1 ⟨hx, hf1⟩
    subst hx
    have e1 : M1 179 = M 179 := hf1 179 (by decide)
    refine Wq.call (m_mood hD' ht hm (by rw [e1]; exact hl)) ?_
    rintro x M2 ⟨hx, hf2⟩
    subst hx
    have hf : Fr [187, 188] M M2 := hf1.tr hf2
    have e2 : M2 179 = M 179 := hf 179 (by decide)
    rw [e1]
    simp (disch := omega) only [Nat.one_mul, m1_nI, m1n, o_nI, z_nI, i1_nI, im1_nI, nI_add, nI_mul, lt_i, eq_i, inb_nI, ↓reduceIte, nI_clamp, bnd_some, b2i_0, b2i_1, b2i_t, b2i_f, Wq_ret, Wq_jmp, up_ne, up_at, upW_s, upW_n, Nat.reduceAdd, Nat.reduceMul, Nat.reduceLT, Nat.reduceEqDiff, Nat.add_zero, Nat.zero_add, reduceCtorEq, m_ofTool (show 1 ≤ D' by omega), m_greater (show 1 ≤ D' by omega), m_tools (show 1 ≤ D' by omega), m_held (show 2 ≤ D' by omega), e2]
    refine ⟨?_, ((((hf.mono (by decide)).up (by decide)).up (by decide)).up (by decide)).up (by decide)⟩
    unfold q_wears q_gr0
    rw [show 16 + 10 * t + 3 = 19 + 10 * t by omega, show 16 + 10 * t + 4 = 20 + 10 * t by omega, show 16 + 10 * t + 7 = 23 + 10 * t by omega, show 16 + 10 * t + 8 = 24 + 10 * t by omega])
set_option maxHeartbeats 4000000 in
theorem m_notes (hD : 1 ≤ D) {t m i : Nat} (hm : q_invM (M 179)) : Sq X D 93 [.inr (.inl 178), .inl (nI t), .inl (nI m), .inl (nI i)] (Gk n tot kn kx) M (fun x M' => M' 179 = q_note (M 179) t m i ∧ Fr [179] M M') :=
  Sq.mk (k := 0) hD (fun D' hD' => by
    refine Lq.of (t_93_0_ok X (callw X D') n tot kn kx _ _ _ M) ?_
    unfold t_93_0 q_note
    have h2 := hm.1
    have h2' := h2.2
    by_cases he : M 179 2 = nI 200
    · rw [o_nI, if_pos he, if_pos he, Wq_ret]
      exact ⟨rfl, Fr.rf⟩
    · rw [o_nI, if_neg he, if_neg he]
      have hne := he
      rw [h2.1, eq_i (by omega) (by omega)] at hne
      simp only [h2.1, o_nI, nI_mul, nI_add]
      simp (disch := omega) only [Nat.one_mul, m1_nI, m1n, o_nI, z_nI, i1_nI, im1_nI, nI_add, nI_mul, lt_i, eq_i, inb_nI, ↓reduceIte, nI_clamp, bnd_some, b2i_0, b2i_1, b2i_t, b2i_f, Wq_ret, Wq_jmp, upW_s, upW_n, Nat.reduceAdd, Nat.reduceMul, Nat.reduceLT, Nat.reduceEqDiff, Nat.add_zero, Nat.zero_add, reduceCtorEq]
      refine Lq.of (t_93_70_ok X (callw X D') n tot kn kx _) ?_
      unfold t_93_70
      rw [Wq_ret]
      refine ⟨?_, ((((Fr.rf.up (by decide)).up (by decide)).up (by decide)).up (by decide)).up (by decide)⟩
      simp (disch := omega) only [Nat.one_mul, m1_nI, m1n, o_nI, z_nI, i1_nI, im1_nI, nI_add, nI_mul, lt_i, eq_i, inb_nI, ↓reduceIte, nI_clamp, bnd_some, b2i_0, b2i_1, b2i_t, b2i_f, Wq_ret, Wq_jmp, up_ne, up_at, upW_s, upW_n, Nat.reduceAdd, Nat.reduceMul, Nat.reduceLT, Nat.reduceEqDiff, Nat.add_zero, Nat.zero_add, reduceCtorEq, h2.1])
/-- what is not in the four of an hour -/
def Fh (M M' : MMw) : Prop := ∀ k, k < 27 ∨ 30 < k → M' 178 k = M 178 k
theorem Fh.rf {M : MMw} : Fh M M := fun _ _ => rfl
theorem Fh.tr {M M1 M2 : MMw} (h : Fh M M1) (h2 : Fh M1 M2) : Fh M M2 := fun k hk => (h2 k hk).trans (h k hk)
theorem Fh.of {M M' : MMw} (h : M' 178 = M 178) : Fh M M' := fun k _ => by rw [h]
theorem Fh.up {M M' : MMw} {k : Nat} {v : Int32} (h : Fh M M') (hk : 27 ≤ k ∧ k ≤ 30) : Fh M (up M' 178 k v) := fun j hj => by
  rw [up_at, upW_n (by omega)]
  exact h j hj
/-- what a line of the rota does -/
def WkP (tr : Bool) (M : MMw) (busy l : Nat) (x : Int32) (M' : MMw) : Prop := x = b2i (q_can (M 179) busy l) ∧ Fr [178, 179, 187, 188] M M' ∧ Fh M M' ∧ M' 178 27 = M 178 27 ∧ M' 178 28 = M 178 28 ∧
  (q_can (M 179) busy l = true → M' 179 = q_do tr (M 179) (q_T (M 179) l) (q_M (M 179) l) (q_I (M 179) l) ∧ M' 178 30 = nI (busy ||| 2 ^ q_M (M 179) l) ∧ M' 178 29 = M 178 29 + nI 1) ∧
  (q_can (M 179) busy l = false → M' 179 = M 179 ∧ M' 178 30 = M 178 30 ∧ M' 178 29 = M 178 29)
theorem WkP.no {tr : Bool} {M : MMw} {busy l : Nat} {M' : MMw} (hc : q_can (M 179) busy l = false) (h1 : M' 179 = M 179) (h2 : M' 178 = M 178) (hf : Fr [178, 179, 187, 188] M M') : WkP tr M busy l (nI 0) M' := by
  refine ⟨by rw [hc]; rfl, hf, Fh.of h2, by rw [h2], by rw [h2], fun h => ?_, fun _ => ⟨h1, by rw [h2], by rw [h2]⟩⟩
  rw [hc] at h
  cases h
theorem WkP.yes {tr : Bool} {M : MMw} {busy l : Nat} {M' : MMw} (hc : q_can (M 179) busy l = true) (h1 : M' 179 = q_do tr (M 179) (q_T (M 179) l) (q_M (M 179) l) (q_I (M 179) l)) (h2 : Fh M M') (h27 : M' 178 27 = M 178 27) (h28 : M' 178 28 = M 178 28) (h30 : M' 178 30 = nI (busy ||| 2 ^ q_M (M 179) l)) (h29 : M' 178 29 = M 178 29 + nI 1) (hf : Fr [178, 179, 187, 188] M M') : WkP tr M busy l (nI 1) M' := by
  refine ⟨by rw [hc]; rfl, hf, h2, h27, h28, fun _ => ⟨h1, h30, h29⟩, fun h => ?_⟩
  rw [hc] at h
  cases h
set_option maxHeartbeats 8000000 in
theorem m_works (hD : 7 ≤ D) {l busy : Nat} {tr : Bool} {C0 C1 : Nat → Int32} (hl0 : q_law (M 179) 0 C0) (hl : q_law (M 179) 1 C1) (hy : q_invY (M 179)) (hm : q_invM (M 179)) (hll : l < q_n (M 179) 99) (hb : M 178 30 = nI busy) (hb2 : busy < 16) :
    Sq X D 94 [.inr (.inl 178), .inl (nI (166 + 5 * l)), .inl (b2i tr)] (Gk n tot kn kx) M (WkP tr M busy l) :=
  Sq.mk (k := 6) hD (fun D' hD' => by
    refine Lq.of (t_94_0_ok X (callw X D') n tot kn kx _ _ M) ?_
    unfold t_94_0
    obtain ⟨a1, a2, a3, _⟩ := hy.2.2.2.2.2.2.2 l hll
    have b1 := hy.1.1.2; have b2 := hy.1.2.1.2; have b3 := hy.1.2.2.1.2; have b4 := hy.1.2.2.2.1.2
    have c1 := a1.2; have c2 := a2.2; have c3 := a3.2
    have g1 : M 179 (166 + 5 * l + 1) = nI (q_M (M 179) l) := by rw [show 166 + 5 * l + 1 = 167 + 5 * l by omega]; exact a2.1
    have g2 : M 179 (166 + 5 * l + 2) = nI (q_I (M 179) l) := by rw [show 166 + 5 * l + 2 = 168 + 5 * l by omega]; exact a3.1
    have g0 : M 179 (166 + 5 * l) = nI (q_T (M 179) l) := a1.1
    have d1 : q_T (M 179) l < 8 := by unfold q_T; omega
    have d2 : q_M (M 179) l < 4 := by unfold q_M; omega
    have d3 : q_I (M 179) l < q_n (M 179) 98 := c3
    have dd1 : q_T (M 179) l < q_n (M 179) 96 := c1
    have hcan : q_can (M 179) busy l = (!decide (M 179 (25 + 10 * q_T (M 179) l) = nI 1) && (!busy.testBit (q_M (M 179) l) && (q_openB (M 179) (q_I (M 179) l) && (decide (M 179 (142 + 3 * q_I (M 179) l) = M 179 (16 + 10 * q_T (M 179) l)) && q_serve (M 179) (q_T (M 179) l) (q_M (M 179) l))))) := rfl
    have yes : ∀ M' : MMw, q_can (M 179) busy l = true → M' 179 = q_do tr (M 179) (q_T (M 179) l) (q_M (M 179) l) (q_I (M 179) l) → Fh M M' → M' 178 27 = M 178 27 → M' 178 28 = M 178 28 → M' 178 30 = nI (busy ||| 2 ^ q_M (M 179) l) → M' 178 29 = M 178 29 + nI 1 → Fr [178, 179, 187, 188] M M' → WkP tr M busy l (nI 1) M' := fun M' a b c d e f g h => WkP.yes a b c d e f g h
    clear a1 a2 a3 c1 c2 c3
    generalize q_T (M 179) l = t at *
    generalize q_M (M 179) l = m at *
    generalize q_I (M 179) l = i at *
    have hbit : (nI busy >>> (nI m &&& 31)) &&& nI 1 = nI (busy.testBit m).toNat := nI_tb (by omega) (by omega)
    simp (disch := omega) only [Nat.one_mul, m1_nI, m1n, o_nI, z_nI, i1_nI, im1_nI, nI_add, nI_mul, lt_i, eq_i, inb_nI, ↓reduceIte, nI_clamp, bnd_some, b2i_0, b2i_1, b2i_t, b2i_f, Wq_ret, Wq_jmp, up_ne, up_at, upW_s, upW_n, Nat.reduceAdd, Nat.reduceMul, Nat.reduceLT, Nat.reduceEqDiff, Nat.add_zero, Nat.zero_add, reduceCtorEq, g0, g1, g2, m_ofTool (show 1 ≤ D' by omega), hb, hbit, tn_1, m_isOpen (show 4 ≤ D' by omega) hy d3, m_ofWork (show 1 ≤ D' by omega)]
    rw [show 16 + 10 * t + 9 = 25 + 10 * t by omega]
    by_cases h1 : M 179 (25 + 10 * t) = nI 1
    · rw [if_pos h1, Wq_ret]
      exact WkP.no (by rw [hcan, decide_eq_true h1]; rfl) rfl rfl Fr.rf
    rw [if_neg h1]
    rw [decide_eq_false h1, Bool.not_false, Bool.true_and] at hcan
    cases h2 : busy.testBit m with
    | true =>
      rw [if_pos rfl, Wq_ret]
      exact WkP.no (by rw [hcan, h2]; rfl) rfl rfl Fr.rf
    | false =>
    rw [if_neg (by decide)]
    rw [h2, Bool.not_false, Bool.true_and] at hcan
    cases h3 : q_openB (M 179) i with
    | false =>
      rw [if_pos rfl, Wq_ret]
      exact WkP.no (by rw [hcan, h3]; rfl) rfl rfl Fr.rf
    | true =>
    rw [if_neg (by decide)]
    rw [h3, Bool.true_and] at hcan
    by_cases h4 : M 179 (142 + 3 * i) = M 179 (16 + 10 * t)
    · rw [if_pos h4]
      rw [decide_eq_true h4, Bool.true_and] at hcan
      refine Wq.call (m_serve (show 6 ≤ D' by omega) d1 d2 hl0 ((hy.2.2.2.1 t d1).1)) ?_
      rintro x M1 ⟨hx, hf1⟩
      subst hx
      have e1 : M1 179 = M 179 := hf1 179 (by decide)
      have e8 : M1 178 = M 178 := hf1 178 (by decide)
      simp only [b2i_0]
      cases h5 : q_serve (M 179) t m with
      | false =>
        rw [if_pos rfl, Wq_ret]
        exact WkP.no (by rw [hcan, h5]) e1 e8 (hf1.mono (by decide))
      | true =>
      rw [if_neg (by decide)]
      rw [h5] at hcan
      refine Wq.call (m_wears (C := C1) (show 6 ≤ D' by omega) d1 d2 (by rw [e1]; exact hl)) ?_
      rintro y M2 ⟨hw, hf2⟩
      rw [e1] at hw
      have f8 : M2 178 = M 178 := (hf2 178 (by decide)).trans e8
      have ff : Fr [178, 179, 187, 188] M M2 := (hf1.mono (by decide)).tr (hf2.mono (by decide))
      have w8 : q_wears (M 179) t m (8 + i) = M 179 (8 + i) := q_wears_at (by omega) (by omega) (by omega) (by omega)
      rw [m_tools (show 1 ≤ D' by omega) (by omega)]
      simp (disch := omega) only [Nat.one_mul, m1_nI, m1n, o_nI, z_nI, i1_nI, im1_nI, nI_add, nI_mul, lt_i, eq_i, inb_nI, ↓reduceIte, nI_clamp, bnd_some, b2i_0, b2i_1, b2i_t, b2i_f, Wq_ret, Wq_jmp, up_ne, up_at, upW_s, upW_n, Nat.reduceAdd, Nat.reduceMul, Nat.reduceLT, Nat.reduceEqDiff, Nat.add_zero, Nat.zero_add, reduceCtorEq, f8, hw, hb, w8, show 16 + 10 * t + 9 = 25 + 10 * t by omega]
      rw [nI_shl (by omega), nI_or, Nat.one_mul]
      have hM3 : ∀ M3 : MMw, M3 = up (up (up (up M2 179 (25 + 10 * t) (nI 1)) 178 30 (nI (busy ||| 2 ^ m))) 179 (8 + i) (M 179 (8 + i) + nI 1)) 178 29 (M 178 29 + nI 1) → M3 179 = q_did (M 179) t m i ∧ Fr [178, 179, 187, 188] M M3 ∧ Fh M M3 ∧ M3 178 27 = M 178 27 ∧ M3 178 28 = M 178 28 ∧ M3 178 30 = nI (busy ||| 2 ^ m) ∧ M3 178 29 = M 178 29 + nI 1 := by
        intro M3 h
        subst h
        refine ⟨?_, (((ff.up (by decide)).up (by decide)).up (by decide)).up (by decide), ?_, ?_, ?_, ?_, ?_⟩
        · simp (disch := omega) only [Nat.one_mul, m1_nI, m1n, o_nI, z_nI, i1_nI, im1_nI, nI_add, nI_mul, lt_i, eq_i, inb_nI, ↓reduceIte, nI_clamp, bnd_some, b2i_0, b2i_1, b2i_t, b2i_f, Wq_ret, Wq_jmp, up_ne, up_at, upW_s, upW_n, Nat.reduceAdd, Nat.reduceMul, Nat.reduceLT, Nat.reduceEqDiff, Nat.add_zero, Nat.zero_add, reduceCtorEq, hw]
          unfold q_did
          rfl
        · have : Fh M (up (up (up M2 179 (25 + 10 * t) (nI 1)) 178 30 (nI (busy ||| 2 ^ m))) 179 (8 + i) (M 179 (8 + i) + nI 1)) := by
            intro k hk
            simp (disch := omega) only [Nat.one_mul, m1_nI, m1n, o_nI, z_nI, i1_nI, im1_nI, nI_add, nI_mul, lt_i, eq_i, inb_nI, ↓reduceIte, nI_clamp, bnd_some, b2i_0, b2i_1, b2i_t, b2i_f, Wq_ret, Wq_jmp, up_ne, up_at, upW_s, upW_n, Nat.reduceAdd, Nat.reduceMul, Nat.reduceLT, Nat.reduceEqDiff, Nat.add_zero, Nat.zero_add, reduceCtorEq, f8]
          exact this.up (by omega)
        all_goals simp (disch := omega) only [Nat.one_mul, m1_nI, m1n, o_nI, z_nI, i1_nI, im1_nI, nI_add, nI_mul, lt_i, eq_i, inb_nI, ↓reduceIte, nI_clamp, bnd_some, b2i_0, b2i_1, b2i_t, b2i_f, Wq_ret, Wq_jmp, up_ne, up_at, upW_s, upW_n, Nat.reduceAdd, Nat.reduceMul, Nat.reduceLT, Nat.reduceEqDiff, Nat.add_zero, Nat.zero_add, reduceCtorEq, f8]
      generalize up (up (up (up M2 179 (25 + 10 * t) (nI 1)) 178 30 (nI (busy ||| 2 ^ m))) 179 (8 + i) (M 179 (8 + i) + nI 1)) 178 29 (M 178 29 + nI 1) = M3 at hM3 ⊢
      obtain ⟨q1, q2, q3, q4, q5, q6, q7⟩ := hM3 _ rfl
      cases tr with
      | false =>
        rw [if_pos rfl, Wq_ret]
        exact yes _ hcan (by rw [q1]; unfold q_do; rw [if_neg (by decide)]) q3 q4 q5 q6 q7 q2
      | true =>
        rw [if_neg (by decide)]
        have hdm : q_invM (q_did (M 179) t m i) := q_did_M dd1 d3 h3 hy hm
        refine Wq.call (m_notes (show 1 ≤ D' by omega) (by rw [q1]; exact hdm)) ?_
        rintro z M4 ⟨hz, hf4⟩
        rw [Wq_ret]
        have z8 := hf4 178 (by decide)
        exact yes _ hcan (by rw [hz, q1]; unfold q_do; rw [if_pos rfl]) (q3.tr (Fh.of z8)) (by rw [z8]; exact q4) (by rw [z8]; exact q5) (by rw [z8]; exact q6) (by rw [z8]; exact q7) (q2.tr (hf4.mono (by decide)))
    · rw [if_neg h4, Wq_ret]
      exact WkP.no (by rw [hcan, decide_eq_false h4]; rfl) rfl rfl Fr.rf)
theorem b2i_and (a b : Bool) : b2i (a && b) = if a = true then b2i b else nI 0 := by cases a <;> rfl
/-- the number of the first refused line, kept where one stands already -/
def q_first (old : Int32) (fr : Option Nat) : Int32 := match fr with
  | none => old
  | some k => if old = -1 then nI k else old
def q_fhour (old oldH h : Int32) (fr : Option Nat) : Int32 := match fr with
  | none => oldH
  | some _ => if old = -1 then h else oldH
theorem m_on (hD : 1 ≤ D) {l : Nat} : callw X D 20 [.inl (M 179 0), .inl (M 179 (169 + 5 * l)), .inl (M 179 (169 + 5 * l) + M 179 (170 + 5 * l) - nI 1)] (Gk n tot kn kx) M = some (b2i (q_on (M 179) l), Gk n tot kn kx, M) := by
  rw [m_isIn hD]
  unfold q_on
  by_cases h1 : M 179 0 < M 179 (169 + 5 * l)
  · rw [if_pos h1, decide_eq_true h1]; rfl
  · rw [if_neg h1, decide_eq_false h1]
    by_cases h2 : M 179 (169 + 5 * l) + M 179 (170 + 5 * l) - nI 1 < M 179 0
    · rw [if_pos h2, decide_eq_true h2]; rfl
    · rw [if_neg h2, decide_eq_false h2]; rfl
theorem q_line_1 {tr : Bool} {l : Nat} {s : Hst} (h : q_on s.1 l = false) : q_line tr l s = s := by
  unfold q_line
  rw [if_neg (by rw [h]; decide)]
theorem q_line_2 {tr : Bool} {l : Nat} {s : Hst} (h : q_on s.1 l = true) (h2 : q_can s.1 s.2.1 l = true) : q_line tr l s = (q_do tr s.1 (q_T s.1 l) (q_M s.1 l) (q_I s.1 l), s.2.1 ||| 2 ^ q_M s.1 l, s.2.2.1 + 1, s.2.2.2.1, s.2.2.2.2) := by
  unfold q_line
  rw [if_pos h, if_pos h2]
theorem q_line_3 {tr : Bool} {l : Nat} {s : Hst} (h : q_on s.1 l = true) (h2 : q_can s.1 s.2.1 l = false) : q_line tr l s = (s.1, s.2.1, s.2.2.1, s.2.2.2.1 + 1, q_fst s.2.2.2.2 l) := by
  unfold q_line
  rw [if_pos h, if_neg (by rw [h2]; decide)]
theorem or_lt16 {a b : Nat} (ha : a < 16) (hb : b < 4) : a ||| 2 ^ b < 16 := by
  have : 2 ^ b < 2 ^ 4 := Nat.pow_lt_pow_right (by decide) hb
  exact Nat.or_lt_two_pow (n := 4) ha this
theorem q_hour0_f {W : Nat → Int32} {tr : Bool} {t m i : Nat} (hi : i < 8) (ht : t < 8) : q_do tr W t m i 0 = W 0 := by
  have h1 : q_did W t m i 0 = W 0 := by
    unfold q_did
    rw [upW_n (by omega), upW_n (by omega), q_wears_at (by omega) (by omega) (by omega) (by omega)]
  unfold q_do
  cases tr with
  | false => exact h1
  | true =>
    rw [if_pos rfl]
    unfold q_note
    split
    · exact h1
    · rw [upW_n (by omega), upW_n (by omega), upW_n (by omega), upW_n (by omega), upW_n (by omega)]; exact h1
set_option maxHeartbeats 8000000 in
theorem m_lines_loop (hD : 7 ≤ D) {tr : Bool} {W0 : Nat → Int32} {M0 : MMw} {C0 C1 : Nat → Int32} (hy : q_invY W0) (hl0 : q_law W0 0 C0) (hl1 : q_law W0 1 C1) {Q : Int32 → MMw → Prop}
    (hend : ∀ (M1 : MMw) (s : Hst), s = q_for (q_line tr) (q_n W0 99) (W0, 0, 0, 0, none) → M1 179 = s.1 → Fr [178, 179, 187, 188] M0 M1 → Fh M0 M1 → M1 178 27 = q_first (M0 178 27) s.2.2.2.2 → M1 178 28 = q_fhour (M0 178 27) (M0 178 28) (W0 0) s.2.2.2.2 → M1 178 29 = M0 178 29 + nI s.2.2.1 →
      Lq X (callw X D) 96 145 [some (.inr (.inl 178)), some (.inl (b2i tr)), some (.inl (nI s.2.2.2.1)), some (.inl (nI 0)), none] (Gk n tot kn kx) M1 Q) :
    ∀ (c l : Nat) (s : Hst) (M1 : MMw), l + c = q_n W0 99 → s = q_for (q_line tr) l (W0, 0, 0, 0, none) → sameY W0 s.1 → q_invM s.1 → s.1 0 = W0 0 → s.2.1 < 16 → M1 178 30 = nI s.2.1 → (∀ k, s.2.2.2.2 = some k → k < 2 ^ 31) → (s.2.2.2.2 = none → M1 178 27 = M0 178 27) →
      M1 179 = s.1 → Fr [178, 179, 187, 188] M0 M1 → Fh M0 M1 → M1 178 27 = q_first (M0 178 27) s.2.2.2.2 → M1 178 28 = q_fhour (M0 178 27) (M0 178 28) (W0 0) s.2.2.2.2 → M1 178 29 = M0 178 29 + nI s.2.2.1 →
      Lq X (callw X D) 96 36 [some (.inr (.inl 178)), some (.inl (b2i tr)), some (.inl (nI s.2.2.2.1)), some (.inl (nI l)), none] (Gk n tot kn kx) M1 Q
  | 0, l, s, M1, hlc, hs, hY, hM, h0, hb, h30, hfk, hno, hw, hf, hh, h27, h28, h29 => by
    refine Lq.of (t_96_36_ok X (callw X D) n tot kn kx _ _ _ M1) ?_
    unfold t_96_36
    have h99 := hy.1.2.2.2.1
    have h99' := h99.2
    have e99 : M1 179 99 = nI (q_n W0 99) := by rw [hw, hY 99 (by unfold mvI; omega)]; exact h99.1
    rw [e99, if_neg (by rw [lt_i (by omega) (by omega)]; omega), Wq_jmp, o_nI]
    exact hend M1 s (by rw [hs, show l = q_n W0 99 by omega]) hw hf hh h27 h28 h29
  | c + 1, l, s, M1, hlc, hs, hY, hM, h0, hb, h30, hfk, hno, hw, hf, hh, h27, h28, h29 => by
    refine Lq.of (t_96_36_ok X (callw X D) n tot kn kx _ _ _ M1) ?_
    unfold t_96_36
    have h99 := hy.1.2.2.2.1
    have h99' := h99.2
    have e99 : M1 179 99 = nI (q_n W0 99) := by rw [hw, hY 99 (by unfold mvI; omega)]; exact h99.1
    have hll : l < q_n W0 99 := by omega
    have hlaw0 : q_law (M1 179) 0 C0 := by rw [hw]; exact hl0.ch (by decide) hY
    have hlaw1 : q_law (M1 179) 1 C1 := by rw [hw]; exact hl1.ch (by decide) hY
    have hyM : q_invY (M1 179) := by rw [hw]; exact hy.ch hY
    have hmM : q_invM (M1 179) := by rw [hw]; exact hM
    have hl2 : l < q_n (M1 179) 99 := by rw [hw, q_n_eq (hY 99 (by unfold mvI; omega))]; exact hll
    have hok := q_line_ok (tr := tr) (l := l) (s := s) (by rw [q_n_eq (hY 99 (by unfold mvI; omega))]; exact hll) (hy.ch hY) hM
    have hs' : q_line tr l s = q_for (q_line tr) (l + 1) (W0, 0, 0, 0, none) := by rw [q_for_s, ← hs]
    rw [e99, if_pos (by rw [lt_i (by omega) (by omega)]; omega)]
    have hon := m_on (X := X) (n := n) (tot := tot) (kn := kn) (kx := kx) (M := M1) (show 1 ≤ D by omega) (l := l)
    rw [← hw] at h0
    simp (disch := omega) only [Nat.one_mul, m1_nI, m1n, o_nI, z_nI, i1_nI, im1_nI, nI_add, nI_mul, lt_i, eq_i, inb_nI, ↓reduceIte, nI_clamp, bnd_some, b2i_0, b2i_1, b2i_t, b2i_f, Wq_ret, Wq_jmp, up_ne, up_at, upW_s, upW_n, Nat.reduceAdd, Nat.reduceMul, Nat.reduceLT, Nat.reduceEqDiff, Nat.add_zero, Nat.zero_add, reduceCtorEq, show 166 + 5 * l + 3 = 169 + 5 * l by omega, show 166 + 5 * l + 4 = 170 + 5 * l by omega, hon]
    have again : ∀ (s' : Hst) (M2 : MMw), s' = q_line tr l s → s'.1 0 = W0 0 → s'.2.1 < 16 → M2 178 30 = nI s'.2.1 → (∀ k, s'.2.2.2.2 = some k → k < 2 ^ 31) → (s'.2.2.2.2 = none → M2 178 27 = M0 178 27) → M2 179 = s'.1 → Fr [178, 179, 187, 188] M0 M2 → Fh M0 M2 → M2 178 27 = q_first (M0 178 27) s'.2.2.2.2 → M2 178 28 = q_fhour (M0 178 27) (M0 178 28) (W0 0) s'.2.2.2.2 → M2 178 29 = M0 178 29 + nI s'.2.2.1 →
        Lq X (callw X D) 96 36 [some (.inr (.inl 178)), some (.inl (b2i tr)), some (.inl (nI s'.2.2.2.1)), some (.inl (nI (l + 1))), none] (Gk n tot kn kx) M2 Q := by
      intro s' M2 hs2 g0 gb g30 gfk gno gw gf gh g27 g28 g29
      refine m_lines_loop hD hy hl0 hl1 hend c (l + 1) s' M2 (by omega) (by rw [hs2, hs']) ?_ ?_ g0 gb g30 gfk gno gw gf gh g27 g28 g29
      · rw [hs2]; exact hY.tr hok.1
      · rw [hs2]; exact hok.2
    cases hq : q_on (M1 179) l with
    | false =>
      rw [if_pos rfl]
      exact again s M1 (by rw [q_line_1 (by rw [← hw]; exact hq)]) (by rw [← hw]; exact h0) hb h30 hfk hno hw hf hh h27 h28 h29
    | true =>
      rw [if_neg (by decide)]
      refine Wq.call (m_works (C0 := C0) (C1 := C1) hD hlaw0 hlaw1 hyM hmM hl2 h30 hb) ?_
      rintro x M2 ⟨hx, hf2, hh2, k27, k28, hyes, hnot⟩
      subst hx
      simp only [b2i_0]
      have hqs : q_on s.1 l = true := by rw [← hw]; exact hq
      have ht8 : q_T s.1 l < 8 ∧ q_I s.1 l < 8 ∧ q_M s.1 l < 4 := by
        obtain ⟨a1, a2, a3, _⟩ := (hy.ch hY).2.2.2.2.2.2.2 l (by rw [← hw]; exact hl2)
        have b1 := (hy.ch hY).1.1.2; have b2 := (hy.ch hY).1.2.1.2; have b3 := (hy.ch hY).1.2.2.1.2
        have c1 := a1.2; have c2 := a2.2; have c3 := a3.2
        unfold q_T q_I q_M
        omega
      cases hc : q_can (M1 179) s.2.1 l with
      | true =>
        obtain ⟨r1, r2, r3⟩ := hyes hc
        have hcs : q_can s.1 s.2.1 l = true := by rw [← hw]; exact hc
        rw [if_neg (by decide)]
        rw [Wq_jmp]
        have hln := q_line_2 (tr := tr) hqs hcs
        rw [hw] at r1 r2
        have hres := again (q_line tr l s) M2 rfl (by rw [hln]; dsimp only; rw [q_hour0_f ht8.2.1 ht8.1, ← hw]; exact h0) (by rw [hln]; exact or_lt16 hb ht8.2.2) (by rw [hln]; exact r2) (by rw [hln]; exact hfk) (by rw [hln, k27]; exact hno) (by rw [hln]; exact r1) (hf.tr hf2) (hh.tr hh2) (by rw [hln, k27]; exact h27) (by rw [hln, k28]; exact h28) (by rw [hln, r3, h29, Int32.add_assoc, nI_add])
        rw [show (q_line tr l s).2.2.2.1 = s.2.2.2.1 by rw [hln]] at hres
        exact hres
      | false =>
        obtain ⟨r1, r2, r3⟩ := hnot hc
        rw [h30] at r2
        have hcs : q_can s.1 s.2.1 l = false := by rw [← hw]; exact hc
        have hln := q_line_3 (tr := tr) hqs hcs
        rw [if_pos rfl]
        by_cases h1 : M2 178 27 = -1
        · rw [if_pos h1, Wq_jmp]
          have hm0 : M0 178 27 = -1 := by
            rw [k27, h27] at h1
            unfold q_first at h1
            cases hfr : s.2.2.2.2 with
            | none => rw [hfr] at h1; exact h1
            | some k =>
              rw [hfr] at h1
              dsimp only at h1
              by_cases e : M0 178 27 = -1
              · exact e
              · rw [if_neg e] at h1; exact absurd h1 e
          have hnone : s.2.2.2.2 = none := by
            cases hfr : s.2.2.2.2 with
            | none => rfl
            | some k =>
              exfalso
              rw [k27, h27, hfr] at h1
              unfold q_first at h1
              dsimp only at h1
              rw [if_pos hm0, nI_nm1 (hfk k hfr)] at h1
              exact h1
          have hres := again (q_line tr l s) (up (up M2 178 27 (nI l)) 178 28 (M2 179 0)) rfl (by rw [hln, ← hw]; exact h0) (by rw [hln]; exact hb) (by rw [hln]; simp (disch := omega) only [Nat.one_mul, m1_nI, m1n, o_nI, z_nI, i1_nI, im1_nI, nI_add, nI_mul, lt_i, eq_i, inb_nI, ↓reduceIte, nI_clamp, bnd_some, b2i_0, b2i_1, b2i_t, b2i_f, Wq_ret, Wq_jmp, up_ne, up_at, upW_s, upW_n, Nat.reduceAdd, Nat.reduceMul, Nat.reduceLT, Nat.reduceEqDiff, Nat.add_zero, Nat.zero_add, reduceCtorEq]; exact r2) (by rw [hln, hnone]; intro k h; cases h; omega) (by rw [hln, hnone]; intro h; cases h) (by rw [hln]; simp (disch := omega) only [Nat.one_mul, m1_nI, m1n, o_nI, z_nI, i1_nI, im1_nI, nI_add, nI_mul, lt_i, eq_i, inb_nI, ↓reduceIte, nI_clamp, bnd_some, b2i_0, b2i_1, b2i_t, b2i_f, Wq_ret, Wq_jmp, up_ne, up_at, upW_s, upW_n, Nat.reduceAdd, Nat.reduceMul, Nat.reduceLT, Nat.reduceEqDiff, Nat.add_zero, Nat.zero_add, reduceCtorEq]; rw [r1, hw]) (((hf.tr hf2).up (by decide)).up (by decide)) (((hh.tr hh2).up (by omega)).up (by omega)) (by rw [hln, hnone]; simp (disch := omega) only [Nat.one_mul, m1_nI, m1n, o_nI, z_nI, i1_nI, im1_nI, nI_add, nI_mul, lt_i, eq_i, inb_nI, ↓reduceIte, nI_clamp, bnd_some, b2i_0, b2i_1, b2i_t, b2i_f, Wq_ret, Wq_jmp, up_ne, up_at, upW_s, upW_n, Nat.reduceAdd, Nat.reduceMul, Nat.reduceLT, Nat.reduceEqDiff, Nat.add_zero, Nat.zero_add, reduceCtorEq]; exact (if_pos hm0).symm) (by rw [hln, hnone]; simp (disch := omega) only [Nat.one_mul, m1_nI, m1n, o_nI, z_nI, i1_nI, im1_nI, nI_add, nI_mul, lt_i, eq_i, inb_nI, ↓reduceIte, nI_clamp, bnd_some, b2i_0, b2i_1, b2i_t, b2i_f, Wq_ret, Wq_jmp, up_ne, up_at, upW_s, upW_n, Nat.reduceAdd, Nat.reduceMul, Nat.reduceLT, Nat.reduceEqDiff, Nat.add_zero, Nat.zero_add, reduceCtorEq]; rw [r1, h0]; exact (if_pos hm0).symm) (by rw [hln]; simp (disch := omega) only [Nat.one_mul, m1_nI, m1n, o_nI, z_nI, i1_nI, im1_nI, nI_add, nI_mul, lt_i, eq_i, inb_nI, ↓reduceIte, nI_clamp, bnd_some, b2i_0, b2i_1, b2i_t, b2i_f, Wq_ret, Wq_jmp, up_ne, up_at, upW_s, upW_n, Nat.reduceAdd, Nat.reduceMul, Nat.reduceLT, Nat.reduceEqDiff, Nat.add_zero, Nat.zero_add, reduceCtorEq]; rw [r3, h29])
          rw [show (q_line tr l s).2.2.2.1 = s.2.2.2.1 + 1 by rw [hln]] at hres
          exact hres
        · rw [if_neg h1, Wq_jmp]
          have h27' : q_first (M0 178 27) (q_fst s.2.2.2.2 l) = q_first (M0 178 27) s.2.2.2.2 ∧ q_fhour (M0 178 27) (M0 178 28) (W0 0) (q_fst s.2.2.2.2 l) = q_fhour (M0 178 27) (M0 178 28) (W0 0) s.2.2.2.2 := by
            cases hfr : s.2.2.2.2 with
            | some k => exact ⟨rfl, rfl⟩
            | none =>
              have : M0 178 27 ≠ -1 := by rw [← hno hfr, ← k27]; exact h1
              unfold q_first q_fhour q_fst
              dsimp only
              rw [if_neg this, if_neg this]
              exact ⟨rfl, rfl⟩
          have hres := again (q_line tr l s) M2 rfl (by rw [hln, ← hw]; exact h0) (by rw [hln]; exact hb) (by rw [hln]; exact r2) (by rw [hln]; cases hfr : s.2.2.2.2 with | none => intro k h; cases h; omega | some j => intro k h; cases h; exact hfk _ hfr) (by rw [hln]; cases hfr : s.2.2.2.2 with | none => intro h; cases h | some k => intro h; cases h) (by rw [hln, r1, hw]) (hf.tr hf2) (hh.tr hh2) (by rw [hln, k27, h27]; exact h27'.1.symm) (by rw [hln, k28, h28]; exact h27'.2.symm) (by rw [hln, r3, h29])
          rw [show (q_line tr l s).2.2.2.1 = s.2.2.2.1 + 1 by rw [hln]] at hres
          exact hres
theorem m_zero9_loop (hD : 1 ≤ D) {tr : Bool} {W0 : Nat → Int32} {N : Nat} (hN : N ≤ 8) (h96 : W0 96 = nI N) {Q : Int32 → MMw → Prop} {M0 : MMw}
    (hend : ∀ M1 : MMw, M1 179 = q_zero9 W0 N → Fr [179] M0 M1 → Lq X (callw X D) 96 36 [some (.inr (.inl 178)), some (.inl (b2i tr)), some (.inl (nI 0)), some (.inl (nI 0)), none] (Gk n tot kn kx) M1 Q) :
    ∀ (c t : Nat) (M1 : MMw), t + c = N → M1 179 = q_zero9 W0 t → Fr [179] M0 M1 → Lq X (callw X D) 96 9 [some (.inr (.inl 178)), some (.inl (b2i tr)), some (.inl (nI 0)), some (.inl (nI t)), none] (Gk n tot kn kx) M1 Q
  | 0, t, M1, htc, hw, hf => by
    refine Lq.of (t_96_9_ok X (callw X D) n tot kn kx _ _ _ M1) ?_
    unfold t_96_9
    have e : q_low W0 (q_zero9 W0 t) := q_for_ind (P := fun W' => q_low W0 W') q_low.rf (fun i W1 hi h => h.up (by omega))
    rw [hw, e 96 (by omega), h96, if_neg (by rw [lt_i (by omega) (by omega)]; omega), Wq_jmp, o_nI]
    exact hend M1 (by rw [hw, show t = N by omega]) hf
  | c + 1, t, M1, htc, hw, hf => by
    refine Lq.of (t_96_9_ok X (callw X D) n tot kn kx _ _ _ M1) ?_
    unfold t_96_9
    have e : q_low W0 (q_zero9 W0 t) := q_for_ind (P := fun W' => q_low W0 W') q_low.rf (fun i W1 hi h => h.up (by omega))
    rw [hw, e 96 (by omega), h96, if_pos (by rw [lt_i (by omega) (by omega)]; omega)]
    simp (disch := omega) only [Nat.one_mul, m1_nI, m1n, o_nI, z_nI, i1_nI, im1_nI, nI_add, nI_mul, lt_i, eq_i, inb_nI, ↓reduceIte, nI_clamp, bnd_some, b2i_0, b2i_1, b2i_t, b2i_f, Wq_ret, Wq_jmp, upW_s, upW_n, Nat.reduceAdd, Nat.reduceMul, Nat.reduceLT, Nat.reduceEqDiff, Nat.add_zero, Nat.zero_add, reduceCtorEq, m_tools hD]
    refine m_zero9_loop hD hN h96 hend c (t + 1) _ (by omega) ?_ (hf.up (by decide))
    rw [up_at, hw, show 16 + 10 * t + 9 = 25 + 10 * t by omega]
    rfl
theorem m_zero7_loop (hD : 1 ≤ D) {W0 : Nat → Int32} {N : Nat} (hN : N ≤ 8) (h96 : W0 96 = nI N) {x : Int32} {Q : Int32 → MMw → Prop} {M0 : MMw}
    (hend : ∀ M1 : MMw, M1 179 = (if q_bell W0 = nI 0 then q_zero7 W0 N else W0) → Fr [179] M0 M1 → Q x M1) :
    ∀ (c t : Nat) (M1 : MMw), t + c = N → (t = 0 ∨ q_bell W0 = nI 0) → M1 179 = q_zero7 W0 t → Fr [179] M0 M1 → Lq X (callw X D) 96 238 [some (.inr (.inl 178)), none, some (.inl x), some (.inl (nI t)), none] (Gk n tot kn kx) M1 Q
  | 0, t, M1, htc, hb, hw, hf => by
    refine Lq.of (t_96_238_ok X (callw X D) n tot kn kx _ _ M1) ?_
    unfold t_96_238
    have e : q_low W0 (q_zero7 W0 t) := q_for_ind (P := fun W' => q_low W0 W') q_low.rf (fun i W1 hi h => h.up (by omega))
    rw [hw, e 96 (by omega), h96, if_neg (by rw [lt_i (by omega) (by omega)]; omega), Wq_ret]
    refine hend M1 ?_ hf
    rw [hw]
    rcases hb with hb | hb
    · rw [show N = 0 by omega, hb]
      split <;> rfl
    · rw [if_pos hb, show t = N by omega]
  | c + 1, t, M1, htc, hb, hw, hf => by
    refine Lq.of (t_96_238_ok X (callw X D) n tot kn kx _ _ M1) ?_
    unfold t_96_238
    have e : q_low W0 (q_zero7 W0 t) := q_for_ind (P := fun W' => q_low W0 W') q_low.rf (fun i W1 hi h => h.up (by omega))
    have e0 : q_zero7 W0 t 0 = W0 0 := by
      unfold q_zero7
      exact q_for_ind (P := fun W' : Nat → Int32 => W' 0 = W0 0) rfl (fun i W1 hi h => by rw [upW_n (by omega)]; exact h)
    rw [hw, e 96 (by omega), h96, if_pos (by rw [lt_i (by omega) (by omega)]; omega), e0]
    by_cases h : q_bell W0 = nI 0
    · rw [if_pos (show W0 0 - W0 0 / Int32.ofNat 8 * Int32.ofNat 8 = 0 from h)]
      simp (disch := omega) only [Nat.one_mul, m1_nI, m1n, o_nI, z_nI, i1_nI, im1_nI, nI_add, nI_mul, lt_i, eq_i, inb_nI, ↓reduceIte, nI_clamp, bnd_some, b2i_0, b2i_1, b2i_t, b2i_f, Wq_ret, Wq_jmp, upW_s, upW_n, Nat.reduceAdd, Nat.reduceMul, Nat.reduceLT, Nat.reduceEqDiff, Nat.add_zero, Nat.zero_add, reduceCtorEq, m_tools hD]
      refine m_zero7_loop hD hN h96 hend c (t + 1) _ (by omega) (Or.inr h) ?_ (hf.up (by decide))
      rw [up_at, hw, show 16 + 10 * t + 7 = 23 + 10 * t by omega]
      rfl
    · rw [if_neg (show ¬ W0 0 - W0 0 / Int32.ofNat 8 * Int32.ofNat 8 = 0 from h), Wq_ret]
      refine hend M1 ?_ hf
      rw [if_neg h, hw]
      rcases hb with hb | hb
      · rw [hb]; rfl
      · exact absurd hb h
theorem m_draw (hD : 1 ≤ D) : callw X D 95 [.inr (.inl 178), .inl (nI 1000)] (Gk n tot kn kx) M = some (q_rem (q_top24 (q_drawn (M 179) 3)) (nI 1000), Gk n tot kn kx, up M 179 3 (nI 1664525 * M 179 3 + nI 1013904223)) :=
  ex1 hD (fun cl => t_95_0_ok X cl n tot kn kx _ M) (fun cl => by
    unfold t_95_0
    rw [if_neg (by decide +kernel), up_at]
    rfl)
theorem q_rusts_at {W : Nat → Int32} {k : Nat} (h1 : k ≠ 3) (h2 : ∀ t, k ≠ 19 + 10 * t) : ∀ n, q_for q_rust1 n W k = W k := fun n =>
  q_for_ind (P := fun W' : Nat → Int32 => W' k = W k) rfl (fun i W1 hi h => by
    unfold q_rust1 q_drawn
    split
    · split
      · rw [upW_n (h2 i), upW_n h1]; exact h
      · rw [upW_n h1]; exact h
    · exact h)
set_option maxHeartbeats 4000000 in
theorem m_rust_loop (hD : 1 ≤ D) {tr : Bool} {W0 : Nat → Int32} {N : Nat} (hN : N ≤ 8) (h96 : W0 96 = nI N) {x : Int32} {Q : Int32 → MMw → Prop} {M0 : MMw}
    (hend : ∀ M1 : MMw, M1 179 = q_later (if tr = true ∧ nI 0 < W0 102 then q_for q_rust1 N W0 else W0) → Fr [179] M0 M1 → Lq X (callw X D) 96 238 [some (.inr (.inl 178)), none, some (.inl x), some (.inl (nI 0)), none] (Gk n tot kn kx) M1 Q) :
    ∀ (c t : Nat) (M1 : MMw), t + c = N → (t = 0 ∨ (tr = true ∧ nI 0 < W0 102)) → M1 179 = q_for q_rust1 t W0 → Fr [179] M0 M1 → Lq X (callw X D) 96 145 [some (.inr (.inl 178)), some (.inl (b2i tr)), some (.inl x), some (.inl (nI t)), none] (Gk n tot kn kx) M1 Q
  | 0, t, M1, htc, hb, hw, hf => by
    refine Lq.of (t_96_145_ok X (callw X D) n tot kn kx _ _ _ M1) ?_
    unfold t_96_145
    have e96 : M1 179 96 = nI N := by rw [hw, q_rusts_at (by omega) (by intro t; omega)]; exact h96
    rw [e96, if_neg (by rw [lt_i (by omega) (by omega)]; omega), Wq_jmp, o_nI, o_nI]
    refine hend _ ?_ (hf.up (by decide))
    rw [up_at, hw]
    rcases hb with hb | hb
    · rw [show N = 0 by omega, hb]
      split <;> rfl
    · rw [if_pos hb, show t = N by omega]; rfl
  | c + 1, t, M1, htc, hb, hw, hf => by
    refine Lq.of (t_96_145_ok X (callw X D) n tot kn kx _ _ _ M1) ?_
    unfold t_96_145
    have e96 : M1 179 96 = nI N := by rw [hw, q_rusts_at (by omega) (by intro t; omega)]; exact h96
    have e102 : M1 179 102 = W0 102 := by rw [hw, q_rusts_at (by omega) (by intro t; omega)]
    rw [e96, if_pos (by rw [lt_i (by omega) (by omega)]; omega), e102]
    have stop : ¬ (tr = true ∧ nI 0 < W0 102) → Lq X (callw X D) 96 238 [some (.inr (.inl 178)), none, some (.inl x), some (.inl (nI 0)), none] (Gk n tot kn kx) (up M1 179 0 (M1 179 0 + nI 1)) Q := by
      intro h
      refine hend _ ?_ (hf.up (by decide))
      rw [if_neg h, up_at, hw]
      rcases hb with hb | hb
      · rw [hb]; rfl
      · exact absurd hb h
    cases tr with
    | false =>
      rw [show b2i false = 0 from rfl, if_pos rfl, Wq_jmp]
      exact stop (by rintro ⟨h, _⟩; cases h)
    | true =>
      rw [if_neg (by decide)]
      by_cases hr : nI 0 < W0 102
      · rw [if_pos (show (0 : Int32) < W0 102 from hr)]
        have next : ∀ M2 : MMw, M2 179 = q_rust1 t (M1 179) → Fr [179] M1 M2 → Lq X (callw X D) 96 145 [some (.inr (.inl 178)), some (.inl (b2i true)), some (.inl x), some (.inl (nI (t + 1))), none] (Gk n tot kn kx) M2 Q := by
          intro M2 h2 hf2
          refine m_rust_loop hD hN h96 hend c (t + 1) M2 (by omega) (Or.inr ⟨rfl, hr⟩) ?_ (hf.tr hf2)
          rw [h2, hw]; rfl
        have e25 : M1 179 (25 + 10 * t) = W0 (25 + 10 * t) := by rw [hw, q_rusts_at (by omega) (by intro t; omega)]
        simp (disch := omega) only [Nat.one_mul, m1_nI, m1n, o_nI, z_nI, i1_nI, im1_nI, nI_add, nI_mul, lt_i, eq_i, inb_nI, ↓reduceIte, nI_clamp, bnd_some, b2i_0, b2i_1, b2i_t, b2i_f, Wq_ret, Wq_jmp, upW_s, upW_n, Nat.reduceAdd, Nat.reduceMul, Nat.reduceLT, Nat.reduceEqDiff, Nat.add_zero, Nat.zero_add, reduceCtorEq, m_ofTool hD, m_draw hD, m_tools hD]
        rw [show 16 + 10 * t + 9 = 25 + 10 * t by omega, show 16 + 10 * t + 3 = 19 + 10 * t by omega]
        by_cases h1 : M1 179 (25 + 10 * t) = nI 0
        · rw [if_pos h1]
          by_cases h2 : nI 0 < M1 179 (19 + 10 * t)
          · rw [if_pos h2]
            have e3 : up M1 179 3 (nI 1664525 * M1 179 3 + nI 1013904223) 179 = q_drawn (M1 179) := up_at _ _ _ _
            rw [e3, show q_drawn (M1 179) 102 = M1 179 102 from upW_n (by omega)]
            by_cases h3 : q_rem (q_top24 (q_drawn (M1 179) 3)) (nI 1000) < M1 179 102
            · rw [if_pos h3, Wq_jmp]
              refine next _ ?_ ((Fr.rf.up (by decide)).up (by decide))
              unfold q_rust1
              rw [if_pos ⟨h1, h2⟩, if_pos h3, up_at, e3, show q_drawn (M1 179) (19 + 10 * t) = M1 179 (19 + 10 * t) from upW_n (by omega)]
            · rw [if_neg h3, Wq_jmp]
              refine next _ ?_ (Fr.rf.up (by decide))
              unfold q_rust1
              rw [if_pos ⟨h1, h2⟩, if_neg h3, e3]
          · rw [if_neg h2, Wq_jmp]
            refine next _ ?_ Fr.rf
            unfold q_rust1
            rw [if_neg (fun h => h2 h.2)]
        · rw [if_neg h1, Wq_jmp]
          refine next _ ?_ Fr.rf
          unfold q_rust1
          rw [if_neg (fun h => h1 h.1)]
      · rw [if_neg (show ¬ (0 : Int32) < W0 102 from hr), Wq_jmp]
        exact stop (fun h => hr h.2)
set_option maxHeartbeats 4000000 in
theorem m_anHour (hD : 8 ≤ D) {tr : Bool} {C0 C1 : Nat → Int32} (hl0 : q_law (M 179) 0 C0) (hl1 : q_law (M 179) 1 C1) (hy : q_invY (M 179)) (hm : q_invM (M 179)) :
    Sq X D 96 [.inr (.inl 178), .inl (b2i tr)] (Gk n tot kn kx) M (fun x M' => x = nI (q_hour tr (M 179)).2.2.2.1 ∧ M' 179 = (q_hour tr (M 179)).1 ∧ Fr [178, 179, 187, 188] M M' ∧ Fh M M' ∧ M' 178 27 = q_first (M 178 27) (q_hour tr (M 179)).2.2.2.2 ∧ M' 178 28 = q_fhour (M 178 27) (M 178 28) (M 179 0) (q_hour tr (M 179)).2.2.2.2 ∧ M' 178 29 = M 178 29 + nI (q_hour tr (M 179)).2.2.1) :=
  Sq.mk (k := 7) hD (fun D' hD' => by
    refine Lq.of (t_96_0_ok X (callw X D') n tot kn kx _ M) ?_
    unfold t_96_0
    rw [Wq_jmp, o_nI]
    have h96 := hy.1.1; have h96' := h96.2
    have b3 := hy.1.2.2.1.2; have b4 := hy.1.2.2.2.1.2
    have z := q_zero9_ok (n := q_n (M 179) 96) (by omega) hy hm
    refine m_zero9_loop (W0 := M 179) (M0 := up M 178 30 (nI 0)) (show 1 ≤ D' by omega) (show q_n (M 179) 96 ≤ 8 by omega) h96.1 ?_ (q_n (M 179) 96) 0 _ (by omega) (by rw [up_ne (by decide)]; rfl) Fr.rf
    intro M1 hw1 hf1
    have k1 : M1 178 = upW (M 178) 30 (nI 0) := by rw [hf1 178 (by decide), up_at]
    refine m_lines_loop (W0 := q_zero9 (M 179) (q_n (M 179) 96)) (M0 := M1) hD' (hy.ch z.1) (hl0.ch (by decide) z.1) (hl1.ch (by decide) z.1) ?_ _ 0 (q_zero9 (M 179) (q_n (M 179) 96), 0, 0, 0, none) M1 (Nat.zero_add _) rfl sameY.rf z.2 rfl (show 0 < 16 by decide) (by rw [k1, upW_s]) (by intro k h; cases h) (fun _ => rfl) hw1 Fr.rf Fh.rf rfl rfl (by rw [show nI 0 = 0 from rfl, Int32.add_zero])
    intro M2 s hs hw2 hf2 hh2 g27 g28 g29
    have hs2 : s = q_lines tr (M 179) := by rw [hs, q_n_eq (z.1 99 (by unfold mvI; omega))]; rfl
    have hl := q_lines_ok (tr := tr) hy hm (Nat.le_refl _)
    have hlY : sameY (M 179) s.1 := by rw [hs2]; exact hl.1
    have n96 : s.1 96 = nI (q_n (M 179) 96) := by rw [hlY 96 (by unfold mvI; omega)]; exact h96.1
    refine m_rust_loop (W0 := s.1) (M0 := M2) (show 1 ≤ D' by omega) (show q_n (M 179) 96 ≤ 8 by omega) n96 ?_ _ 0 M2 (Nat.zero_add _) (Or.inl rfl) hw2 Fr.rf
    intro M3 hw3 hf3
    have hr := q_rusted_ok (tr := tr) (hy.ch hlY) (by rw [hs2]; exact hl.2)
    have e3 : M3 179 = q_later (q_rusted tr s.1) := by
      rw [hw3]
      unfold q_rusted
      rw [q_n_eq (hlY 96 (by unfold mvI; omega))]
    have n96' : (q_later (q_rusted tr s.1)) 96 = nI (q_n (M 179) 96) := by
      rw [show q_later (q_rusted tr s.1) 96 = q_rusted tr s.1 96 from upW_n (by omega), hr.1 96 (by unfold mvI; omega)]; exact n96
    refine m_zero7_loop (W0 := q_later (q_rusted tr s.1)) (M0 := M3) (show 1 ≤ D' by omega) (show q_n (M 179) 96 ≤ 8 by omega) n96' ?_ _ 0 M3 (Nat.zero_add _) (Or.inl rfl) e3 Fr.rf
    intro M4 hw4 hf4
    have hfin : M4 178 = M2 178 := (hf4 178 (by decide)).trans (hf3 178 (by decide))
    have e : q_hour tr (M 179) = (q_next (q_rusted tr s.1), s.2) := by unfold q_hour; rw [← hs2]
    rw [e]
    dsimp only
    refine ⟨rfl, ?_, ?_, ?_, ?_, ?_, ?_⟩
    · rw [hw4]
      unfold q_next
      have : q_n (q_rusted tr s.1) 96 = q_n (M 179) 96 := by rw [q_n_eq (hr.1 96 (by unfold mvI; omega)), q_n_eq (hlY 96 (by unfold mvI; omega))]
      rw [this]
    · exact ((((Fr.rf.up (by decide)).tr (hf1.mono (by decide))).tr hf2).tr (hf3.mono (by decide))).tr (hf4.mono (by decide))
    · refine Fh.tr (M1 := M1) ?_ (hh2.tr (Fh.of hfin))
      intro k hk
      rw [k1, upW_n (by omega)]
    · rw [hfin, g27, k1, upW_n (by decide)]
    · rw [hfin, g28, k1, upW_n (by decide), upW_n (by decide)]
      have : q_zero9 (M 179) (q_n (M 179) 96) 0 = M 179 0 := by
        unfold q_zero9
        exact q_for_ind (P := fun W' : Nat → Int32 => W' 0 = M 179 0) rfl (fun i W1 hi h => by rw [upW_n (by omega)]; exact h)
      rw [this]
    · rw [hfin, g29, k1, upW_n (by decide)])
end
