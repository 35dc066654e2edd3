section
-- needs: think2
/-! what is left; ready, lasts -/
variable {X : KXw} {n tot kn D : Nat} {kx : Nat → Nat × Nat} {M : MMw}
/-- the KINDS of the first n WORKS that are not done -/
def q_kl (W : Nat → Int32) : Nat → Nat
  | 0 => 0
  | n + 1 => if q_doneB W n then q_kl W n else q_kl W n ||| 2 ^ q_n W (142 + 3 * n)
theorem q_kl_tb {W : Nat → Int32} {k : Nat} : ∀ {n : Nat}, (q_kl W n).testBit k = true ↔ ∃ i, i < n ∧ q_doneB W i = false ∧ q_n W (142 + 3 * i) = k
  | 0 => by
    rw [q_kl, Nat.zero_testBit]
    constructor
    · intro h; cases h
    · rintro ⟨i, hi, _⟩; exact absurd hi (Nat.not_lt_zero i)
  | n + 1 => by
    rw [q_kl]
    cases hd : q_doneB W n with
    | true =>
      rw [if_pos rfl, q_kl_tb]
      constructor
      · rintro ⟨i, hi, h⟩; exact ⟨i, by omega, h⟩
      · rintro ⟨i, hi, h1, h2⟩
        rcases Nat.lt_or_ge i n with hl | hl
        · exact ⟨i, hl, h1, h2⟩
        · rw [show i = n by omega, hd] at h1; cases h1
    | false =>
      rw [if_neg (by decide), Nat.testBit_or, Nat.testBit_two_pow, Bool.or_eq_true, q_kl_tb, decide_eq_true_eq]
      constructor
      · rintro (⟨i, hi, h⟩ | h)
        · exact ⟨i, by omega, h⟩
        · exact ⟨n, Nat.lt_succ_self n, hd, h⟩
      · rintro ⟨i, hi, h1, h2⟩
        rcases Nat.lt_or_ge i n with hl | hl
        · exact Or.inl ⟨i, hl, h1, h2⟩
        · rw [show i = n by omega] at h2; exact Or.inr h2
theorem q_kl_lt {W : Nat → Int32} : ∀ {n : Nat}, (∀ i, i < n → q_n W (142 + 3 * i) < 4) → q_kl W n < 16
  | 0, _ => by rw [q_kl]; decide
  | n + 1, h => by
    have h1 := q_kl_lt (W := W) (n := n) (fun i hi => h i (by omega))
    rw [q_kl]
    split
    · exact h1
    · exact or_lt16 h1 (h n (Nat.lt_succ_self n))
theorem q_kl_0 {W : Nat → Int32} {n : Nat} : q_kl W n = 0 ↔ ∀ i, i < n → q_doneB W i = true := by
  constructor
  · intro h i hi
    cases hd : q_doneB W i with
    | true => rfl
    | false =>
      have := q_kl_tb (W := W) (k := q_n W (142 + 3 * i)) (n := n) |>.mpr ⟨i, hi, hd, rfl⟩
      rw [h, Nat.zero_testBit] at this
      cases this
  · intro h
    apply Nat.eq_of_testBit_eq
    intro k
    rw [Nat.zero_testBit]
    cases ht : (q_kl W n).testBit k with
    | false => rfl
    | true =>
      obtain ⟨i, hi, hd, _⟩ := q_kl_tb.mp ht
      rw [h i hi] at hd; cases hd
theorem sto_all {p : Nat → Bool} {n : Nat} : sto p n = 2 ^ n - 1 ↔ ∀ i, i < n → p i = true := by
  constructor
  · intro h i hi
    have := congrArg (fun x => x.testBit i) h
    simp only [sto_tb, Nat.testBit_two_pow_sub_one, decide_eq_true hi, Bool.true_and] at this
    exact this
  · intro h
    apply Nat.eq_of_testBit_eq
    intro i
    rw [sto_tb, Nat.testBit_two_pow_sub_one]
    by_cases hi : i < n
    · rw [h i hi, Bool.and_true]
    · rw [decide_eq_false hi]; rfl
theorem c_kindsLeft10 (hD : 2 ≤ D) {W : Nat → Int32} (h : CX M 10 W) : callw X D 226 [.inr (.inl 17), .inr (.inl 10)] (Gk n tot kn kx) M = some (nI (q_kl W (q_n W 98)), Gk n tot kn kx, M) :=
  Sq.eq (Sq.mk (k := 1) hD (fun D' hD' => by
    refine Lq.of (t_226_p17_p10_0_ok X (callw X D') n tot kn kx M) ?_
    unfold t_226_p17_p10_0
    obtain ⟨N, hN⟩ : ∃ N, q_n W 98 = N := ⟨_, rfl⟩
    obtain ⟨w1, w2⟩ := h.2.2.1.1.2.2.1
    have hk := h.2.2.1.2.2.2.2.2.1
    have hl := h.1.2.1.2.2.1
    rw [hN] at w1 w2 hk hl ⊢
    have e17 : M 17 0 = nI N := by rw [h.1.2.1.1]; exact w1
    rw [Wq_jmp, o_nI]
    have loop : ∀ c i : Nat, i + c = N → Lq X (callw X D') 226 4 [some (.inr (.inl 17)), some (.inr (.inl 10)), some (.inl (nI (q_kl W i))), some (.inl (nI i))] (Gk n tot kn kx) M (fun x M1 => x = nI (q_kl W N) ∧ M1 = M) := by
      intro c
      induction c with
      | zero =>
        intro i hi
        refine Lq.of (t_226_p17_p10_4_ok X (callw X D') n tot kn kx _ _ M) ?_
        unfold t_226_p17_p10_4
        rw [e17, if_neg (by rw [lt_i (by omega) (by omega)]; omega), Wq_ret, show i = N by omega]
        exact ⟨rfl, rfl⟩
      | succ c ih =>
        intro i hi
        refine Lq.of (t_226_p17_p10_4_ok X (callw X D') n tot kn kx _ _ M) ?_
        unfold t_226_p17_p10_4
        have hi2 : i < N := by omega
        have kk := (hk i hi2).1
        have kk2 := kk.2
        have e18 : M 18 i = nI (q_n W (142 + 3 * i)) := by rw [← kk.1]; exact hl i hi2
        have hnext := ih (i + 1) (by omega)
        rw [q_kl] at hnext
        simp only [o_nI]
        rw [e17, if_pos (by rw [lt_i (by omega) (by omega)]; omega), if_pos (by rw [lt_i (by omega) (by omega)]; omega), c_isDone10 hD' h (by rw [hN]; exact hi2), bnd_some]
        cases hd : q_doneB W i with
        | true =>
          rw [hd, if_pos rfl] at hnext
          rw [if_neg (by decide), Wq_jmp, i1_nI, nI_add]
          exact hnext
        | false =>
          rw [hd, if_neg (by decide)] at hnext
          rw [if_pos (by rfl), inb_nI (by omega) (by decide), if_pos rfl, nI_clamp (by omega), e18, Wq_jmp, i1_nI, nI_add, nI_shl (by omega), nI_or, Nat.one_mul]
          exact hnext
    exact loop N 0 (by omega)))
theorem c_kindsLeft87 (hD : 2 ≤ D) {W : Nat → Int32} (h : CX M 87 W) : callw X D 226 [.inr (.inl 17), .inr (.inl 87)] (Gk n tot kn kx) M = some (nI (q_kl W (q_n W 98)), Gk n tot kn kx, M) :=
  Sq.eq (Sq.mk (k := 1) hD (fun D' hD' => by
    refine Lq.of (t_226_p17_p87_0_ok X (callw X D') n tot kn kx M) ?_
    unfold t_226_p17_p87_0
    obtain ⟨N, hN⟩ : ∃ N, q_n W 98 = N := ⟨_, rfl⟩
    obtain ⟨w1, w2⟩ := h.2.2.1.1.2.2.1
    have hk := h.2.2.1.2.2.2.2.2.1
    have hl := h.1.2.1.2.2.1
    rw [hN] at w1 w2 hk hl ⊢
    have e17 : M 17 0 = nI N := by rw [h.1.2.1.1]; exact w1
    rw [Wq_jmp, o_nI]
    have loop : ∀ c i : Nat, i + c = N → Lq X (callw X D') 226 4 [some (.inr (.inl 17)), some (.inr (.inl 87)), some (.inl (nI (q_kl W i))), some (.inl (nI i))] (Gk n tot kn kx) M (fun x M1 => x = nI (q_kl W N) ∧ M1 = M) := by
      intro c
      induction c with
      | zero =>
        intro i hi
        refine Lq.of (t_226_p17_p87_4_ok X (callw X D') n tot kn kx _ _ M) ?_
        unfold t_226_p17_p87_4
        rw [e17, if_neg (by rw [lt_i (by omega) (by omega)]; omega), Wq_ret, show i = N by omega]
        exact ⟨rfl, rfl⟩
      | succ c ih =>
        intro i hi
        refine Lq.of (t_226_p17_p87_4_ok X (callw X D') n tot kn kx _ _ M) ?_
        unfold t_226_p17_p87_4
        have hi2 : i < N := by omega
        have kk := (hk i hi2).1
        have kk2 := kk.2
        have e18 : M 18 i = nI (q_n W (142 + 3 * i)) := by rw [← kk.1]; exact hl i hi2
        have hnext := ih (i + 1) (by omega)
        rw [q_kl] at hnext
        simp only [o_nI]
        rw [e17, if_pos (by rw [lt_i (by omega) (by omega)]; omega), if_pos (by rw [lt_i (by omega) (by omega)]; omega), c_isDone87 hD' h (by rw [hN]; exact hi2), bnd_some]
        cases hd : q_doneB W i with
        | true =>
          rw [hd, if_pos rfl] at hnext
          rw [if_neg (by decide), Wq_jmp, i1_nI, nI_add]
          exact hnext
        | false =>
          rw [hd, if_neg (by decide)] at hnext
          rw [if_pos (by rfl), inb_nI (by omega) (by decide), if_pos rfl, nI_clamp (by omega), e18, Wq_jmp, i1_nI, nI_add, nI_shl (by omega), nI_or, Nat.one_mul]
          exact hnext
    exact loop N 0 (by omega)))
def q_ready (W : Nat → Int32) : Int32 := match q_find (fun k => decide (q_kl (q_th W k).1 (q_n W 98) = 0)) 100 with | none => -1 | some k => (q_th W k).1 0
theorem m_allWorks (hD : 1 ≤ D) {N : Nat} (h : M 179 98 = nI N) (hN : N ≤ 8) : callw X D 245 [.inr (.inl 178)] (Gk n tot kn kx) M = some (nI (2 ^ N - 1), Gk n tot kn kx, M) :=
  ex1 hD (fun cl => t_245_0_ok X cl n tot kn kx M) (fun cl => by
    unfold t_245_0
    have : 1 ≤ 2 ^ N := Nat.one_le_two_pow
    rw [h, o_nI, nI_shl (by omega), Nat.one_mul, nI_sub this])
set_option maxHeartbeats 4000000 in
theorem P_ready (hD : 9 ≤ D) {len s : Nat} (h : Rl kn len s M) : Pr X D 290 291 [.inr (.inl 0)] [.inr (.inl 178)] (Gk n tot kn kx) M (Rl kn len s) := by
  have hX := h.1.1
  obtain ⟨N, hN⟩ : ∃ N, q_n (M 179) 98 = N := ⟨_, rfl⟩
  obtain ⟨w1, w2⟩ := hX.2.2.1.1.2.2.1
  rw [hN] at w1 w2
  have n98 : ∀ k, q_n (q_th (M 179) k).1 98 = N := fun k => by rw [q_n_eq ((q_th_ok hX.2.2.1 hX.2.2.2 k).1 98 (by unfold mvI; omega))]; exact hN
  refine Pr.mk (Q1 := fun x M1 => x = q_ready (M 179) ∧ Fr [87, 88, 89, 90, 91, 92, 93, 121, 122, 123] M M1) (Sq.mk (k := 8) hD (fun D' hD' => ?_)) ?_
  · refine Lq.of (t_290_0_ok X (callw X D') n tot kn kx M) ?_
    unfold t_290_0
    simp only [o_nI]
    refine Wq.call (c_think (N := 0) (show 7 ≤ D' by omega) (by decide) hX) ?_
    rintro x M1 hk
    rw [Wq_jmp]
    have loop : ∀ (c k : Nat) (M3 : MMw), k + c = 100 → (∀ j, j < k → decide (q_kl (q_th (M 179) j).1 (q_n (M 179) 98) = 0) = false) → TkP M (M 179) k M3 → Lq X (callw X D') 290 7 [some (.inr (.inl 0)), some (.inl (nI k))] (Gk n tot kn kx) M3 (fun x M4 => x = q_ready (M 179) ∧ Fr [87, 88, 89, 90, 91, 92, 93, 121, 122, 123] M M4) := by
      intro c
      induction c with
      | zero =>
        intro k M3 hkc hno h3
        refine Lq.of (t_290_7_ok X (callw X D') n tot kn kx _ M3) ?_
        unfold t_290_7
        simp only [o_nI, m1n]
        rw [if_pos (by rw [lt_i (by omega) (by omega)]; omega), Wq_ret]
        refine ⟨?_, h3.2.1⟩
        unfold q_ready
        rw [q_find_none.mpr (fun j hj => hno j (by omega))]
      | succ c ih =>
        intro k M3 hkc hno h3
        refine Lq.of (t_290_7_ok X (callw X D') n tot kn kx _ M3) ?_
        unfold t_290_7
        simp only [o_nI, m1n, z_nI]
        have hlt := q_kl_lt (W := (q_th (M 179) k).1) (n := N) (fun i hi => ((h3.1.2.2.1.2.2.2.2.2.1 i (by rw [n98 k]; exact hi)).1).2)
        rw [if_neg (by rw [lt_i (by omega) (by omega)]; omega), c_kindsLeft87 (by omega) h3.1, bnd_some, n98 k]
        by_cases hz : q_kl (q_th (M 179) k).1 N = 0
        · rw [if_pos (by rw [hz]), Wq_ret]
          refine ⟨?_, h3.2.1⟩
          unfold q_ready
          rw [q_find_at hno (decide_eq_true (by rw [hN]; exact hz)) (by omega)]
          exact h3.1.2.1.1
        · rw [if_neg (by rw [eq_i (by omega) (by omega)]; exact hz)]
          refine Wq.call (c_tk_pass (show 6 ≤ D' by omega) hX.2.2.1 hX.2.2.2 (by omega) h3) ?_
          rintro z M4 h4
          rw [Wq_jmp, i1_nI, nI_add]
          refine ih (k + 1) M4 (by omega) ?_ h4
          intro j hj
          rcases Nat.lt_or_ge j k with hl | hl
          · exact hno j hl
          · rw [show j = k by omega, hN]; exact decide_eq_false hz
    exact loop 100 0 M1 (by omega) (fun j hj => absurd hj (Nat.not_lt_zero j)) hk
  · rintro x M1 ⟨rfl, f1⟩
    have e9 : M1 179 = M 179 := f1 179 (by decide)
    refine Sq.mk (k := 8) hD (fun D' hD' => ?_)
    refine Lq.of (t_291_0_ok X (callw X D') n tot kn kx M1) ?_
    unfold t_291_0
    simp only [o_nI, m1n]
    refine Wq.call (m_aside (show 1 ≤ D' by omega)) ?_
    rintro x M2 ⟨f2, g2⟩
    rw [Wq_jmp]
    have fin : ∀ (M3 : MMw) (W' : Nat → Int32) (y : Int32), TmP M1 (M 179) W' M3 → y = q_ready (M 179) → ∀ f : Int32 → GGw → MMw → Option TRw, (∀ x M', f x (Gk n tot kn kx) M' = some (.inl (y, Gk n tot kn kx, M'))) → Wq X (callw X D') 291 (Gk n tot kn kx) (fun y M4 => y = q_ready (M 179) ∧ Rl kn len s M4) (bnd (callw X D' 277 [.inr (.inl 178)] (Gk n tot kn kx) M3) f) := by
      intro M3 W' y h3 hy f hf
      refine Wq.call (m_back (show 1 ≤ D' by omega)) ?_
      rintro z M4 ⟨f4, g4⟩
      have hb := h3.back f4 g4
      rw [hf, Wq_ret]
      exact ⟨hy, h.thought f1 hb.2.1 hb.2.2 hb.1⟩
    have hset : ∀ (k : Nat) (M3 : MMw), TmP M1 (M 179) (q_th (M 179) k).1 M3 → callw X D' 78 [.inr (.inl 178)] (Gk n tot kn kx) M3 = some (nI (sto (q_doneB (q_th (M 179) k).1) N), Gk n tot kn kx, M3) ∧ callw X D' 245 [.inr (.inl 178)] (Gk n tot kn kx) M3 = some (nI (2 ^ N - 1), Gk n tot kn kx, M3) := by
      intro k M3 h3
      have hyk : q_invY (M3 179) := by rw [h3.1]; exact hX.2.2.1.ch (q_th_ok hX.2.2.1 hX.2.2.2 k).1
      refine ⟨?_, m_allWorks (by omega) (by rw [h3.1, (q_th_ok hX.2.2.1 hX.2.2.2 k).1 98 (by unfold mvI; omega)]; exact w1) (by omega)⟩
      have := m_doneSet (X := X) (n := n) (tot := tot) (kn := kn) (kx := kx) (M := M3) (show 3 ≤ D' by omega) hyk
      rw [h3.1, n98 k] at this
      exact this
    have hdone : ∀ k, (nI (sto (q_doneB (q_th (M 179) k).1) N) = nI (2 ^ N - 1)) = (q_kl (q_th (M 179) k).1 N = 0) := by
      intro k
      have h1 := sto_le (p := q_doneB (q_th (M 179) k).1) (n := N) (m := 8) (by omega)
      have h2 : 2 ^ N ≤ 2 ^ 8 := Nat.pow_le_pow_right (by decide) (by omega)
      rw [eq_i (by omega) (by omega)]
      apply propext
      rw [sto_all, q_kl_0]
    -- once done: nothing more happens
    have stay : ∀ (c j k : Nat) (M3 : MMw), j + c = 100 → TmP M1 (M 179) (q_th (M 179) k).1 M3 → q_kl (q_th (M 179) k).1 N = 0 → (q_th (M 179) k).1 0 = q_ready (M 179) → Lq X (callw X D') 291 8 [some (.inr (.inl 178)), some (.inl ((q_th (M 179) k).1 0)), some (.inl (nI j))] (Gk n tot kn kx) M3 (fun y M4 => y = q_ready (M 179) ∧ Rl kn len s M4) := by
      intro c
      induction c with
      | zero =>
        intro j k M3 hj h3 hz hr
        refine Lq.of (t_291_8_ok X (callw X D') n tot kn kx _ _ M3) ?_
        unfold t_291_8
        simp only [o_nI, m1n]
        rw [if_pos (by rw [lt_i (by omega) (by omega)]; omega)]
        refine fin M3 _ ((q_th (M 179) k).1 0) h3 hr _ ?_
        intro _ _; rfl
      | succ c ih =>
        intro j k M3 hj h3 hz hr
        refine Lq.of (t_291_8_ok X (callw X D') n tot kn kx _ _ M3) ?_
        unfold t_291_8
        simp only [o_nI, m1n]
        rw [if_neg (by rw [lt_i (by omega) (by omega)]; omega)]
        by_cases hm : (q_th (M 179) k).1 0 = -1
        · rw [if_pos hm, (hset k M3 h3).1, bnd_some, (hset k M3 h3).2, bnd_some, if_pos (by rw [hdone k]; exact hz), Wq_jmp, h3.1, i1_nI, nI_add]
          exact ih (j + 1) k M3 (by omega) h3 hz hr
        · rw [if_neg hm]
          refine fin M3 _ ((q_th (M 179) k).1 0) h3 hr _ ?_
          intro _ _; rfl
    have loop : ∀ (c k : Nat) (M3 : MMw), k + c = 100 → (∀ j, j < k → decide (q_kl (q_th (M 179) j).1 (q_n (M 179) 98) = 0) = false) → TmP M1 (M 179) (q_th (M 179) k).1 M3 → Lq X (callw X D') 291 8 [some (.inr (.inl 178)), some (.inl (-1)), some (.inl (nI k))] (Gk n tot kn kx) M3 (fun y M4 => y = q_ready (M 179) ∧ Rl kn len s M4) := by
      intro c
      induction c with
      | zero =>
        intro k M3 hkc hno h3
        refine Lq.of (t_291_8_ok X (callw X D') n tot kn kx _ _ M3) ?_
        unfold t_291_8
        simp only [o_nI, m1n]
        rw [if_pos (by rw [lt_i (by omega) (by omega)]; omega)]
        refine fin M3 _ (-1) h3 ?_ _ ?_
        · unfold q_ready
          rw [q_find_none.mpr (fun j hj => hno j (by omega))]
        · intro _ _; rfl
      | succ c ih =>
        intro k M3 hkc hno h3
        refine Lq.of (t_291_8_ok X (callw X D') n tot kn kx _ _ M3) ?_
        unfold t_291_8
        simp only [o_nI, m1n]
        rw [if_neg (by rw [lt_i (by omega) (by omega)]; omega), if_pos trivial, (hset k M3 h3).1, bnd_some, (hset k M3 h3).2, bnd_some]
        by_cases hz : q_kl (q_th (M 179) k).1 N = 0
        · rw [if_pos (by rw [hdone k]; exact hz), Wq_jmp, h3.1, i1_nI, nI_add]
          refine stay c (k + 1) k M3 (by omega) h3 hz ?_
          unfold q_ready
          rw [q_find_at hno (decide_eq_true (by rw [hN]; exact hz)) (by omega)]
        · rw [if_neg (by rw [hdone k]; exact hz)]
          refine Wq.call (m_tm_hour (show 8 ≤ D' by omega) hX.2.2.1 hX.2.2.2 hX.1.2.2.2.1.2.2 hX.1.2.2.2.2.2.2 h3) ?_
          rintro y M4 ⟨rfl, h4, _⟩
          rw [Wq_jmp, i1_nI, nI_add]
          refine ih (k + 1) M4 (by omega) ?_ h4
          intro j hj
          rcases Nat.lt_or_ge j k with hl | hl
          · exact hno j hl
          · rw [show j = k by omega, hN]; exact decide_eq_false hz
    refine loop 100 0 M2 (by omega) (fun j hj => absurd hj (Nat.not_lt_zero j)) ⟨?_, q_low.rf, f2.mono (by decide), Fh.of (f2 178 (by decide)), fun k hk => by rw [g2 k hk, e9]⟩
    rw [f2 179 (by decide)]; exact e9
/-! lasts -/
def q_ws (W : Nat → Int32) (t m : Nat) : Nat → Nat → Int32
  | 0 => W
  | n + 1 => q_wears (q_ws W t m n) t m
theorem q_ws_ok {W : Nat → Int32} {t m : Nat} (ht : t < q_n W 96) (hy : q_invY W) (hm : q_invM W) : ∀ n, sameY W (q_ws W t m n) ∧ q_invM (q_ws W t m n) ∧ q_low W (q_ws W t m n)
  | 0 => ⟨sameY.rf, hm, q_low.rf⟩
  | n + 1 => by
    obtain ⟨h1, h2, h3⟩ := q_ws_ok ht hy hm n
    have b1 := hy.1.1.2
    have ht' : t < q_n (q_ws W t m n) 96 := by rw [q_n_eq (h1 96 (by unfold mvI; omega))]; exact ht
    exact ⟨h1.tr (q_wears_Y (by omega)), q_wears_M ht' (hy.ch h1) h2, h3.tr (q_wears_low (by omega))⟩
def q_lasts (W : Nat → Int32) (t m : Nat) : Int32 := match q_find (fun k => decide (q_ws W t m k (19 + 10 * t) = nI 0)) 100 with | none => -1 | some k => nI k
set_option maxHeartbeats 4000000 in
theorem P_lasts (hD : 8 ≤ D) {v1 v2 : Int32} {len s : Nat} (h : Rl kn len s M) : Pr X D 275 278 [.inr (.inl 0), .inl v1, .inl v2] [.inr (.inl 178), .inl v1, .inl v2] (Gk n tot kn kx) M (Rl kn len s) := by
  have hX := h.1.1
  obtain ⟨T, hT⟩ : ∃ T, q_n (M 179) 96 = T := ⟨_, rfl⟩
  obtain ⟨N, hN⟩ : ∃ N, q_n (M 179) 97 = N := ⟨_, rfl⟩
  obtain ⟨w1, w2⟩ := hX.2.2.1.1.1
  obtain ⟨w3, w4⟩ := hX.2.2.1.1.2.1
  rw [hT] at w1 w2; rw [hN] at w3 w4
  have e20 : M 2 0 = nI T := by rw [hX.1.1.1]; exact w1
  have e21 : M 2 1 = nI N := by rw [hX.1.1.2.1]; exact w3
  by_cases ok : q_is v1 T = true ∧ q_is v2 N = true
  · obtain ⟨o1, o2⟩ := ok
    obtain ⟨t, ht, rfl⟩ := q_is_t (by omega) o1
    obtain ⟨m, hm, rfl⟩ := q_is_t (by omega) o2
    have ht8 : t < 8 := by omega
    have wk := q_ws_ok (m := m) (show t < q_n (M 179) 96 by omega) hX.2.2.1 hX.2.2.2
    refine Pr.mk (Q1 := fun x M1 => x = q_lasts (M 179) t m ∧ Fr [87, 88, 89, 90, 91, 92, 93, 121, 122, 123] M M1) (Sq.mk (k := 7) hD (fun D' hD' => ?_)) ?_
    · refine Lq.of (t_275_0_ok X (callw X D') n tot kn kx _ _ M) ?_
      unfold t_275_0
      simp only [o_nI, m1n]
      rw [c_isTool (by omega) e20 (by omega), bnd_some, o1, if_neg (by decide), c_isMan (by omega) e21 (by omega), bnd_some, o2, if_neg (by decide)]
      refine Wq.call (c_mcopy_87_10 (show 3 ≤ D' by omega)) ?_
      rintro x M1 ⟨f1, _, g1⟩
      rw [Wq_jmp]
      have loop : ∀ (c k : Nat) (M3 : MMw), k + c = 100 → (∀ j, j < k → decide (q_ws (M 179) t m j (19 + 10 * t) = nI 0) = false) → CX M3 87 (q_ws (M 179) t m k) → Fr [87, 88, 89, 90, 91, 92, 93, 121, 122, 123] M M3 → Lq X (callw X D') 275 34 [some (.inr (.inl 0)), some (.inl (nI t)), some (.inl (nI m)), some (.inl (nI k))] (Gk n tot kn kx) M3 (fun x M4 => x = q_lasts (M 179) t m ∧ Fr [87, 88, 89, 90, 91, 92, 93, 121, 122, 123] M M4) := by
        intro c
        induction c with
        | zero =>
          intro k M3 hkc hno h3 hf
          refine Lq.of (t_275_34_ok X (callw X D') n tot kn kx _ _ _ M3) ?_
          unfold t_275_34
          simp only [o_nI, m1n]
          rw [if_pos (by rw [lt_i (by omega) (by omega)]; omega), Wq_ret]
          refine ⟨?_, hf⟩
          unfold q_lasts
          rw [q_find_none.mpr (fun j hj => hno j (by omega))]
        | succ c ih =>
          intro k M3 hkc hno h3 hf
          refine Lq.of (t_275_34_ok X (callw X D') n tot kn kx _ _ _ M3) ?_
          unfold t_275_34
          simp only [o_nI, m1n, z_nI]
          have e88 : M3 88 t = q_ws (M 179) t m k (19 + 10 * t) := h3.2.1.2.2.2.2.1 t ht8
          rw [if_neg (by rw [lt_i (by omega) (by omega)]; omega), inb_nI ht8 (by decide), if_pos rfl, nI_clamp (by omega), e88]
          by_cases hz : q_ws (M 179) t m k (19 + 10 * t) = nI 0
          · rw [if_pos hz, Wq_ret]
            refine ⟨?_, hf⟩
            unfold q_lasts
            rw [q_find_at hno (decide_eq_true hz) (by omega)]
          · rw [if_neg hz]
            refine Wq.call (c_work87 (show 4 ≤ D' by omega) (by rw [q_n_eq ((wk k).1 96 (by unfold mvI; omega))]; omega) (by omega) h3) ?_
            rintro z M4 ⟨h4, f4⟩
            rw [Wq_jmp, i1_nI, nI_add]
            refine ih (k + 1) M4 (by omega) ?_ h4 (hf.tr (f4.mono (by decide)))
            intro j hj
            rcases Nat.lt_or_ge j k with hl | hl
            · exact hno j hl
            · rw [show j = k by omega]; exact decide_eq_false hz
      exact loop 100 0 M1 (by omega) (fun j hj => absurd hj (Nat.not_lt_zero j)) ⟨hX.1.fr f1 (by decide) hX.2.2.1.1, g1 _ hX.2.1, hX.2.2⟩ (f1.mono (by decide))
    · rintro x M1 ⟨rfl, f1⟩
      have e9 : M1 179 = M 179 := f1 179 (by decide)
      refine Sq.mk (k := 7) hD (fun D' hD' => ?_)
      refine Lq.of (t_278_0_ok X (callw X D') n tot kn kx _ _ M1) ?_
      unfold t_278_0
      simp only [o_nI, m1n]
      rw [m_isTool (by omega) (by rw [e9]; exact w1) (by omega), bnd_some, o1, if_neg (by decide), m_isMan (by omega) (by rw [e9]; exact w3) (by omega), bnd_some, o2, if_neg (by decide)]
      refine Wq.call (m_aside (show 1 ≤ D' by omega)) ?_
      rintro x M2 ⟨f2, g2⟩
      rw [Wq_jmp]
      have fin : ∀ (M3 : MMw) (k : Nat) (y : Int32), TmP M1 (M 179) (q_ws (M 179) t m k) M3 → y = q_lasts (M 179) t m → ∀ f : Int32 → GGw → MMw → Option TRw, (∀ x M', f x (Gk n tot kn kx) M' = some (.inl (y, Gk n tot kn kx, M'))) → Wq X (callw X D') 278 (Gk n tot kn kx) (fun y M4 => y = q_lasts (M 179) t m ∧ Rl kn len s M4) (bnd (callw X D' 277 [.inr (.inl 178)] (Gk n tot kn kx) M3) f) := by
        intro M3 k y h3 hy f hf
        refine Wq.call (m_back (show 1 ≤ D' by omega)) ?_
        rintro z M4 ⟨f4, g4⟩
        have hb := h3.back f4 g4
        rw [hf, Wq_ret]
        exact ⟨hy, h.thought f1 hb.2.1 hb.2.2 hb.1⟩
      have loop : ∀ (c k : Nat) (M3 : MMw), k + c = 99 → (∀ j, j < k → decide (q_ws (M 179) t m j (19 + 10 * t) = nI 0) = false) → TmP M1 (M 179) (q_ws (M 179) t m k) M3 → Lq X (callw X D') 278 24 [some (.inr (.inl 178)), some (.inl (nI t)), some (.inl (nI m)), some (.inl (nI k)), none] (Gk n tot kn kx) M3 (fun y M4 => y = q_lasts (M 179) t m ∧ Rl kn len s M4) := by
        intro c
        induction c with
        | zero =>
          intro k M3 hkc hno h3
          have e : k = 99 := by omega
          subst e
          have e3 : M3 179 (16 + 10 * t + 3) = q_ws (M 179) t m 99 (19 + 10 * t) := by rw [h3.1, show 16 + 10 * t + 3 = 19 + 10 * t by omega]
          refine Lq.of (t_278_24_ok X (callw X D') n tot kn kx _ _ _ M3) ?_
          unfold t_278_24
          simp only [o_nI, m1n, z_nI]
          rw [if_neg (by decide +kernel), m_ofTool (by omega) (by omega), bnd_some, e3]
          by_cases hz : q_ws (M 179) t m 99 (19 + 10 * t) = nI 0
          · rw [if_pos hz]
            refine fin M3 99 (nI 99) h3 ?_ _ ?_
            · unfold q_lasts
              rw [q_find_at hno (decide_eq_true hz) (by decide)]
            · intro _ _; rfl
          · rw [if_neg hz]
            refine fin M3 99 (-1) h3 ?_ _ ?_
            · unfold q_lasts
              rw [q_find_none.mpr (fun j hj => by
                rcases Nat.lt_or_ge j 99 with hl | hl
                · exact hno j hl
                · rw [show j = 99 by omega]; exact decide_eq_false hz)]
            · intro _ _; rfl
        | succ c ih =>
          intro k M3 hkc hno h3
          have e3 : M3 179 (16 + 10 * t + 3) = q_ws (M 179) t m k (19 + 10 * t) := by rw [h3.1, show 16 + 10 * t + 3 = 19 + 10 * t by omega]
          have hed := ((wk k).2.1.2.2.2.1 t ht8).1
          refine Lq.of (t_278_24_ok X (callw X D') n tot kn kx _ _ _ M3) ?_
          unfold t_278_24
          simp only [o_nI, m1n, z_nI]
          rw [if_pos (by rw [lt_i (by omega) (by omega)]; omega), m_ofTool (by omega) (by omega), bnd_some, e3]
          by_cases hz : q_ws (M 179) t m k (19 + 10 * t) = nI 0
          · rw [if_neg (by rw [hz]; decide +kernel), m_ofTool (by omega) (by omega), bnd_some, e3, if_pos hz]
            refine fin M3 k (nI k) h3 ?_ _ ?_
            · unfold q_lasts
              rw [q_find_at hno (decide_eq_true hz) (by omega)]
            · intro _ _; rfl
          · rw [if_pos (by
              have hlt := hed.2
              rw [hed.1] at hz ⊢
              rw [eq_i (by omega) (by omega)] at hz
              rw [lt_i (by omega) (by omega)]
              omega)]
            refine Wq.call (m_wears (C := M (1 + 36 + 5)) (show 6 ≤ D' by omega) ht8 (show m < 4 by omega) (by rw [h3.1]; exact hX.1.2.2.2.2.2.2.ch (by decide) (wk k).1)) ?_
            rintro y M4 ⟨h4, f4⟩
            rw [Wq_jmp, i1_nI, nI_add]
            rw [h3.1] at h4
            refine ih (k + 1) M4 (by omega) ?_ ⟨h4, (wk (k + 1)).2.2, h3.2.2.1.tr (f4.mono (by decide)), h3.2.2.2.1.tr (Fh.of (f4 178 (by decide))), fun j hj => by rw [f4 182 (by decide)]; exact h3.2.2.2.2 j hj⟩
            intro j hj
            rcases Nat.lt_or_ge j k with hl | hl
            · exact hno j hl
            · rw [show j = k by omega]; exact decide_eq_false hz
      refine loop 99 0 M2 (by omega) (fun j hj => absurd hj (Nat.not_lt_zero j)) ⟨?_, q_low.rf, f2.mono (by decide), Fh.of (f2 178 (by decide)), fun k hk => by rw [g2 k hk, e9]⟩
      rw [f2 179 (by decide)]; exact e9
  · refine Pr.mk (Q1 := fun x M1 => x = -1 ∧ M1 = M) (Sq.mk (k := 7) hD (fun D' hD' => ?_)) ?_
    · refine Lq.of (t_275_0_ok X (callw X D') n tot kn kx _ _ M) ?_
      unfold t_275_0
      simp only [o_nI, m1n]
      rw [c_isTool (by omega) e20 (by omega), bnd_some]
      cases q1 : q_is v1 T with
      | false => rw [if_pos (by rfl), Wq_ret]; exact ⟨rfl, rfl⟩
      | true =>
      rw [if_neg (by decide), c_isMan (by omega) e21 (by omega), bnd_some]
      cases q2 : q_is v2 N with
      | false => rw [if_pos (by rfl), Wq_ret]; exact ⟨rfl, rfl⟩
      | true => exact absurd ⟨q1, q2⟩ ok
    · rintro x M1 ⟨rfl, rfl⟩
      refine Sq.mk (k := 7) hD (fun D' hD' => ?_)
      refine Lq.of (t_278_0_ok X (callw X D') n tot kn kx _ _ M1) ?_
      unfold t_278_0
      simp only [o_nI, m1n]
      rw [m_isTool (by omega) w1 (by omega), bnd_some]
      cases q1 : q_is v1 T with
      | false => rw [if_pos (by rfl), Wq_ret]; exact ⟨rfl, h⟩
      | true =>
      rw [if_neg (by decide), m_isMan (by omega) w3 (by omega), bnd_some]
      cases q2 : q_is v2 N with
      | false => rw [if_pos (by rfl), Wq_ret]; exact ⟨rfl, h⟩
      | true => exact absurd ⟨q1, q2⟩ ok
end
