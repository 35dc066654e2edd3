section
-- needs: think
/-! runs, idle, dull, ready, lasts -/
variable {X : KXw} {n tot kn D : Nat} {kx : Nat → Nat × Nat} {M : MMw}
theorem q_first_cl {r : Nat} {ll : Int32} {fr : Option Nat} (h : r = 0 ↔ ll = -1) : q_first ll fr = q_cl r ll fr := by
  unfold q_first q_cl
  cases fr with
  | none => rfl
  | some k =>
    dsimp only
    by_cases e : r = 0
    · rw [if_pos e, if_pos (h.mp e)]
    · rw [if_neg e, if_neg (fun e2 => e (h.mpr e2))]
theorem q_fhour_cf {r : Nat} {ll hh w : Int32} {fr : Option Nat} (h : r = 0 ↔ ll = -1) : q_fhour ll hh w fr = q_cf r hh w fr := by
  unfold q_fhour q_cf
  cases fr with
  | none => rfl
  | some k =>
    dsimp only
    by_cases e : r = 0
    · rw [if_pos e, if_pos (h.mp e)]
    · rw [if_neg e, if_neg (fun e2 => e (h.mpr e2))]
def q_runs (s : Th) (w : Nat) : Int32 := if w = 0 then nI s.2.1 else if w = 1 then nI s.2.2.1 else if w = 2 then s.2.2.2.1 else s.2.2.2.2
set_option maxHeartbeats 4000000 in
theorem P_runs (hD : 9 ≤ D) {v1 v2 : Int32} {len s : Nat} (h : Rl kn len s M) : Pr X D 280 281 [.inr (.inl 0), .inl v1, .inl v2] [.inr (.inl 178), .inl v1, .inl v2] (Gk n tot kn kx) M (Rl kn len s) := by
  have hX := h.1.1
  by_cases ok : q_in v1 1 99 = true ∧ q_in v2 0 3 = true
  · obtain ⟨o1, o2⟩ := ok
    obtain ⟨N, n1, n2, rfl⟩ := q_in_t (by decide) (by decide) o1
    obtain ⟨w, _, hw, rfl⟩ := q_in_t (by decide) (by decide) o2
    have w4 : w = 0 ∨ w = 1 ∨ w = 2 ∨ w = 3 := by omega
    refine Pr.mk (Q1 := fun x M1 => x = q_runs (q_th (M 179) N) w ∧ TkP M (M 179) N M1) (Sq.mk (k := 8) hD (fun D' hD' => ?_)) ?_
    · refine Lq.of (t_280_0_ok X (callw X D') n tot kn kx _ _ M) ?_
      unfold t_280_0
      simp only [o_nI]
      rw [if_neg (by rw [lt_i (by omega) (by omega)]; omega), if_neg (by rw [lt_i (by omega) (by omega)]; omega), c_in (by omega), bnd_some, o2, if_neg (by decide)]
      refine Wq.call (c_think (show 7 ≤ D' by omega) n2 hX) ?_
      rintro x M1 hk
      obtain ⟨k1, k2, k3, k4, k5, k6, k7⟩ := id hk
      rcases w4 with rfl | rfl | rfl | rfl
      · rw [if_pos rfl, Wq_ret]; exact ⟨k3, hk⟩
      · rw [if_neg (by decide +kernel), if_pos rfl, Wq_ret]; exact ⟨k4, hk⟩
      · rw [if_neg (by decide +kernel), if_neg (by decide +kernel), if_pos rfl, Wq_ret]; exact ⟨k5, hk⟩
      · rw [if_neg (by decide +kernel), if_neg (by decide +kernel), if_neg (by decide +kernel), Wq_ret]; exact ⟨k6, hk⟩
    · rintro x M1 ⟨rfl, hk⟩
      have f1 := hk.2.1
      have e9 : M1 179 = M 179 := f1 179 (by decide)
      refine Sq.mk (k := 8) hD (fun D' hD' => ?_)
      refine Lq.of (t_281_0_ok X (callw X D') n tot kn kx _ _ M1) ?_
      unfold t_281_0
      simp only [o_nI, m1n]
      rw [m_in (by omega), bnd_some, o1, if_neg (by decide), m_in (by omega), bnd_some, o2, if_neg (by decide)]
      refine Wq.call (m_aside (show 1 ≤ D' by omega)) ?_
      rintro x M2 ⟨f2, g2⟩
      rw [Wq_jmp]
      have loop : ∀ (c k : Nat) (M3 : MMw), k + c = N → TmP M1 (M 179) (q_th (M 179) k).1 M3 → M3 178 27 = (q_th (M 179) k).2.2.2.2 → M3 178 28 = (q_th (M 179) k).2.2.2.1 → M3 178 29 = nI (q_th (M 179) k).2.1 → Lq X (callw X D') 281 45 [some (.inr (.inl 178)), some (.inl (nI N)), some (.inl (nI w)), some (.inl (nI (q_th (M 179) k).2.2.1)), some (.inl (nI k))] (Gk n tot kn kx) M3 (fun y M4 => y = q_runs (q_th (M 179) N) w ∧ Rl kn len s M4) := by
        intro c
        induction c with
        | zero =>
          intro k M3 hkc h3 c27 c28 c29
          have e : k = N := by omega
          subst e
          refine Lq.of (t_281_45_ok X (callw X D') n tot kn kx _ _ _ _ M3) ?_
          unfold t_281_45
          simp only [o_nI]
          rw [if_neg (by rw [lt_i (by omega) (by omega)]; omega)]
          refine Wq.call (m_back (show 1 ≤ D' by omega)) ?_
          rintro y M4 ⟨f4, g4⟩
          have hb := h3.back f4 g4
          have hR := h.thought f1 hb.2.1 hb.2.2 hb.1
          rw [← f4 178 (by decide)] at c27 c28 c29
          rcases w4 with rfl | rfl | rfl | rfl
          · rw [if_pos rfl, Wq_ret]; exact ⟨c29, hR⟩
          · rw [if_neg (by decide +kernel), if_pos rfl, Wq_ret]; exact ⟨rfl, hR⟩
          · rw [if_neg (by decide +kernel), if_neg (by decide +kernel), if_pos rfl, Wq_ret]; exact ⟨c28, hR⟩
          · rw [if_neg (by decide +kernel), if_neg (by decide +kernel), if_neg (by decide +kernel), Wq_ret]; exact ⟨c27, hR⟩
        | succ c ih =>
          intro k M3 hkc h3 c27 c28 c29
          refine Lq.of (t_281_45_ok X (callw X D') n tot kn kx _ _ _ _ M3) ?_
          unfold t_281_45
          simp only [o_nI]
          rw [if_pos (by rw [lt_i (by omega) (by omega)]; omega)]
          refine Wq.call (m_tm_hour (show 8 ≤ D' by omega) hX.2.2.1 hX.2.2.2 hX.1.2.2.2.1.2.2 hX.1.2.2.2.2.2.2 h3) ?_
          rintro y M4 ⟨rfl, h4, d27, d28, d29⟩
          have hi := (q_th_ok hX.2.2.1 hX.2.2.2 k).2.2.2.2
          rw [Wq_jmp, i1_nI, nI_add, nI_add]
          refine ih (k + 1) M4 (by omega) h4 ?_ ?_ ?_
          · rw [d27, c27, q_first_cl hi]; rfl
          · rw [d28, c27, c28, q_fhour_cf hi]; rfl
          · rw [d29, c29, nI_add]; rfl
      refine loop N 0 _ (by omega) ⟨?_, q_low.rf, ?_, ?_, ?_⟩ ?_ ?_ ?_
      · rw [up_ne (by decide), up_ne (by decide), up_ne (by decide), f2 179 (by decide)]; exact e9
      · exact (((f2.mono (by decide)).up (by decide)).up (by decide)).up (by decide)
      · exact ((Fh.up (Fh.of (f2 178 (by decide))) (by omega)).up (by omega)).up (by omega)
      · intro k hk
        rw [up_ne (by decide), up_ne (by decide), up_ne (by decide), g2 k hk, e9]
      · rw [up_at, upW_n (by decide), up_at, upW_n (by decide), up_at, upW_s]; rfl
      · rw [up_at, upW_n (by decide), up_at, upW_s]; rfl
      · rw [up_at, upW_s]; rfl
  · refine Pr.mk (Q1 := fun x M1 => x = -1 ∧ M1 = M) (Sq.mk (k := 8) hD (fun D' hD' => ?_)) ?_
    · refine Lq.of (t_280_0_ok X (callw X D') n tot kn kx _ _ M) ?_
      unfold t_280_0
      simp only [o_nI, m1n]
      by_cases c1 : v1 < nI 1
      · rw [if_pos c1, Wq_ret]; exact ⟨rfl, rfl⟩
      rw [if_neg c1]
      by_cases c2 : nI 99 < v1
      · rw [if_pos c2, Wq_ret]; exact ⟨rfl, rfl⟩
      rw [if_neg c2, c_in (by omega), bnd_some]
      cases q2 : q_in v2 0 3 with
      | false => rw [if_pos (by rfl), Wq_ret]; exact ⟨rfl, rfl⟩
      | true =>
        exfalso
        refine ok ⟨?_, q2⟩
        unfold q_in
        rw [decide_eq_false c1, decide_eq_false c2]
        rfl
    · rintro x M1 ⟨rfl, rfl⟩
      refine Sq.mk (k := 8) hD (fun D' hD' => ?_)
      refine Lq.of (t_281_0_ok X (callw X D') n tot kn kx _ _ M1) ?_
      unfold t_281_0
      simp only [o_nI, m1n]
      rw [m_in (by omega), bnd_some]
      cases q1 : q_in v1 1 99 with
      | false => rw [if_pos (by rfl), Wq_ret]; exact ⟨rfl, h⟩
      | true =>
      rw [if_neg (by decide), m_in (by omega), bnd_some]
      cases q2 : q_in v2 0 3 with
      | false => rw [if_pos (by rfl), Wq_ret]; exact ⟨rfl, h⟩
      | true => exact absurd ⟨q1, q2⟩ ok
/-! idle -/
theorem c_allTools (hD : 1 ≤ D) {T : Nat} (h : M 2 0 = nI T) (hT : T ≤ 8) : callw X D 180 [.inr (.inl 2)] (Gk n tot kn kx) M = some (nI (2 ^ T - 1), Gk n tot kn kx, M) :=
  ex1 hD (fun cl => t_180_p2_0_ok X cl n tot kn kx M) (fun cl => by
    unfold t_180_p2_0
    have : 1 ≤ 2 ^ T := Nat.one_le_two_pow
    rw [h, o_nI, nI_shl (by omega), Nat.one_mul, nI_sub this])
theorem idle_eq {e T : Nat} {p : Nat → Bool} (hT : T ≤ 8) (h : ∀ t, t < T → p t = !e.testBit t) : nI (2 ^ T - 1) &&& (nI e ^^^ -1) = nI (sto p T) := by
  rw [nI_not, nI_and]
  congr 1
  apply Nat.eq_of_testBit_eq
  intro i
  rw [Nat.testBit_and, Nat.testBit_xor, Nat.testBit_two_pow_sub_one, show (4294967295 : Nat) = 2 ^ 32 - 1 from rfl, Nat.testBit_two_pow_sub_one, sto_tb]
  by_cases hi : i < T
  · rw [h i hi, decide_eq_true hi, decide_eq_true (show i < 32 by omega)]
    cases e.testBit i <;> rfl
  · rw [decide_eq_false hi]; rfl
theorem addI_z {x : Int32} {c : Nat} (hc : c < 2 ^ 31) : (x + nI c = x) = (c = 0) := by
  apply propext
  constructor
  · intro h
    have h2 : nI c = nI 0 := by
      have h3 : x + nI c = x + nI 0 := by rw [h]; exact (Int32.add_zero x).symm
      apply Int32.toBitVec_inj.mp
      have h4 := congrArg Int32.toBitVec h3
      rw [Int32.toBitVec_add, Int32.toBitVec_add] at h4
      exact (BitVec.add_right_inj _).mp h4
    rw [eq_i hc (by decide)] at h2
    exact h2
  · intro h
    rw [h]; exact Int32.add_zero x
set_option maxHeartbeats 4000000 in
theorem P_idle (hD : 9 ≤ D) {v1 : Int32} {len s : Nat} (h : Rl kn len s M) : Pr X D 282 283 [.inr (.inl 0), .inl v1] [.inr (.inl 178), .inl v1] (Gk n tot kn kx) M (Rl kn len s) := by
  have hX := h.1.1
  by_cases o1 : q_in v1 1 99 = true
  · obtain ⟨N, n1, n2, rfl⟩ := q_in_t (by decide) (by decide) o1
    obtain ⟨T, hT⟩ : ∃ T, q_n (M 179) 96 = T := ⟨_, rfl⟩
    obtain ⟨w1, w2⟩ := hX.2.2.1.1.1
    rw [hT] at w1 w2
    refine Pr.mk (Q1 := fun x M1 => x = nI (sto (fun t => decide ((q_th (M 179) N).1 (24 + 10 * t) = M 179 (24 + 10 * t))) T) ∧ TkP M (M 179) N M1) (Sq.mk (k := 8) hD (fun D' hD' => ?_)) ?_
    · refine Lq.of (t_282_0_ok X (callw X D') n tot kn kx _ M) ?_
      unfold t_282_0
      simp only [o_nI, m1n]
      rw [if_neg (by rw [lt_i (by omega) (by omega)]; omega), if_neg (by rw [lt_i (by omega) (by omega)]; omega)]
      refine Wq.call (c_think (show 7 ≤ D' by omega) n2 hX) ?_
      rintro x M1 hk
      obtain ⟨k1, k2, k3, k4, k5, k6, e, he, k7, k8⟩ := id hk
      rw [c_allTools (by omega) (by rw [k2 2 (by decide), hX.1.1.1]; exact w1) (by omega), bnd_some, Wq_ret, k7]
      refine ⟨idle_eq (by omega) (fun t ht => ?_), hk⟩
      obtain ⟨c, c1, c2, c3⟩ := k8 t (by rw [hT]; exact ht)
      simp only [c2, c3, addI_z (show c < 2 ^ 31 by omega)]
      rw [← decide_not, decide_eq_decide]
      omega
    · rintro x M1 ⟨rfl, hk⟩
      have f1 := hk.2.1
      have e9 : M1 179 = M 179 := f1 179 (by decide)
      refine Sq.mk (k := 8) hD (fun D' hD' => ?_)
      refine Lq.of (t_283_0_ok X (callw X D') n tot kn kx _ M1) ?_
      unfold t_283_0
      simp only [o_nI, m1n]
      rw [m_in (by omega), bnd_some, o1, if_neg (by decide)]
      refine Wq.call (m_aside (show 1 ≤ D' by omega)) ?_
      rintro x M2 ⟨f2, g2⟩
      rw [Wq_jmp]
      have loop : ∀ (c k : Nat) (M3 : MMw), k + c = N → TmP M1 (M 179) (q_th (M 179) k).1 M3 → Lq X (callw X D') 283 18 [some (.inr (.inl 178)), some (.inl (nI N)), some (.inl (nI k)), none] (Gk n tot kn kx) M3 (fun y M4 => y = nI (sto (fun t => decide ((q_th (M 179) N).1 (24 + 10 * t) = M 179 (24 + 10 * t))) T) ∧ Rl kn len s M4) := by
        intro c
        induction c with
        | zero =>
          intro k M3 hkc h3
          have e : k = N := by omega
          subst e
          refine Lq.of (t_283_18_ok X (callw X D') n tot kn kx _ _ M3) ?_
          unfold t_283_18
          simp only [o_nI]
          rw [if_neg (by rw [lt_i (by omega) (by omega)]; omega), Wq_jmp]
          have e96 : M3 179 96 = nI T := by rw [h3.1, (q_th_ok hX.2.2.1 hX.2.2.2 k).1 96 (by unfold mvI; omega)]; exact w1
          have inner : ∀ (c2 t : Nat), t + c2 = T → Lq X (callw X D') 283 39 [some (.inr (.inl 178)), none, some (.inl (nI (sto (fun t => decide ((q_th (M 179) k).1 (24 + 10 * t) = M 179 (24 + 10 * t))) t))), some (.inl (nI t))] (Gk n tot kn kx) M3 (fun y M4 => y = nI (sto (fun t => decide ((q_th (M 179) k).1 (24 + 10 * t) = M 179 (24 + 10 * t))) T) ∧ Rl kn len s M4) := by
            intro c2
            induction c2 with
            | zero =>
              intro t ht
              refine Lq.of (t_283_39_ok X (callw X D') n tot kn kx _ _ M3) ?_
              unfold t_283_39
              rw [e96, if_neg (by rw [lt_i (by omega) (by omega)]; omega)]
              refine Wq.call (m_back (show 1 ≤ D' by omega)) ?_
              rintro y M4 ⟨f4, g4⟩
              have hb := h3.back f4 g4
              rw [Wq_ret, show t = T by omega]
              exact ⟨rfl, h.thought f1 hb.2.1 hb.2.2 hb.1⟩
            | succ c2 ih2 =>
              intro t ht
              refine Lq.of (t_283_39_ok X (callw X D') n tot kn kx _ _ M3) ?_
              unfold t_283_39
              simp only [o_nI]
              rw [e96, if_pos (by rw [lt_i (by omega) (by omega)]; omega), m_ofTool (by omega) (by omega), bnd_some, nI_mul, nI_add, nI_add, inb_nI (by omega) (by decide), if_pos rfl, nI_clamp (by omega), h3.1, h3.2.2.2.2 _ (by omega), i1_nI, nI_add, show 16 + 10 * t + 8 = 24 + 10 * t by omega]
              have := ih2 (t + 1) (by omega)
              by_cases hh : (q_th (M 179) k).1 (24 + 10 * t) = M 179 (24 + 10 * t)
              · rw [if_pos hh, Wq_jmp, nI_shl (by omega), nI_or, Nat.one_mul]
                rw [sto_st (by rw [decide_eq_true hh])] at this
                exact this
              · rw [if_neg hh, Wq_jmp, nI_or, Nat.or_zero]
                rw [sto_sf (by rw [decide_eq_false hh])] at this
                exact this
          exact inner T 0 (by omega)
        | succ c ih =>
          intro k M3 hkc h3
          refine Lq.of (t_283_18_ok X (callw X D') n tot kn kx _ _ M3) ?_
          unfold t_283_18
          simp only [o_nI]
          rw [if_pos (by rw [lt_i (by omega) (by omega)]; omega)]
          refine Wq.call (m_tm_hour (show 8 ≤ D' by omega) hX.2.2.1 hX.2.2.2 hX.1.2.2.2.1.2.2 hX.1.2.2.2.2.2.2 h3) ?_
          rintro y M4 ⟨rfl, h4, _⟩
          rw [Wq_jmp, i1_nI, nI_add]
          exact ih (k + 1) M4 (by omega) h4
      refine loop N 0 M2 (by omega) ⟨?_, q_low.rf, f2.mono (by decide), Fh.of (f2 178 (by decide)), fun k hk => by rw [g2 k hk, e9]⟩
      rw [f2 179 (by decide)]; exact e9
  · have o2 := eq_false_of_ne_true o1
    refine Pr.mk (Q1 := fun x M1 => x = -1 ∧ M1 = M) (Sq.mk (k := 8) hD (fun D' hD' => ?_)) ?_
    · refine Lq.of (t_282_0_ok X (callw X D') n tot kn kx _ M) ?_
      unfold t_282_0
      simp only [o_nI, m1n]
      by_cases c1 : v1 < nI 1
      · rw [if_pos c1, Wq_ret]; exact ⟨rfl, rfl⟩
      rw [if_neg c1]
      by_cases c2 : nI 99 < v1
      · rw [if_pos c2, Wq_ret]; exact ⟨rfl, rfl⟩
      exfalso
      unfold q_in at o2
      rw [decide_eq_false c1, decide_eq_false c2] at o2
      cases o2
    · rintro x M1 ⟨rfl, rfl⟩
      refine Sq.mk (k := 8) hD (fun D' hD' => ?_)
      refine Lq.of (t_283_0_ok X (callw X D') n tot kn kx _ M1) ?_
      unfold t_283_0
      simp only [o_nI, m1n]
      rw [m_in (by omega), bnd_some, o2, if_pos (by rfl), Wq_ret]
      exact ⟨rfl, h⟩
/-! dull -/
def q_dull (W : Nat → Int32) (t N : Nat) : Int32 := match q_find (fun k => decide ((q_th W k).1 (19 + 10 * t) = nI 0)) (N + 1) with | none => -1 | some k => nI k
set_option maxHeartbeats 4000000 in
theorem P_dull (hD : 9 ≤ D) {v1 v2 : Int32} {len s : Nat} (h : Rl kn len s M) : Pr X D 284 285 [.inr (.inl 0), .inl v1, .inl v2] [.inr (.inl 178), .inl v1, .inl v2] (Gk n tot kn kx) M (Rl kn len s) := by
  have hX := h.1.1
  obtain ⟨T, hT⟩ : ∃ T, q_n (M 179) 96 = T := ⟨_, rfl⟩
  obtain ⟨w1, w2⟩ := hX.2.2.1.1.1
  rw [hT] at w1 w2
  have e20 : M 2 0 = nI T := by rw [hX.1.1.1]; exact w1
  by_cases ok : q_is v1 T = true ∧ q_in v2 0 99 = true
  · obtain ⟨o1, o2⟩ := ok
    obtain ⟨t, ht, rfl⟩ := q_is_t (by omega) o1
    obtain ⟨N, _, n2, rfl⟩ := q_in_t (by decide) (by decide) o2
    have ht8 : t < 8 := by omega
    refine Pr.mk (Q1 := fun x M1 => x = q_dull (M 179) t N ∧ Fr [87, 88, 89, 90, 91, 92, 93, 121, 122, 123] M M1) (Sq.mk (k := 8) hD (fun D' hD' => ?_)) ?_
    · refine Lq.of (t_284_0_ok X (callw X D') n tot kn kx _ _ M) ?_
      unfold t_284_0
      simp only [o_nI, m1n]
      rw [c_isTool (by omega) e20 (by omega), bnd_some, o1, if_neg (by decide), if_neg (by rw [z_nI, lt_i (by omega) (by omega)]; omega), if_neg (by rw [lt_i (by omega) (by omega)]; omega)]
      refine Wq.call (c_think (N := 0) (show 7 ≤ D' by omega) (by decide) hX) ?_
      rintro x M1 hk
      rw [Wq_jmp]
      have loop : ∀ (c k : Nat) (M3 : MMw), k + c = N + 1 → (∀ j, j < k → decide ((q_th (M 179) j).1 (19 + 10 * t) = nI 0) = false) → (k ≤ 100 → TkP M (M 179) k M3) → Lq X (callw X D') 284 27 [some (.inr (.inl 0)), some (.inl (nI t)), some (.inl (nI N)), some (.inl (nI k))] (Gk n tot kn kx) M3 (fun x M4 => x = q_dull (M 179) t N ∧ Fr [87, 88, 89, 90, 91, 92, 93, 121, 122, 123] M M4) := by
        intro c
        induction c with
        | zero =>
          intro k M3 hkc hno h3
          refine Lq.of (t_284_27_ok X (callw X D') n tot kn kx _ _ _ M3) ?_
          unfold t_284_27
          simp only [o_nI, m1n]
          rw [if_pos (by rw [lt_i (by omega) (by omega)]; omega), Wq_ret]
          refine ⟨?_, (h3 (by omega)).2.1⟩
          unfold q_dull
          rw [q_find_none.mpr (fun j hj => hno j (by omega))]
        | succ c ih =>
          intro k M3 hkc hno h3
          have h3' := h3 (by omega)
          refine Lq.of (t_284_27_ok X (callw X D') n tot kn kx _ _ _ M3) ?_
          unfold t_284_27
          simp only [o_nI, m1n, z_nI]
          have e88 : M3 88 t = (q_th (M 179) k).1 (19 + 10 * t) := h3'.1.2.1.2.2.2.2.1 t ht8
          rw [if_neg (by rw [lt_i (by omega) (by omega)]; omega), inb_nI ht8 (by decide), if_pos rfl, nI_clamp (by omega), e88]
          by_cases hz : (q_th (M 179) k).1 (19 + 10 * t) = nI 0
          · rw [if_pos hz, Wq_ret]
            refine ⟨?_, h3'.2.1⟩
            unfold q_dull
            rw [q_find_at hno (decide_eq_true hz) (by omega)]
          · rw [if_neg hz]
            refine Wq.call (c_tk_pass (show 6 ≤ D' by omega) hX.2.2.1 hX.2.2.2 (by omega) h3') ?_
            rintro z M4 h4
            rw [Wq_jmp, i1_nI, nI_add]
            refine ih (k + 1) M4 (by omega) ?_ (fun _ => h4)
            intro j hj
            rcases Nat.lt_or_ge j k with hl | hl
            · exact hno j hl
            · rw [show j = k by omega]; exact decide_eq_false hz
      exact loop (N + 1) 0 M1 (by omega) (fun j hj => absurd hj (Nat.not_lt_zero j)) (fun _ => hk)
    · rintro x M1 ⟨rfl, f1⟩
      have e9 : M1 179 = M 179 := f1 179 (by decide)
      refine Sq.mk (k := 8) hD (fun D' hD' => ?_)
      refine Lq.of (t_285_0_ok X (callw X D') n tot kn kx _ _ M1) ?_
      unfold t_285_0
      simp only [o_nI, m1n]
      rw [m_isTool (by omega) (by rw [e9]; exact w1) (by omega), bnd_some, o1, if_neg (by decide), m_in (by omega), bnd_some, o2, if_neg (by decide)]
      refine Wq.call (m_aside (show 1 ≤ D' by omega)) ?_
      rintro x M2 ⟨f2, g2⟩
      rw [Wq_jmp]
      have fin : ∀ (M3 : MMw) (k : Nat) (y : Int32), TmP M1 (M 179) (q_th (M 179) k).1 M3 → y = q_dull (M 179) t N → ∀ f : Int32 → GGw → MMw → Option TRw, (∀ x M', f x (Gk n tot kn kx) M' = some (.inl (y, Gk n tot kn kx, M'))) → Wq X (callw X D') 285 (Gk n tot kn kx) (fun y M4 => y = q_dull (M 179) t N ∧ Rl kn len s M4) (bnd (callw X D' 277 [.inr (.inl 178)] (Gk n tot kn kx) M3) f) := by
        intro M3 k y h3 hy f hf
        refine Wq.call (m_back (show 1 ≤ D' by omega)) ?_
        rintro z M4 ⟨f4, g4⟩
        have hb := h3.back f4 g4
        rw [hf, Wq_ret]
        exact ⟨hy, h.thought f1 hb.2.1 hb.2.2 hb.1⟩
      have loop : ∀ (c k : Nat) (M3 : MMw), k + c = N → (∀ j, j < k → decide ((q_th (M 179) j).1 (19 + 10 * t) = nI 0) = false) → TmP M1 (M 179) (q_th (M 179) k).1 M3 → Lq X (callw X D') 285 26 [some (.inr (.inl 178)), some (.inl (nI t)), some (.inl (nI N)), some (.inl (nI k)), none] (Gk n tot kn kx) M3 (fun y M4 => y = q_dull (M 179) t N ∧ Rl kn len s M4) := by
        intro c
        induction c with
        | zero =>
          intro k M3 hkc hno h3
          have e : k = N := by omega
          subst e
          have e3 : M3 179 (16 + 10 * t + 3) = (q_th (M 179) k).1 (19 + 10 * t) := by rw [h3.1, show 16 + 10 * t + 3 = 19 + 10 * t by omega]
          refine Lq.of (t_285_26_ok X (callw X D') n tot kn kx _ _ _ M3) ?_
          unfold t_285_26
          simp only [o_nI, m1n, z_nI]
          rw [if_neg (by rw [lt_i (by omega) (by omega)]; omega), m_ofTool (by omega) (by omega), bnd_some, e3]
          by_cases hz : (q_th (M 179) k).1 (19 + 10 * t) = nI 0
          · rw [if_pos hz]
            refine fin M3 k (nI k) h3 ?_ _ ?_
            · unfold q_dull
              rw [q_find_at hno (decide_eq_true hz) (Nat.lt_succ_self k)]
            · intro _ _; rfl
          · rw [if_neg hz]
            refine fin M3 k (-1) h3 ?_ _ ?_
            · unfold q_dull
              rw [q_find_none.mpr (fun j hj => by
                rcases Nat.lt_or_ge j k with hl | hl
                · exact hno j hl
                · rw [show j = k by omega]; exact decide_eq_false hz)]
            · intro _ _; rfl
        | succ c ih =>
          intro k M3 hkc hno h3
          have e3 : M3 179 (16 + 10 * t + 3) = (q_th (M 179) k).1 (19 + 10 * t) := by rw [h3.1, show 16 + 10 * t + 3 = 19 + 10 * t by omega]
          have hed := ((q_th_ok hX.2.2.1 hX.2.2.2 k).2.1.2.2.2.1 t ht8).1
          refine Lq.of (t_285_26_ok X (callw X D') n tot kn kx _ _ _ M3) ?_
          unfold t_285_26
          simp only [o_nI, m1n, z_nI]
          rw [if_pos (by rw [lt_i (by omega) (by omega)]; omega), m_ofTool (by omega) (by omega), bnd_some, e3]
          by_cases hz : (q_th (M 179) k).1 (19 + 10 * t) = nI 0
          · rw [if_neg (by rw [hz]; decide +kernel), m_ofTool (by omega) (by omega), bnd_some, e3, if_pos hz]
            refine fin M3 k (nI k) h3 ?_ _ ?_
            · unfold q_dull
              rw [q_find_at hno (decide_eq_true hz) (by omega)]
            · intro _ _; rfl
          · rw [if_pos (by
              have hlt := hed.2
              rw [hed.1] at hz ⊢
              rw [eq_i (by omega) (by omega)] at hz
              rw [lt_i (by omega) (by omega)]
              omega)]
            refine Wq.call (m_tm_hour (show 8 ≤ D' by omega) hX.2.2.1 hX.2.2.2 hX.1.2.2.2.1.2.2 hX.1.2.2.2.2.2.2 h3) ?_
            rintro y M4 ⟨rfl, h4, _⟩
            rw [Wq_jmp, i1_nI, nI_add]
            refine ih (k + 1) M4 (by omega) ?_ h4
            intro j hj
            rcases Nat.lt_or_ge j k with hl | hl
            · exact hno j hl
            · rw [show j = k by omega]; exact decide_eq_false hz
      refine loop N 0 M2 (by omega) (fun j hj => absurd hj (Nat.not_lt_zero j)) ⟨?_, q_low.rf, f2.mono (by decide), Fh.of (f2 178 (by decide)), fun k hk => by rw [g2 k hk, e9]⟩
      rw [f2 179 (by decide)]; exact e9
  · refine Pr.mk (Q1 := fun x M1 => x = -1 ∧ M1 = M) (Sq.mk (k := 8) hD (fun D' hD' => ?_)) ?_
    · refine Lq.of (t_284_0_ok X (callw X D') n tot kn kx _ _ M) ?_
      unfold t_284_0
      simp only [o_nI, m1n]
      rw [c_isTool (by omega) e20 (by omega), bnd_some]
      cases q1 : q_is v1 T with
      | false => rw [if_pos (by rfl), Wq_ret]; exact ⟨rfl, rfl⟩
      | true =>
      rw [if_neg (by decide)]
      by_cases c1 : v2 < nI 0
      · rw [if_pos (show v2 < 0 from c1), Wq_ret]; exact ⟨rfl, rfl⟩
      rw [if_neg (show ¬ v2 < 0 from c1)]
      by_cases c2 : nI 99 < v2
      · rw [if_pos c2, Wq_ret]; exact ⟨rfl, rfl⟩
      exfalso
      refine ok ⟨q1, ?_⟩
      unfold q_in
      rw [decide_eq_false c1, decide_eq_false c2]
      rfl
    · rintro x M1 ⟨rfl, rfl⟩
      refine Sq.mk (k := 8) hD (fun D' hD' => ?_)
      refine Lq.of (t_285_0_ok X (callw X D') n tot kn kx _ _ M1) ?_
      unfold t_285_0
      simp only [o_nI, m1n]
      rw [m_isTool (by omega) w1 (by omega), bnd_some]
      cases q1 : q_is v1 T with
      | false => rw [if_pos (by rfl), Wq_ret]; exact ⟨rfl, h⟩
      | true =>
      rw [if_neg (by decide), m_in (by omega), bnd_some]
      cases q2 : q_in v2 0 99 with
      | false => rw [if_pos (by rfl), Wq_ret]; exact ⟨rfl, h⟩
      | true => exact absurd ⟨q1, q2⟩ ok
end
