section
-- needs: hands
/-! work -/
def q_wkA (W : Nat → Int32) (i : Nat) (v : Int32) : Int32 :=
  if v = nI 0 then W (142 + 3 * i) else if v = nI 1 then W (143 + 3 * i) else if v = nI 2 then W (144 + 3 * i) else if v = nI 3 then W (8 + i) else
  if v = nI 4 then b2i (q_openB W i) else if v = nI 5 then b2i (q_doneB W i) else if v = nI 6 then nI (q_cH W (q_n W (142 + 3 * i))) else
  if v = nI 7 then q_oI (q_ft W (q_n W (142 + 3 * i))) else if v = nI 8 then q_oI ((q_ft W (q_n W (142 + 3 * i))).bind (fun t => q_fm W t)) else nI 4294967294
variable {X : KXw} {n tot kn D : Nat} {kx : Nat → Nat × Nat} {M : MMw}
theorem c_firstServedNo (hD : 1 ≤ D) : callw X D 214 [.inr (.inl 120), .inr (.inl 1), .inl (-1)] (Gk n tot kn kx) M = some (-1, Gk n tot kn kx, M) :=
  ex1 hD (fun cl => t_214_p120_p1_0_ok X cl n tot kn kx _ M) (fun cl => by
    unfold t_214_p120_p1_0
    rw [if_pos (by decide)]
    rfl)
theorem b2i_tr {b : Bool} {G : GGw} : (if b2i b = nI 0 then (some (.inl (nI 0, G, M)) : Option TRw) else some (.inl (nI 1, G, M))) = some (.inl (b2i b, G, M)) := by
  cases b with
  | false => rw [if_pos (by rfl)]; rfl
  | true => rw [if_neg (by decide)]; rfl
theorem q_ft_t {W : Nat → Int32} {k t : Nat} (h : q_ft W k = some t) : t < q_n W 96 ∧ ∃ m, m < q_n W 97 ∧ q_fm W t = some m := by
  obtain ⟨h1, h2, _⟩ := q_find_some h
  refine ⟨h1, ?_⟩
  have hh : q_hand W t = true := by
    cases e : q_hand W t with
    | true => rfl
    | false => rw [e, Bool.and_false] at h2; cases h2
  obtain ⟨j, hj, hs⟩ := q_any_iff.mp hh
  cases e : q_fm W t with
  | none => have := q_find_none.mp e j hj; rw [hs] at this; cases this
  | some m => exact ⟨m, (q_find_some e).1, rfl⟩
theorem P_work (hD : 9 ≤ D) {v1 v2 : Int32} {len s : Nat} (h : Rl kn len s M) : Pr X D 215 219 [.inr (.inl 0), .inl v1, .inl v2] [.inr (.inl 178), .inl v1, .inl v2] (Gk n tot kn kx) M (Rl kn len s) := by
  have hX := h.1.1
  obtain ⟨T, hT⟩ : ∃ T, q_n (M 179) 98 = T := ⟨_, rfl⟩
  obtain ⟨w1, w2⟩ := hX.2.2.1.1.2.2.1
  rw [hT] at w1 w2
  have e17 : M 17 0 = nI T := by rw [hX.1.2.1.1]; exact w1
  have hl := hX.1.2.2.2.1.2.2
  by_cases ok : q_is v1 T = true
  · obtain ⟨t, ht, rfl⟩ := q_is_t (by omega) ok
    have ht8 : t < 8 := by omega
    have htT : t < q_n (M 179) 98 := by omega
    obtain ⟨⟨k1, k2⟩, -⟩ := hX.2.2.1.2.2.2.2.2.1 t htT
    obtain ⟨k, hk⟩ : ∃ k, q_n (M 179) (142 + 3 * t) = k := ⟨_, rfl⟩
    rw [hk] at k1 k2
    obtain ⟨A, hA⟩ : ∃ A, q_wkA (M 179) t v2 = A := ⟨_, rfl⟩
    unfold q_wkA at hA
    rw [hk] at hA
    have hH := hX.1.2.1.2.2
    have e18 : M 18 t = M 179 (142 + 3 * t) := hH.1 t htT
    have e19 : M 19 t = M 179 (143 + 3 * t) := hH.2.1 t htT
    have e20 : M 20 t = M 179 (144 + 3 * t) := hH.2.2.1 t htT
    have e15 : M 15 t = M 179 (8 + t) := by have := hX.2.1.2.2.2.2.2.2.2.2.1 t ht8; rw [Nat.one_mul] at this; exact this
    refine Pr.mk (Q1 := fun x M1 => x = A ∧ Fr [121, 122] M M1) (Sq.mk (k := 8) hD (fun D' hD' => ?_)) ?_
    · refine Lq.of (t_215_0_ok X (callw X D') n tot kn kx _ _ M) ?_
      unfold t_215_0
      simp only [o_nI, z_nI]
      rw [if_neg (by rw [lt_i (by omega) (by omega)]; omega), e17, if_pos (by rw [lt_i (by omega) (by omega)]; omega), if_pos (by rw [lt_i (by omega) (by omega)]; omega), inb_nI ht8 (by decide), if_pos rfl, if_pos rfl, if_pos rfl, if_pos rfl, if_pos rfl, if_pos rfl, if_pos rfl, nI_clamp (by omega), e18, e19, e20, e15, k1]
      by_cases h0 : v2 = nI 0
      · rw [if_pos h0, Wq_ret]; rw [if_pos h0, k1] at hA; exact ⟨hA, Fr.rf⟩
      rw [if_neg h0]; rw [if_neg h0] at hA
      by_cases h1 : v2 = nI 1
      · rw [if_pos h1, Wq_ret]; rw [if_pos h1] at hA; exact ⟨hA, Fr.rf⟩
      rw [if_neg h1]; rw [if_neg h1] at hA
      by_cases h2 : v2 = nI 2
      · rw [if_pos h2, Wq_ret]; rw [if_pos h2] at hA; exact ⟨hA, Fr.rf⟩
      rw [if_neg h2]; rw [if_neg h2] at hA
      by_cases h3 : v2 = nI 3
      · rw [if_pos h3, Wq_ret]; rw [if_pos h3] at hA; exact ⟨hA, Fr.rf⟩
      rw [if_neg h3]; rw [if_neg h3] at hA
      by_cases h4 : v2 = nI 4
      · rw [if_pos h4, c_isOpen10 (by omega) hX htT, bnd_some, b2i_tr, Wq_ret]
        rw [if_pos h4] at hA; exact ⟨hA, Fr.rf⟩
      rw [if_neg h4]; rw [if_neg h4] at hA
      by_cases h5 : v2 = nI 5
      · rw [if_pos h5, c_isDone10 (by omega) hX htT, bnd_some, b2i_tr, Wq_ret]
        rw [if_pos h5] at hA; exact ⟨hA, Fr.rf⟩
      rw [if_neg h5]; rw [if_neg h5] at hA
      by_cases h6 : v2 = nI 6
      · rw [if_pos h6]
        refine Wq.call (c_countHands (by omega) k2 hX) ?_
        rintro x M1 ⟨rfl, f1⟩
        rw [Wq_ret]
        rw [if_pos h6] at hA; exact ⟨hA, f1⟩
      rw [if_neg h6]; rw [if_neg h6] at hA
      by_cases h7 : v2 = nI 7
      · rw [if_pos h7]
        refine Wq.call (c_firstHand (by omega) k2 hX) ?_
        rintro x M1 ⟨rfl, f1⟩
        rw [Wq_ret]
        rw [if_pos h7] at hA; exact ⟨hA, f1⟩
      rw [if_neg h7]; rw [if_neg h7] at hA
      by_cases h8 : v2 = nI 8
      · rw [if_pos h8]
        refine Wq.call (c_firstHand (by omega) k2 hX) ?_
        rintro x M1 ⟨rfl, f1⟩
        rw [if_pos h8] at hA
        cases hq : q_ft (M 179) k with
        | none =>
          rw [hq] at hA
          show Wq X (callw X D') 215 _ _ (bnd (callw X D' 214 [.inr (.inl 120), .inr (.inl 1), .inl (-1)] _ _) _)
          rw [c_firstServedNo (by omega), bnd_some, Wq_ret]
          exact ⟨hA, f1⟩
        | some j =>
          rw [hq] at hA
          have hj := (q_find_some hq).1
          have hj2 := hX.2.2.1.1.1.2
          refine Wq.call (c_firstServed (by omega) (show j < 8 by omega) (hX.fr f1 (by decide))) ?_
          rintro x M2 ⟨rfl, f2⟩
          rw [Wq_ret]
          exact ⟨hA, f1.tr f2⟩
      rw [if_neg h8, Wq_ret]; rw [if_neg h8] at hA
      exact ⟨hA, Fr.rf⟩
    · rintro x M1 ⟨rfl, f1⟩
      have h1 := h.ask f1 (by decide)
      have e9 : M1 179 = M 179 := f1 179 (by decide)
      have fin : ∀ {M2 : MMw}, Fr [187, 188] M1 M2 → Rl kn len s M2 := fun f2 => h1.ask f2 (by decide)
      refine Sq.mk (k := 8) hD (fun D' hD' => ?_)
      refine Lq.of (t_219_0_ok X (callw X D') n tot kn kx _ _ M1) ?_
      unfold t_219_0
      simp only [o_nI, z_nI]
      rw [m_isWork (by omega) (by rw [e9]; exact w1) (by omega), bnd_some, ok, if_neg (by decide), m_ofWork (by omega) (by omega), bnd_some, e9, Nat.add_zero, k1]
      refine Wq.call (m_firstHands (by omega) e9 k2 hl hX.2.2.1) ?_
      rintro z M2 ⟨rfl, f2⟩
      have g9 : M2 179 = M 179 := by rw [f2 179 (by decide)]; exact e9
      have n8 : nI 8 + nI t = nI (8 + t) := nI_add _ _
      by_cases h3 : v2 = nI 3
      · rw [if_pos h3, n8, inb_nI (by omega) (by decide), if_pos rfl, nI_clamp (by omega), g9, Wq_ret]
        rw [h3] at hA
        rw [if_neg (by decide +kernel), if_neg (by decide +kernel), if_neg (by decide +kernel), if_pos rfl] at hA
        exact ⟨hA, fin f2⟩
      rw [if_neg h3]
      by_cases h4 : v2 = nI 4
      · rw [if_pos h4, m_isOpen (by omega) (by rw [g9]; exact hX.2.2.1) (by rw [g9]; exact htT), bnd_some, g9, b2i_tr, Wq_ret]
        rw [h4] at hA
        rw [if_neg (by decide +kernel), if_neg (by decide +kernel), if_neg (by decide +kernel), if_neg (by decide +kernel), if_pos rfl] at hA
        exact ⟨hA, fin f2⟩
      rw [if_neg h4]
      by_cases h5 : v2 = nI 5
      · rw [if_pos h5, m_isDone (by omega) ht8, bnd_some, g9, b2i_tr, Wq_ret]
        rw [h5] at hA
        rw [if_neg (by decide +kernel), if_neg (by decide +kernel), if_neg (by decide +kernel), if_neg (by decide +kernel), if_neg (by decide +kernel), if_pos rfl] at hA
        exact ⟨hA, fin f2⟩
      rw [if_neg h5]
      by_cases h6 : v2 = nI 6
      · rw [if_pos h6, m_ofWork (by omega) (by omega), bnd_some, g9, Nat.add_zero, k1]
        refine Wq.call (m_handsOf (by omega) g9 k2 hl hX.2.2.1) ?_
        rintro z M3 ⟨rfl, f3⟩
        rw [Wq_ret]
        rw [h6] at hA
        rw [if_neg (by decide +kernel), if_neg (by decide +kernel), if_neg (by decide +kernel), if_neg (by decide +kernel), if_neg (by decide +kernel), if_neg (by decide +kernel), if_pos rfl] at hA
        exact ⟨hA, fin (f2.tr f3)⟩
      rw [if_neg h6]
      have hfc : ∀ {r : Int32}, q_fc (M 179) k = r → (r = nI 4294967295 ∧ q_ft (M 179) k = none) ∨ ∃ j m, j < 8 ∧ m < 4 ∧ r = nI (4 * j + m) ∧ q_ft (M 179) k = some j ∧ q_fm (M 179) j = some m := by
        intro r hr
        unfold q_fc at hr
        cases hq : q_ft (M 179) k with
        | none => rw [hq] at hr; exact Or.inl ⟨by rw [← hr, m1n], rfl⟩
        | some j =>
          obtain ⟨hj, m, hm, hm2⟩ := q_ft_t hq
          rw [hq] at hr
          dsimp only at hr
          rw [hm2] at hr
          have l1 := hX.2.2.1.1.1.2
          have l2 := hX.2.2.1.1.2.1.2
          exact Or.inr ⟨j, m, by omega, by omega, hr.symm, rfl, hm2⟩
      by_cases h7 : v2 = nI 7
      · rw [if_pos h7]
        rw [h7] at hA
        rw [if_neg (by decide +kernel), if_neg (by decide +kernel), if_neg (by decide +kernel), if_neg (by decide +kernel), if_neg (by decide +kernel), if_neg (by decide +kernel), if_neg (by decide +kernel), if_pos rfl] at hA
        rcases hfc rfl with ⟨r1, r2⟩ | ⟨j, m, hj, hm, r1, r2, r3⟩
        · rw [r1, if_pos rfl, Wq_ret]
          rw [r2] at hA
          exact ⟨by rw [← hA, m1n]; rfl, fin f2⟩
        · rw [r1, if_neg (by rw [m1n, nI_nm1 (by omega)]; exact id), nI_div (by omega) (by omega), show (4 * j + m) / 4 = j by omega, Wq_ret]
          rw [r2] at hA
          exact ⟨hA, fin f2⟩
      rw [if_neg h7]
      by_cases h8 : v2 = nI 8
      · rw [if_pos h8]
        rw [h8] at hA
        rw [if_neg (by decide +kernel), if_neg (by decide +kernel), if_neg (by decide +kernel), if_neg (by decide +kernel), if_neg (by decide +kernel), if_neg (by decide +kernel), if_neg (by decide +kernel), if_neg (by decide +kernel), if_pos rfl] at hA
        rcases hfc rfl with ⟨r1, r2⟩ | ⟨j, m, hj, hm, r1, r2, r3⟩
        · rw [r1, if_pos rfl, Wq_ret]
          rw [r2] at hA
          exact ⟨by rw [← hA, m1n]; rfl, fin f2⟩
        · rw [r1, if_neg (by rw [m1n, nI_nm1 (by omega)]; exact id), nI_div (by omega) (by omega), show (4 * j + m) / 4 = j by omega, nI_mul, nI_sub (by omega), show 4 * j + m - j * 4 = m by omega, Wq_ret]
          rw [r2] at hA
          have hA2 : q_oI (q_fm (M 179) j) = x := hA
          rw [r3] at hA2
          exact ⟨hA2, fin f2⟩
      rw [if_neg h8, m_in (by omega), bnd_some]
      rw [if_neg h3, if_neg h4, if_neg h5, if_neg h6, if_neg h7, if_neg h8] at hA
      by_cases o2 : q_in v2 0 2 = true
      · obtain ⟨f, -, hf, rfl⟩ := q_in_t (by decide) (by decide) o2
        rw [o2, if_neg (by decide), m_ofWork (by omega) (by omega), bnd_some, g9, Wq_ret]
        refine ⟨?_, fin f2⟩
        rw [← hA]
        rcases (show f = 0 ∨ f = 1 ∨ f = 2 by omega) with rfl | rfl | rfl
        · rw [if_pos rfl, Nat.add_zero]
        · rw [if_neg (by decide +kernel), if_pos rfl, show 142 + 3 * t + 1 = 143 + 3 * t by omega]
        · rw [if_neg (by decide +kernel), if_neg (by decide +kernel), if_pos rfl, show 142 + 3 * t + 2 = 144 + 3 * t by omega]
      · have o3 := q_in_no (by decide) (by decide) (eq_false_of_ne_true o2)
        rw [eq_false_of_ne_true o2, if_pos (by rfl), Wq_ret]
        rw [if_neg (o3 0 (by decide) (by decide)), if_neg (o3 1 (by decide) (by decide)), if_neg (o3 2 (by decide) (by decide))] at hA
        exact ⟨hA, fin f2⟩
  · have ok2 := eq_false_of_ne_true ok
    refine Pr.mk (Q1 := fun x M1 => x = nI 4294967294 ∧ M1 = M) (Sq.mk (k := 8) hD (fun D' hD' => ?_)) ?_
    · refine Lq.of (t_215_0_ok X (callw X D') n tot kn kx _ _ M) ?_
      unfold t_215_0
      simp only [o_nI, z_nI]
      by_cases h0 : v1 < nI 0
      · rw [if_pos h0, Wq_ret]; exact ⟨rfl, rfl⟩
      · rw [if_neg h0, e17, if_neg (fun h1 => ok (by unfold q_is; rw [decide_eq_false h0, decide_eq_true h1]; rfl)), Wq_ret]; exact ⟨rfl, rfl⟩
    · rintro x M1 ⟨rfl, rfl⟩
      refine Sq.mk (k := 8) hD (fun D' hD' => ?_)
      refine Lq.of (t_219_0_ok X (callw X D') n tot kn kx _ _ M1) ?_
      unfold t_219_0
      simp only [o_nI, z_nI]
      rw [m_isWork (by omega) w1 (by omega), bnd_some, ok2, if_pos (by rfl), Wq_ret]
      exact ⟨rfl, h⟩
end
