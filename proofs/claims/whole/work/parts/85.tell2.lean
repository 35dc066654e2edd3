section
-- needs: tell
/-! strike, may -/
def q_w (a j : Int32) (o : Bool) : Int32 := if o then a ||| (nI 1 <<< (j &&& 31)) else a &&& ((nI 1 <<< (j &&& 31)) ^^^ (-1))
theorem with_ok : ∀ a, a < 16 → ∀ j, j < 4 → ∀ o : Bool, (a.testBit j = o) ∨ (q_w (nI a) (nI j) o = nI a ^^^ (nI 1 <<< (nI j &&& 31)) ∧ q_w (nI a) (nI j) o = nI (a ^^^ 2 ^ j) ∧ a ^^^ 2 ^ j < 16) := by decide +kernel
variable {X : KXw} {n tot kn D : Nat} {kx : Nat → Nat × Nat} {M : MMw}
theorem c_with (hD : 1 ≤ D) {a j : Int32} {o : Bool} : callw X D 49 [.inl a, .inl j, .inl (b2i o)] (Gk n tot kn kx) M = some (q_w a j o, Gk n tot kn kx, M) :=
  ex1 hD (fun cl => t_49_0_ok X cl n tot kn kx _ _ _ M) (fun cl => by
    unfold t_49_0 q_w
    cases o with
    | true => simp (disch := omega) only [m1_nI, m1n, o_nI, z_nI, i1_nI, im1_nI, bnd_some, Wq_ret, Wq_jmp, up_ne, up_at, upW_s, upW_n, inb_nI, nI_clamp, ↓reduceIte, b2i_0, reduceCtorEq, Bool.true_eq_false, Bool.false_eq_true]
    | false => simp (disch := omega) only [m1_nI, m1n, o_nI, z_nI, i1_nI, im1_nI, bnd_some, Wq_ret, Wq_jmp, up_ne, up_at, upW_s, upW_n, inb_nI, nI_clamp, ↓reduceIte, b2i_0, reduceCtorEq, Bool.true_eq_false, Bool.false_eq_true])
set_option maxHeartbeats 4000000 in
theorem P_strike (hD : 6 ≤ D) {v : Int32} {o : Bool} {len s : Nat} (h : Rl kn len s M) : Pr X D 50 51 [.inr (.inl 0), .inl v, .inl (b2i o)] [.inr (.inl 178), .inl v, .inl (b2i o)] (Gk n tot kn kx) M (Rl kn len s) := by
  obtain ⟨b, p, Bs, hb, hp, h3, h6, h8⟩ := h.2.2.1
  have hX := h.1.1
  have h98' := hX.2.2.1.1.2.2.1.2
  have hs := hX.2.2.2.2.1
  have hs2 := hs.2
  have e8 : M 10 8 = nI (q_n (M 179) 1) := by rw [hX.2.1.2.2.1]; exact hs.1
  have nothing : (q_in v 0 3 = false ∨ ∃ j, j < 4 ∧ v = nI j ∧ (q_n (M 179) 1).testBit j = o) → Pr X D 50 51 [.inr (.inl 0), .inl v, .inl (b2i o)] [.inr (.inl 178), .inl v, .inl (b2i o)] (Gk n tot kn kx) M (Rl kn len s) := by
    intro hno
    refine Pr.mk (Q1 := fun x M1 => x = nI 0 ∧ M1 = M) (Sq.mk (k := 5) hD (fun D' hD' => ?_)) ?_
    · refine Lq.of (t_50_0_ok X (callw X D') n tot kn kx _ _ M) ?_
      unfold t_50_0
      rw [o_nI, c_in (by omega), bnd_some]
      rcases hno with hno | ⟨j, hj, rfl, hno⟩
      · rw [hno]; simp (disch := omega) only [m1_nI, m1n, o_nI, z_nI, i1_nI, im1_nI, bnd_some, Wq_ret, Wq_jmp, up_ne, up_at, upW_s, upW_n, inb_nI, nI_clamp, ↓reduceIte, b2i_0, reduceCtorEq, Bool.true_eq_false, Bool.false_eq_true]; exact ⟨by trivial, by trivial⟩
      · cases q_in (nI j) 0 3 with
        | false => simp (disch := omega) only [m1_nI, m1n, o_nI, z_nI, i1_nI, im1_nI, bnd_some, Wq_ret, Wq_jmp, up_ne, up_at, upW_s, upW_n, inb_nI, nI_clamp, ↓reduceIte, b2i_0, reduceCtorEq, Bool.true_eq_false, Bool.false_eq_true]; exact ⟨by trivial, by trivial⟩
        | true =>
          rw [if_neg (by decide), c_isIn (by omega), bnd_some, e8, q_bit_nI (by omega) (by omega), hno, if_pos rfl, Wq_ret]
          exact ⟨rfl, rfl⟩
    · rintro x M1 ⟨rfl, rfl⟩
      refine Sq.mk (k := 5) hD (fun D' hD' => ?_)
      refine Lq.of (t_51_0_ok X (callw X D') n tot kn kx _ _ M1) ?_
      unfold t_51_0
      rw [o_nI, o_nI, m_in (by omega), bnd_some]
      rcases hno with hno | ⟨j, hj, rfl, hno⟩
      · rw [hno]; simp (disch := omega) only [m1_nI, m1n, o_nI, z_nI, i1_nI, im1_nI, bnd_some, Wq_ret, Wq_jmp, up_ne, up_at, upW_s, upW_n, inb_nI, nI_clamp, ↓reduceIte, b2i_0, reduceCtorEq, Bool.true_eq_false, Bool.false_eq_true]; exact ⟨by trivial, h⟩
      · cases q_in (nI j) 0 3 with
        | false => simp (disch := omega) only [m1_nI, m1n, o_nI, z_nI, i1_nI, im1_nI, bnd_some, Wq_ret, Wq_jmp, up_ne, up_at, upW_s, upW_n, inb_nI, nI_clamp, ↓reduceIte, b2i_0, reduceCtorEq, Bool.true_eq_false, Bool.false_eq_true]; exact ⟨by trivial, h⟩
        | true =>
          rw [if_neg (by decide), hs.1, o_nI, nI_tb (by omega) (by omega), hno]
          cases o with
          | true => rw [if_pos (show nI true.toNat = nI 1 from rfl), if_pos (show nI 1 = b2i true from rfl), Wq_ret]; exact ⟨rfl, h⟩
          | false => rw [if_neg (by decide +kernel), if_pos (show nI 0 = b2i false from rfl), Wq_ret]; exact ⟨rfl, h⟩
  cases hv : q_in v 0 3 with
  | false => exact nothing (Or.inl hv)
  | true =>
    obtain ⟨j, _, hj, rfl⟩ := q_in_t (by decide) (by decide) hv
    rcases with_ok _ hs2 j (by omega) o with hno | ⟨w1, w2, w3⟩
    · exact nothing (Or.inr ⟨j, by omega, rfl, hno⟩)
    by_cases hno : (q_n (M 179) 1).testBit j = o
    · exact nothing (Or.inr ⟨j, by omega, rfl, hno⟩)
    refine Pr.mk (Q1 := fun x M2 => x = nI 1 ∧ ∃ M1, KpP (M 179) M b p M1 ∧ M2 = up M1 10 8 (nI (q_n (M 179) 1 ^^^ 2 ^ j))) (Sq.mk (k := 5) hD (fun D' hD' => ?_)) ?_
    · refine Lq.of (t_50_0_ok X (callw X D') n tot kn kx _ _ M) ?_
      unfold t_50_0
      rw [o_nI, c_in (by omega), bnd_some, hv, if_neg (by decide), c_isIn (by omega), bnd_some, e8, q_bit_nI (by omega) (by omega), if_neg (by rw [b2i_inj]; exact hno)]
      refine Wq.call (c_keep (W := M 179) (show 4 ≤ D' by omega) hb hp h3.1 h3.2.1 hX.2.1) ?_
      rintro x M1 hk
      have hc1 := (hk.cx hX).2.1
      rw [hc1.2.2.1, hs.1, c_with (by omega), bnd_some, w2, Wq_ret]
      exact ⟨rfl, M1, hk, rfl⟩
    · rintro x M2 ⟨rfl, M1, hk, hM2⟩
      have k := hk.2.2.2.2
      have hc1 := (hk.cx hX).2.1
      have f2 : Fr [10] M1 M2 := by
        rw [hM2]
        exact Fr.rf.up (by decide)
      have e9 : M2 179 = M 179 := by rw [f2 179 (by decide), k 179 (by omega) (by omega)]
      have e84 : M2 178 4 = nI b := by rw [f2 178 (by decide), k 178 (by omega) (by omega)]; exact h6.1
      refine Sq.mk (k := 5) hD (fun D' hD' => ?_)
      refine Lq.of (t_51_0_ok X (callw X D') n tot kn kx _ _ M2) ?_
      unfold t_51_0
      rw [o_nI, o_nI, m_in (by omega), bnd_some, hv, if_neg (by decide), e9, hs.1, o_nI, nI_tb (by omega) (by omega)]
      have fin : ∀ (y : Int32) M3, (M3 178 = upW (M2 178) 4 (nI (min (b + 1) 6)) ∧ M3 181 = q_kept (M2 181) (M2 179) b ∧ Fr [178, 181] M2 M3) → Wq X (callw X D') 51 (Gk n tot kn kx) (fun y M2 => y = nI 1 ∧ Rl kn len s M2) (some (.inl (nI 1, Gk n tot kn kx, up M3 179 1 (M3 179 1 ^^^ (nI 1 <<< (nI j &&& 31)))))) := by
        rintro y M3 ⟨g8, g1, hf3⟩
        have e93 : M3 179 = M 179 := by rw [hf3 179 (by decide), e9]
        rw [Wq_ret, e93, hs.1, ← w1, w2]
        refine ⟨rfl, ?_⟩
        have hY : sameY (M 179) (upW (M 179) 1 (nI (q_n (M 179) 1 ^^^ 2 ^ j))) := sameY.rf.up (by unfold mvI; omega)
        refine h.told (W' := upW (M 179) 1 (nI (q_n (M 179) 1 ^^^ 2 ^ j))) hb hp h3 h6 h8 hk f2 (by decide) ?_ hY (fun k hk => upW_n (by omega)) ?_ g8 g1 hf3 (Fr.rf.up (by decide)) (by rw [up_at, e93])
        · rw [hM2]; exact hc1.st
        · obtain ⟨i1, i2, i3, i4, i5⟩ := hX.2.2.2
          refine ⟨q_lt_un (by omega) i1, q_lt_up w3 (by decide) (fun h => absurd rfl h), fun b hb => q_lt_un (by omega) (i3 b hb), fun t ht => ?_, fun i hi => ?_⟩
          · obtain ⟨a, b, c⟩ := i4 t ht
            refine ⟨q_lt_un (by omega) a, q_lt_un (by omega) b, ?_⟩
            rw [q_n_up (by omega), upW_n (by omega)]; exact c
          · rw [q_n_up (by omega)] at hi
            obtain ⟨a, b, c⟩ := i5 i hi
            refine ⟨q_lt_un (by omega) a, ?_⟩
            rw [q_n_up (show 8 + i ≠ 1 by omega), q_n_up (show 143 + 3 * i ≠ 1 by omega)]; exact ⟨b, c.cg (by omega) (fun k' hk' => upW_n (by omega))⟩
      cases hbit : (q_n (M 179) 1).testBit j with
      | true =>
        rw [hbit] at hno
        cases o with
        | true => exact absurd rfl hno
        | false =>
          rw [if_pos (show nI true.toNat = nI 1 from rfl), if_neg (by decide +kernel)]
          exact Wq.call (m_keeps (show 1 ≤ D' by omega) hb e84) fin
      | false =>
        rw [hbit] at hno
        cases o with
        | false => exact absurd rfl hno
        | true =>
          rw [if_neg (by decide +kernel), if_neg (by decide +kernel)]
          exact Wq.call (m_keeps (show 1 ≤ D' by omega) hb e84) fin
set_option maxHeartbeats 4000000 in
theorem P_may (hD : 6 ≤ D) {v v2 : Int32} {o : Bool} {len s : Nat} (h : Rl kn len s M) : Pr X D 52 54 [.inr (.inl 0), .inl v, .inl v2, .inl (b2i o)] [.inr (.inl 178), .inl v, .inl v2, .inl (b2i o)] (Gk n tot kn kx) M (Rl kn len s) := by
  obtain ⟨b, p, Bs, hb, hp, h3, h6, h8⟩ := h.2.2.1
  have hX := h.1.1
  have h98' := hX.2.2.1.1.2.2.1.2
  have nothing : (q_in v 0 3 = false ∨ q_in v2 0 3 = false ∨ ∃ i j, i < 4 ∧ j < 4 ∧ v = nI i ∧ v2 = nI j ∧ (q_n (M 179) (4 + i)).testBit j = o) → Pr X D 52 54 [.inr (.inl 0), .inl v, .inl v2, .inl (b2i o)] [.inr (.inl 178), .inl v, .inl v2, .inl (b2i o)] (Gk n tot kn kx) M (Rl kn len s) := by
    intro hno
    refine Pr.mk (Q1 := fun x M1 => x = nI 0 ∧ M1 = M) (Sq.mk (k := 5) hD (fun D' hD' => ?_)) ?_
    · refine Lq.of (t_52_0_ok X (callw X D') n tot kn kx _ _ _ M) ?_
      unfold t_52_0
      rw [o_nI, c_in (by omega), bnd_some]
      rcases hno with hno | hno | ⟨i, j, hi, hj, rfl, rfl, hno⟩
      · rw [hno]; simp (disch := omega) only [m1_nI, m1n, o_nI, z_nI, i1_nI, im1_nI, bnd_some, Wq_ret, Wq_jmp, up_ne, up_at, upW_s, upW_n, inb_nI, nI_clamp, ↓reduceIte, b2i_0, reduceCtorEq, Bool.true_eq_false, Bool.false_eq_true]; exact ⟨by trivial, by trivial⟩
      · cases q_in v 0 3 with
        | false => simp (disch := omega) only [m1_nI, m1n, o_nI, z_nI, i1_nI, im1_nI, bnd_some, Wq_ret, Wq_jmp, up_ne, up_at, upW_s, upW_n, inb_nI, nI_clamp, ↓reduceIte, b2i_0, reduceCtorEq, Bool.true_eq_false, Bool.false_eq_true]; exact ⟨by trivial, by trivial⟩
        | true =>
          rw [if_neg (by decide), c_in (by omega), bnd_some, hno]
          simp (disch := omega) only [m1_nI, m1n, o_nI, z_nI, i1_nI, im1_nI, bnd_some, Wq_ret, Wq_jmp, up_ne, up_at, upW_s, upW_n, inb_nI, nI_clamp, ↓reduceIte, b2i_0, reduceCtorEq, Bool.true_eq_false, Bool.false_eq_true]; exact ⟨by trivial, by trivial⟩
      · cases q_in (nI i) 0 3 with
        | false => simp (disch := omega) only [m1_nI, m1n, o_nI, z_nI, i1_nI, im1_nI, bnd_some, Wq_ret, Wq_jmp, up_ne, up_at, upW_s, upW_n, inb_nI, nI_clamp, ↓reduceIte, b2i_0, reduceCtorEq, Bool.true_eq_false, Bool.false_eq_true]; exact ⟨by trivial, by trivial⟩
        | true =>
          rw [if_neg (by decide), c_in (by omega), bnd_some]
          cases q_in (nI j) 0 3 with
          | false => simp (disch := omega) only [m1_nI, m1n, o_nI, z_nI, i1_nI, im1_nI, bnd_some, Wq_ret, Wq_jmp, up_ne, up_at, upW_s, upW_n, inb_nI, nI_clamp, ↓reduceIte, b2i_0, reduceCtorEq, Bool.true_eq_false, Bool.false_eq_true]; exact ⟨by trivial, by trivial⟩
          | true =>
            have hs := hX.2.2.2.2.2.1 i hi
            have hs2 := hs.2
            have e6 : M 16 i = nI (q_n (M 179) (4 + i)) := by
              have := hX.2.1.2.2.2.2.2.2.2.2.2 i hi
              rw [Nat.one_mul] at this
              rw [← hs.1]; exact this
            rw [if_neg (by decide), inb_nI hi (by decide), if_pos rfl, nI_clamp (by omega), e6, c_isIn (by omega), bnd_some, q_bit_nI (by omega) (by omega), hno, if_pos rfl, Wq_ret]
            exact ⟨rfl, rfl⟩
    · rintro x M1 ⟨rfl, rfl⟩
      refine Sq.mk (k := 5) hD (fun D' hD' => ?_)
      refine Lq.of (t_54_0_ok X (callw X D') n tot kn kx _ _ _ M1) ?_
      unfold t_54_0
      rw [o_nI, o_nI, m_in (by omega), bnd_some]
      rcases hno with hno | hno | ⟨i, j, hi, hj, rfl, rfl, hno⟩
      · rw [hno]; simp (disch := omega) only [m1_nI, m1n, o_nI, z_nI, i1_nI, im1_nI, bnd_some, Wq_ret, Wq_jmp, up_ne, up_at, upW_s, upW_n, inb_nI, nI_clamp, ↓reduceIte, b2i_0, reduceCtorEq, Bool.true_eq_false, Bool.false_eq_true]; exact ⟨by trivial, h⟩
      · cases q_in v 0 3 with
        | false => simp (disch := omega) only [m1_nI, m1n, o_nI, z_nI, i1_nI, im1_nI, bnd_some, Wq_ret, Wq_jmp, up_ne, up_at, upW_s, upW_n, inb_nI, nI_clamp, ↓reduceIte, b2i_0, reduceCtorEq, Bool.true_eq_false, Bool.false_eq_true]; exact ⟨by trivial, h⟩
        | true =>
          rw [if_neg (by decide), m_in (by omega), bnd_some, hno]
          simp (disch := omega) only [m1_nI, m1n, o_nI, z_nI, i1_nI, im1_nI, bnd_some, Wq_ret, Wq_jmp, up_ne, up_at, upW_s, upW_n, inb_nI, nI_clamp, ↓reduceIte, b2i_0, reduceCtorEq, Bool.true_eq_false, Bool.false_eq_true]; exact ⟨by trivial, h⟩
      · cases q_in (nI i) 0 3 with
        | false => simp (disch := omega) only [m1_nI, m1n, o_nI, z_nI, i1_nI, im1_nI, bnd_some, Wq_ret, Wq_jmp, up_ne, up_at, upW_s, upW_n, inb_nI, nI_clamp, ↓reduceIte, b2i_0, reduceCtorEq, Bool.true_eq_false, Bool.false_eq_true]; exact ⟨by trivial, h⟩
        | true =>
          rw [if_neg (by decide), m_in (by omega), bnd_some]
          cases q_in (nI j) 0 3 with
          | false => simp (disch := omega) only [m1_nI, m1n, o_nI, z_nI, i1_nI, im1_nI, bnd_some, Wq_ret, Wq_jmp, up_ne, up_at, upW_s, upW_n, inb_nI, nI_clamp, ↓reduceIte, b2i_0, reduceCtorEq, Bool.true_eq_false, Bool.false_eq_true]; exact ⟨by trivial, h⟩
          | true =>
            have hs := hX.2.2.2.2.2.1 i hi
            have hs2 := hs.2
            rw [if_neg (by decide), m_mayIts (by omega) (by omega), bnd_some, hs.1, q_bit_nI (by omega) (by omega), hno, if_pos rfl, Wq_ret]
            exact ⟨rfl, h⟩
  cases hv : q_in v 0 3 with
  | false => exact nothing (Or.inl hv)
  | true =>
  cases hv2 : q_in v2 0 3 with
  | false => exact nothing (Or.inr (Or.inl hv2))
  | true =>
    obtain ⟨i, _, hi, rfl⟩ := q_in_t (by decide) (by decide) hv
    obtain ⟨j, _, hj, rfl⟩ := q_in_t (by decide) (by decide) hv2
    have hi4 : i < 4 := by omega
    have hs := hX.2.2.2.2.2.1 i hi4
    have hs2 := hs.2
    have e6 : M 16 i = nI (q_n (M 179) (4 + i)) := by
      have := hX.2.1.2.2.2.2.2.2.2.2.2 i hi4
      rw [Nat.one_mul] at this
      rw [← hs.1]; exact this
    rcases with_ok _ hs2 j (by omega) o with hno | ⟨w1, w2, w3⟩
    · exact nothing (Or.inr (Or.inr ⟨i, j, hi4, by omega, rfl, rfl, hno⟩))
    by_cases hno : (q_n (M 179) (4 + i)).testBit j = o
    · exact nothing (Or.inr (Or.inr ⟨i, j, hi4, by omega, rfl, rfl, hno⟩))
    refine Pr.mk (Q1 := fun x M2 => x = nI 1 ∧ ∃ M1, KpP (M 179) M b p M1 ∧ M2 = up M1 16 i (nI (q_n (M 179) (4 + i) ^^^ 2 ^ j))) (Sq.mk (k := 5) hD (fun D' hD' => ?_)) ?_
    · refine Lq.of (t_52_0_ok X (callw X D') n tot kn kx _ _ _ M) ?_
      unfold t_52_0
      rw [o_nI, c_in (by omega), bnd_some, hv, if_neg (by decide), c_in (by omega), bnd_some, hv2, if_neg (by decide), inb_nI hi4 (by decide), if_pos rfl, nI_clamp (by omega), e6, c_isIn (by omega), bnd_some, q_bit_nI (by omega) (by omega), if_neg (by rw [b2i_inj]; exact hno)]
      refine Wq.call (c_keep (W := M 179) (show 4 ≤ D' by omega) hb hp h3.1 h3.2.1 hX.2.1) ?_
      rintro x M1 hk
      rw [c_with (by omega), bnd_some, w2, if_pos rfl, Wq_ret]
      exact ⟨rfl, M1, hk, rfl⟩
    · rintro x M2 ⟨rfl, M1, hk, hM2⟩
      have k := hk.2.2.2.2
      have hc1 := (hk.cx hX).2.1
      have f2 : Fr [16] M1 M2 := by
        rw [hM2]
        exact Fr.rf.up (by decide)
      have e9 : M2 179 = M 179 := by rw [f2 179 (by decide), k 179 (by omega) (by omega)]
      have e84 : M2 178 4 = nI b := by rw [f2 178 (by decide), k 178 (by omega) (by omega)]; exact h6.1
      refine Sq.mk (k := 5) hD (fun D' hD' => ?_)
      refine Lq.of (t_54_0_ok X (callw X D') n tot kn kx _ _ _ M2) ?_
      unfold t_54_0
      rw [o_nI, o_nI, m_in (by omega), bnd_some, hv, if_neg (by decide), m_in (by omega), bnd_some, hv2, if_neg (by decide), m_mayIts (by omega) (by omega), bnd_some, e9, hs.1, q_bit_nI (by omega) (by omega), if_neg (by rw [b2i_inj]; exact hno)]
      refine Wq.call (m_keeps (show 1 ≤ D' by omega) hb e84) ?_
      rintro y M3 ⟨g8, g1, hf3⟩
      have e93 : M3 179 = M 179 := by rw [hf3 179 (by decide), e9]
      rw [o_nI, o_nI, nI_add, inb_nI (by omega) (by decide), if_pos rfl, if_pos rfl, nI_clamp (by omega), Wq_ret, e93, hs.1, ← w1, w2]
      refine ⟨rfl, ?_⟩
      have hY : sameY (M 179) (upW (M 179) (4 + i) (nI (q_n (M 179) (4 + i) ^^^ 2 ^ j))) := sameY.rf.up (by unfold mvI; omega)
      refine h.told (W' := upW (M 179) (4 + i) (nI (q_n (M 179) (4 + i) ^^^ 2 ^ j))) hb hp h3 h6 h8 hk f2 (by decide) ?_ hY (fun k hk => upW_n (by omega)) ?_ g8 g1 hf3 (Fr.rf.up (by decide)) (by rw [up_at, e93])
      · rw [hM2]; exact hc1.may hi4
      · obtain ⟨i1, i2, i3, i4, i5⟩ := hX.2.2.2
        refine ⟨q_lt_un (by omega) i1, q_lt_un (by omega) i2, fun b hb => q_lt_up w3 (by decide) (fun _ => i3 b hb), fun t ht => ?_, fun i' hi' => ?_⟩
        · obtain ⟨a, b, c⟩ := i4 t ht
          refine ⟨q_lt_un (by omega) a, q_lt_un (by omega) b, ?_⟩
          rw [q_n_up (by omega), upW_n (by omega)]; exact c
        · rw [q_n_up (by omega)] at hi'
          obtain ⟨a, b, c⟩ := i5 i' hi'
          refine ⟨q_lt_un (by omega) a, ?_⟩
          rw [q_n_up (show 8 + i' ≠ 4 + i by omega), q_n_up (show 143 + 3 * i' ≠ 4 + i by omega)]; exact ⟨b, c.cg (by omega) (fun k' hk' => upW_n (by omega))⟩
end
