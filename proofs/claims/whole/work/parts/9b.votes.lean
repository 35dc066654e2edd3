section
-- needs: ready
/-! counting, votes -/
def q_bcX (x0 : Int32) : Int32 := ((((((((x0 - (((x0).toUInt32 >>> (((Int32.ofNat 1)).toUInt32 &&& Int32.toUInt32 31)).toInt32 &&& (Int32.ofNat 1431655765))) &&& (Int32.ofNat 858993459)) + ((((x0 - (((x0).toUInt32 >>> (((Int32.ofNat 1)).toUInt32 &&& Int32.toUInt32 31)).toInt32 &&& (Int32.ofNat 1431655765)))).toUInt32 >>> (((Int32.ofNat 2)).toUInt32 &&& Int32.toUInt32 31)).toInt32 &&& (Int32.ofNat 858993459))) + (((((x0 - (((x0).toUInt32 >>> (((Int32.ofNat 1)).toUInt32 &&& Int32.toUInt32 31)).toInt32 &&& (Int32.ofNat 1431655765))) &&& (Int32.ofNat 858993459)) + ((((x0 - (((x0).toUInt32 >>> (((Int32.ofNat 1)).toUInt32 &&& Int32.toUInt32 31)).toInt32 &&& (Int32.ofNat 1431655765)))).toUInt32 >>> (((Int32.ofNat 2)).toUInt32 &&& Int32.toUInt32 31)).toInt32 &&& (Int32.ofNat 858993459)))).toUInt32 >>> (((Int32.ofNat 4)).toUInt32 &&& Int32.toUInt32 31)).toInt32) &&& (Int32.ofNat 252645135)) + (((((((x0 - (((x0).toUInt32 >>> (((Int32.ofNat 1)).toUInt32 &&& Int32.toUInt32 31)).toInt32 &&& (Int32.ofNat 1431655765))) &&& (Int32.ofNat 858993459)) + ((((x0 - (((x0).toUInt32 >>> (((Int32.ofNat 1)).toUInt32 &&& Int32.toUInt32 31)).toInt32 &&& (Int32.ofNat 1431655765)))).toUInt32 >>> (((Int32.ofNat 2)).toUInt32 &&& Int32.toUInt32 31)).toInt32 &&& (Int32.ofNat 858993459))) + (((((x0 - (((x0).toUInt32 >>> (((Int32.ofNat 1)).toUInt32 &&& Int32.toUInt32 31)).toInt32 &&& (Int32.ofNat 1431655765))) &&& (Int32.ofNat 858993459)) + ((((x0 - (((x0).toUInt32 >>> (((Int32.ofNat 1)).toUInt32 &&& Int32.toUInt32 31)).toInt32 &&& (Int32.ofNat 1431655765)))).toUInt32 >>> (((Int32.ofNat 2)).toUInt32 &&& Int32.toUInt32 31)).toInt32 &&& (Int32.ofNat 858993459)))).toUInt32 >>> (((Int32.ofNat 4)).toUInt32 &&& Int32.toUInt32 31)).toInt32) &&& (Int32.ofNat 252645135))).toUInt32 >>> (((Int32.ofNat 8)).toUInt32 &&& Int32.toUInt32 31)).toInt32) + ((((((((x0 - (((x0).toUInt32 >>> (((Int32.ofNat 1)).toUInt32 &&& Int32.toUInt32 31)).toInt32 &&& (Int32.ofNat 1431655765))) &&& (Int32.ofNat 858993459)) + ((((x0 - (((x0).toUInt32 >>> (((Int32.ofNat 1)).toUInt32 &&& Int32.toUInt32 31)).toInt32 &&& (Int32.ofNat 1431655765)))).toUInt32 >>> (((Int32.ofNat 2)).toUInt32 &&& Int32.toUInt32 31)).toInt32 &&& (Int32.ofNat 858993459))) + (((((x0 - (((x0).toUInt32 >>> (((Int32.ofNat 1)).toUInt32 &&& Int32.toUInt32 31)).toInt32 &&& (Int32.ofNat 1431655765))) &&& (Int32.ofNat 858993459)) + ((((x0 - (((x0).toUInt32 >>> (((Int32.ofNat 1)).toUInt32 &&& Int32.toUInt32 31)).toInt32 &&& (Int32.ofNat 1431655765)))).toUInt32 >>> (((Int32.ofNat 2)).toUInt32 &&& Int32.toUInt32 31)).toInt32 &&& (Int32.ofNat 858993459)))).toUInt32 >>> (((Int32.ofNat 4)).toUInt32 &&& Int32.toUInt32 31)).toInt32) &&& (Int32.ofNat 252645135)) + (((((((x0 - (((x0).toUInt32 >>> (((Int32.ofNat 1)).toUInt32 &&& Int32.toUInt32 31)).toInt32 &&& (Int32.ofNat 1431655765))) &&& (Int32.ofNat 858993459)) + ((((x0 - (((x0).toUInt32 >>> (((Int32.ofNat 1)).toUInt32 &&& Int32.toUInt32 31)).toInt32 &&& (Int32.ofNat 1431655765)))).toUInt32 >>> (((Int32.ofNat 2)).toUInt32 &&& Int32.toUInt32 31)).toInt32 &&& (Int32.ofNat 858993459))) + (((((x0 - (((x0).toUInt32 >>> (((Int32.ofNat 1)).toUInt32 &&& Int32.toUInt32 31)).toInt32 &&& (Int32.ofNat 1431655765))) &&& (Int32.ofNat 858993459)) + ((((x0 - (((x0).toUInt32 >>> (((Int32.ofNat 1)).toUInt32 &&& Int32.toUInt32 31)).toInt32 &&& (Int32.ofNat 1431655765)))).toUInt32 >>> (((Int32.ofNat 2)).toUInt32 &&& Int32.toUInt32 31)).toInt32 &&& (Int32.ofNat 858993459)))).toUInt32 >>> (((Int32.ofNat 4)).toUInt32 &&& Int32.toUInt32 31)).toInt32) &&& (Int32.ofNat 252645135))).toUInt32 >>> (((Int32.ofNat 8)).toUInt32 &&& Int32.toUInt32 31)).toInt32)).toUInt32 >>> (((Int32.ofNat 16)).toUInt32 &&& Int32.toUInt32 31)).toInt32) &&& (Int32.ofNat 63))
/-- how many are in a set -/
def q_bc (a : Nat) : Nat := cnt (fun i => a.testBit i) 8
set_option maxRecDepth 20000 in
theorem q_bcX_ok : ∀ a, a < 256 → q_bcX (nI a) = nI (q_bc a) := by decide +kernel
variable {X : KXw} {n tot kn D : Nat} {kx : Nat → Nat × Nat} {M : MMw}
theorem c_bits (hD : 1 ≤ D) {a : Nat} (ha : a < 256) : callw X D 182 [.inl (nI a)] (Gk n tot kn kx) M = some (nI (q_bc a), Gk n tot kn kx, M) :=
  ex1 hD (fun cl => t_182_0_ok X cl n tot kn kx _ M) (fun cl => by
    rw [show t_182_0 X cl n tot kn kx (nI a) M = some (.inl (q_bcX (nI a), Gk n tot kn kx, M)) from rfl, q_bcX_ok a ha])
theorem m_count (hD : 1 ≤ D) {a : Nat} (ha : a < 2 ^ 31) : callw X D 196 [.inl (nI a)] (Gk n tot kn kx) M = some (nI (q_bc a), Gk n tot kn kx, M) :=
  Sq.eq (Sq.mk (k := 0) hD (fun D' hD' => by
    refine Lq.of (t_196_0_ok X (callw X D') n tot kn kx _ M) ?_
    unfold t_196_0
    rw [Wq_jmp, o_nI]
    have loop : ∀ c i : Nat, i + c = 8 → Lq X (callw X D') 196 4 [some (.inl (nI a)), some (.inl (nI (cnt (fun i => a.testBit i) i))), some (.inl (nI i))] (Gk n tot kn kx) M (fun x M1 => x = nI (q_bc a) ∧ M1 = M) := by
      intro c
      induction c with
      | zero =>
        intro i hi
        refine Lq.of (t_196_4_ok X (callw X D') n tot kn kx _ _ _ M) ?_
        unfold t_196_4
        rw [o_nI, if_neg (by rw [lt_i (by omega) (by omega)]; omega), Wq_ret, show i = 8 by omega]
        exact ⟨rfl, rfl⟩
      | succ c ih =>
        intro i hi
        refine Lq.of (t_196_4_ok X (callw X D') n tot kn kx _ _ _ M) ?_
        unfold t_196_4
        rw [o_nI, if_pos (by rw [lt_i (by omega) (by omega)]; omega), Wq_jmp, o_nI, nI_tb ha (by omega), nI_add, i1_nI, nI_add]
        exact ih (i + 1) (by omega)
    exact loop 8 0 (by omega)))
def q_fac : Nat → Nat
  | 0 => 1
  | n + 1 => (n + 1) * q_fac n
theorem m_orders1 : ∀ {k D : Nat}, k < 8 → k + 1 ≤ D → callw X D 197 [.inl (nI k)] (Gk n tot kn kx) M = some (nI (q_fac k), Gk n tot kn kx, M)
  | 0, D, _, hD => ex1 (by omega) (fun cl => t_197_0_ok X cl n tot kn kx _ M) (fun cl => by
      unfold t_197_0
      rw [o_nI, if_pos (by decide +kernel)]; rfl)
  | 1, D, _, hD => ex1 (by omega) (fun cl => t_197_0_ok X cl n tot kn kx _ M) (fun cl => by
      unfold t_197_0
      rw [o_nI, if_pos (by decide +kernel)]; rfl)
  | k + 2, D, hk, hD => exk (k := k + 2) hD (fun D' hD' => t_197_0_ok X (callw X D') n tot kn kx _ M) (fun D' hD' => by
      unfold t_197_0
      rw [o_nI, o_nI, if_neg (by rw [lt_i (by omega) (by omega)]; omega), nI_sub (by omega), show k + 2 - 1 = k + 1 from rfl, m_orders1 (k := k + 1) (by omega) (by omega), bnd_some, nI_mul]
      rfl)
theorem ord_ok : ∀ k, k < 8 → ordJ.getD k 0 = nI (q_fac k) := by decide +kernel
theorem c_ordersWith (hD : 1 ≤ D) {T a : Nat} (hT : M 2 0 = nI T) (hT8 : T ≤ 8) (ha : a + 1 ≤ T) : callw X D 183 [.inr (.inl 2), .inl (nI a)] (Gk n tot kn kx) M = some (nI (q_fac a * q_fac (T - 1 - a)), Gk n tot kn kx, M) :=
  ex1 hD (fun cl => t_183_p2_0_ok X cl n tot kn kx _ M) (fun cl => by
    unfold t_183_p2_0
    simp only [o_nI]
    have k1 : kLen X 56 = 8 := rfl
    have k2 : ∀ i, kAt X 56 i = ordJ.getD i 0 := fun i => rfl
    rw [hT, nI_sub (by omega), nI_sub (by omega), and7 (by omega), and7 (by omega), k1, inb_nI (by omega) (by decide), if_pos rfl, inb_nI (by omega) (by decide), if_pos rfl, nI_clamp (by omega), nI_clamp (by omega), k2, k2, ord_ok _ (by omega), ord_ok _ (by omega), nI_mul])
/-- the votes of a set, of the tools below n -/
def q_vs (W : Nat → Int32) (set : Nat) : Nat → Int32
  | 0 => nI 0
  | n + 1 => if set.testBit n then q_vs W set n + W (21 + 10 * n) else q_vs W set n
theorem q_vs_hi {W : Nat → Int32} {set T : Nat} (hs : set < 2 ^ T) : ∀ c, q_vs W set (T + c) = q_vs W set T
  | 0 => rfl
  | c + 1 => by
    have e : set.testBit (T + c) = false := Nat.testBit_lt_two_pow (Nat.lt_of_lt_of_le hs (Nat.pow_le_pow_right (by decide) (by omega)))
    show (if set.testBit (T + c) then _ else _) = _
    rw [e, if_neg (by decide)]
    exact q_vs_hi hs c
def q_agree (W : Nat → Int32) (set : Nat) : Bool := !decide (q_vs W set (q_n W 96) < W 103)
theorem c_agrees (hD : 2 ≤ D) {W : Nat → Int32} {set : Nat} (hc : CRcrew M 2 W) (hT8 : q_n W 96 ≤ 8) (hs : set < 2 ^ q_n W 96) : callw X D 181 [.inr (.inl 2), .inl (nI set)] (Gk n tot kn kx) M = some (b2i (q_agree W set), Gk n tot kn kx, M) :=
  Sq.eq (Sq.mk (k := 1) hD (fun D' hD' => by
    refine Lq.of (t_181_p2_0_ok X (callw X D') n tot kn kx _ M) ?_
    unfold t_181_p2_0
    rw [Wq_jmp, o_nI]
    have h256 : set < 2 ^ 8 := Nat.lt_of_lt_of_le hs (Nat.pow_le_pow_right (by decide) hT8)
    have loop : ∀ c i : Nat, i + c = 8 → Lq X (callw X D') 181 4 [some (.inr (.inl 2)), some (.inl (nI set)), some (.inl (q_vs W set i)), some (.inl (nI i))] (Gk n tot kn kx) M (fun x M1 => x = b2i (q_agree W set) ∧ M1 = M) := by
      intro c
      induction c with
      | zero =>
        intro i hi
        refine Lq.of (t_181_p2_4_ok X (callw X D') n tot kn kx _ _ _ M) ?_
        unfold t_181_p2_4
        have e8 : q_vs W set i = q_vs W set (q_n W 96) := by
          have := q_vs_hi (W := W) hs (8 - q_n W 96)
          rw [show q_n W 96 + (8 - q_n W 96) = i by omega] at this
          exact this
        rw [o_nI, if_neg (by rw [lt_i (by omega) (by omega)]; omega), e8, hc.2.2.2.1]
        unfold q_agree
        by_cases h : q_vs W set (q_n W 96) < W 103
        · rw [if_pos h, Wq_ret, decide_eq_true h]; exact ⟨rfl, rfl⟩
        · rw [if_neg h, Wq_ret, decide_eq_false h]; exact ⟨rfl, rfl⟩
      | succ c ih =>
        intro i hi
        refine Lq.of (t_181_p2_4_ok X (callw X D') n tot kn kx _ _ _ M) ?_
        unfold t_181_p2_4
        have := ih (i + 1) (by omega)
        rw [q_vs] at this
        have e6 : M 6 i = W (21 + 10 * i) := hc.2.2.2.2.2.2.2.1 i (by omega)
        simp only [o_nI]
        rw [if_pos (by rw [lt_i (by omega) (by omega)]; omega), c_isIn (by omega), bnd_some, q_bit_nI (by omega) (by omega)]
        cases hb : set.testBit i with
        | false =>
          rw [hb, if_neg (by decide)] at this
          rw [if_pos (by rfl), Wq_jmp, i1_nI, nI_add]
          exact this
        | true =>
          rw [hb, if_pos rfl] at this
          rw [if_neg (by decide), inb_nI (by omega) (by decide), if_pos rfl, nI_clamp (by omega), e6, Wq_jmp, i1_nI, nI_add]
          exact this
    exact loop 8 0 (by omega)))
theorem m_votesOf (hD : 2 ≤ D) {set : Nat} (h96 : q_lt (M 179) 96 9) (hs : set < 2 ^ 31) : callw X D 192 [.inr (.inl 178), .inl (nI set)] (Gk n tot kn kx) M = some (q_vs (M 179) set (q_n (M 179) 96), Gk n tot kn kx, M) :=
  Sq.eq (Sq.mk (k := 1) hD (fun D' hD' => by
    refine Lq.of (t_192_0_ok X (callw X D') n tot kn kx _ M) ?_
    unfold t_192_0
    rw [Wq_jmp, o_nI]
    obtain ⟨w1, w2⟩ := h96
    have loop : ∀ c i : Nat, i + c = q_n (M 179) 96 → Lq X (callw X D') 192 4 [some (.inr (.inl 178)), some (.inl (nI set)), some (.inl (q_vs (M 179) set i)), some (.inl (nI i))] (Gk n tot kn kx) M (fun x M1 => x = q_vs (M 179) set (q_n (M 179) 96) ∧ M1 = M) := by
      intro c
      induction c with
      | zero =>
        intro i hi
        refine Lq.of (t_192_4_ok X (callw X D') n tot kn kx _ _ _ M) ?_
        unfold t_192_4
        rw [w1, if_neg (by rw [lt_i (by omega) (by omega)]; omega), Wq_ret, show i = q_n (M 179) 96 by omega]
        exact ⟨rfl, rfl⟩
      | succ c ih =>
        intro i hi
        refine Lq.of (t_192_4_ok X (callw X D') n tot kn kx _ _ _ M) ?_
        unfold t_192_4
        have := ih (i + 1) (by omega)
        rw [q_vs] at this
        simp only [o_nI]
        rw [w1, if_pos (by rw [lt_i (by omega) (by omega)]; omega), nI_tb hs (by omega)]
        cases hb : set.testBit i with
        | false =>
          rw [hb, if_neg (by decide)] at this
          rw [if_neg (by decide +kernel), Wq_jmp, i1_nI, nI_add, show q_vs (M 179) set i + nI 0 = q_vs (M 179) set i from Int32.add_zero _]
          exact this
        | true =>
          rw [hb, if_pos rfl] at this
          rw [if_pos (by decide +kernel), m_ofTool (by omega) (by omega), bnd_some, Wq_jmp, i1_nI, nI_add, show 16 + 10 * i + 5 = 21 + 10 * i by omega]
          exact this
    exact loop (q_n (M 179) 96) 0 (by omega)))
theorem m_isAgreed (hD : 3 ≤ D) {set : Nat} (h96 : q_lt (M 179) 96 9) (hs : set < 2 ^ 31) : callw X D 193 [.inr (.inl 178), .inl (nI set)] (Gk n tot kn kx) M = some (b2i (q_agree (M 179) set), Gk n tot kn kx, M) :=
  exk (k := 2) hD (fun D' hD' => t_193_0_ok X (callw X D') n tot kn kx _ M) (fun D' hD' => by
    unfold t_193_0 q_agree
    rw [m_votesOf hD' h96 hs, bnd_some]
    by_cases h : q_vs (M 179) set (q_n (M 179) 96) < M 179 103
    · rw [if_pos h, decide_eq_true h]; rfl
    · rw [if_neg h, decide_eq_false h]; rfl)
theorem P_vote (hD : 4 ≤ D) {v : Int32} {len s : Nat} (h : Rl kn len s M) : Pr X D 273 274 [.inr (.inl 0), .inl v] [.inr (.inl 178), .inl v] (Gk n tot kn kx) M (Rl kn len s) := by
  have hX := h.1.1
  have h96 := hX.2.2.1.1.1
  obtain ⟨T, hT⟩ : ∃ T, q_n (M 179) 96 = T := ⟨_, rfl⟩
  obtain ⟨w1, w2⟩ := id h96
  rw [hT] at w1 w2
  have e20 : M 2 0 = nI T := by rw [hX.1.1.1]; exact w1
  have p1 : 1 ≤ 2 ^ T := Nat.one_le_two_pow
  have p2 : 2 ^ T ≤ 2 ^ 8 := Nat.pow_le_pow_right (by decide) (by omega)
  cases hq : q_is v (2 ^ T) with
  | false =>
    refine Pr.mk (Q1 := fun x M1 => x = -1 ∧ M1 = M) (Sq.mk (k := 3) hD (fun D' hD' => ?_)) ?_
    · refine Lq.of (t_273_0_ok X (callw X D') n tot kn kx _ M) ?_
      unfold t_273_0
      simp only [o_nI, m1n]
      rw [e20, nI_shl (by omega), Nat.one_mul]
      by_cases c1 : v < nI 0
      · rw [if_pos (show v < 0 from c1), Wq_ret]; exact ⟨rfl, rfl⟩
      rw [if_neg (show ¬ v < 0 from c1)]
      by_cases c2 : v < nI (2 ^ T)
      · exfalso
        unfold q_is at hq
        rw [decide_eq_false c1, decide_eq_true c2] at hq
        cases hq
      · rw [if_neg c2, Wq_ret]; exact ⟨rfl, rfl⟩
    · rintro x M1 ⟨rfl, rfl⟩
      refine Sq.mk (k := 3) hD (fun D' hD' => ?_)
      refine Lq.of (t_274_0_ok X (callw X D') n tot kn kx _ M1) ?_
      unfold t_274_0
      simp only [o_nI, m1n]
      rw [w1, nI_shl (by omega), Nat.one_mul, m_is (by omega) (by omega), bnd_some, hq, if_pos (by rfl), Wq_ret]
      exact ⟨rfl, h⟩
  | true =>
    obtain ⟨a, ha, rfl⟩ := q_is_t (by omega) hq
    refine Pr.mk (Q1 := fun x M1 => x = b2i (q_agree (M 179) a) ∧ M1 = M) (Sq.mk (k := 3) hD (fun D' hD' => ?_)) ?_
    · refine Lq.of (t_273_0_ok X (callw X D') n tot kn kx _ M) ?_
      unfold t_273_0
      simp only [o_nI, m1n]
      rw [e20, nI_shl (by omega), Nat.one_mul, if_neg (by rw [z_nI, lt_i (by omega) (by omega)]; omega), if_pos (by rw [lt_i (by omega) (by omega)]; exact ha), c_agrees (by omega) hX.1.1 (by omega) (by rw [hT]; exact ha), bnd_some]
      cases q_agree (M 179) a with
      | false => rw [if_pos (by rfl), Wq_ret]; exact ⟨rfl, rfl⟩
      | true => rw [if_neg (by decide), Wq_ret]; exact ⟨rfl, rfl⟩
    · rintro x M1 ⟨rfl, rfl⟩
      refine Sq.mk (k := 3) hD (fun D' hD' => ?_)
      refine Lq.of (t_274_0_ok X (callw X D') n tot kn kx _ M1) ?_
      unfold t_274_0
      simp only [o_nI, m1n]
      rw [w1, nI_shl (by omega), Nat.one_mul, m_is (by omega) (by omega), bnd_some, hq, if_neg (by decide), m_isAgreed (by omega) h96 (by omega), bnd_some]
      cases q_agree (M1 179) a with
      | false => rw [if_pos (by rfl), Wq_ret]; exact ⟨rfl, h⟩
      | true => rw [if_neg (by decide), Wq_ret]; exact ⟨rfl, h⟩
/-! swings and power -/
def q_swing (W : Nat → Int32) (t set : Nat) : Bool := !set.testBit t && (!q_agree W set && q_agree W (set ||| 2 ^ t))
def q_turn (W : Nat → Int32) (t : Nat) (o : Bool) : Nat → Nat
  | 0 => 0
  | set + 1 => if q_swing W t set then q_turn W t o set + (if o then q_fac (q_bc set) * q_fac (q_n W 96 - 1 - q_bc set) else 1) else q_turn W t o set
theorem cnt_lt {p : Nat → Bool} : ∀ {n t : Nat}, t < n → p t = false → cnt p n + 1 ≤ n
  | n + 1, t, h, hp => by
    rw [cnt_s]
    have h2 : (p n).toNat ≤ 1 := Bool.toNat_le (p n)
    rcases Nat.lt_or_ge t n with hl | hl
    · have := cnt_lt hl hp; omega
    · have e : t = n := by omega
      subst e
      rw [hp]
      have := cnt_le p t
      simp
      omega
theorem cnt_hi {p : Nat → Bool} {T : Nat} (h : ∀ i, T ≤ i → p i = false) : ∀ c, cnt p (T + c) = cnt p T
  | 0 => rfl
  | c + 1 => by
    show cnt p (T + c) + (p (T + c)).toNat = _
    rw [h (T + c) (by omega), cnt_hi h c]; rfl
theorem q_bc_lt {set T t : Nat} (hT : T ≤ 8) (hs : set < 2 ^ T) (ht : t < T) (hb : set.testBit t = false) : q_bc set + 1 ≤ T := by
  unfold q_bc
  have := cnt_hi (p := fun i => set.testBit i) (T := T) (fun i hi => Nat.testBit_lt_two_pow (Nat.lt_of_lt_of_le hs (Nat.pow_le_pow_right (by decide) hi))) (8 - T)
  rw [show T + (8 - T) = 8 by omega] at this
  rw [this]
  exact cnt_lt ht hb
theorem and_pow_0 {a i : Nat} (ha : a < 2 ^ 31) (hi : i < 31) : (nI a &&& nI (2 ^ i) = nI 0) = (a.testBit i = false) := by
  have hle : a &&& 2 ^ i ≤ a := Nat.and_le_left
  rw [nI_and, eq_i (by omega) (by decide)]
  apply propext
  constructor
  · intro h
    have h2 := congrArg (fun x => x.testBit i) h
    simp only [Nat.testBit_and, Nat.testBit_two_pow, Nat.zero_testBit, decide_true, Bool.and_true] at h2
    exact h2
  · intro h
    apply Nat.eq_of_testBit_eq
    intro j
    rw [Nat.testBit_and, Nat.testBit_two_pow, Nat.zero_testBit]
    by_cases e : i = j
    · rw [← e, h]; rfl
    · rw [decide_eq_false e, Bool.and_false]
theorem or_lt_pow {a i T : Nat} (ha : a < 2 ^ T) (hi : i < T) : a ||| 2 ^ i < 2 ^ T := Nat.or_lt_two_pow ha (Nat.pow_lt_pow_right (by decide) hi)
theorem c_turns (hD : 3 ≤ D) {W : Nat → Int32} {t : Nat} {o : Bool} (hc : CRcrew M 2 W) (h96 : q_lt W 96 9) (ht : t < q_n W 96) : callw X D 184 [.inr (.inl 2), .inl (nI t), .inl (b2i o)] (Gk n tot kn kx) M = some (nI (q_turn W t o (2 ^ q_n W 96)), Gk n tot kn kx, M) :=
  Sq.eq (Sq.mk (k := 2) hD (fun D' hD' => by
    refine Lq.of (t_184_p2_0_ok X (callw X D') n tot kn kx _ _ M) ?_
    unfold t_184_p2_0
    obtain ⟨T, hT⟩ : ∃ T, q_n W 96 = T := ⟨_, rfl⟩
    obtain ⟨w1, w2⟩ := h96
    rw [hT] at w1 w2 ht ⊢
    have e20 : M 2 0 = nI T := by rw [hc.1]; exact w1
    have p1 : 1 ≤ 2 ^ T := Nat.one_le_two_pow
    have p2 : 2 ^ T ≤ 2 ^ 8 := Nat.pow_le_pow_right (by decide) (by omega)
    have pt : 2 ^ t ≤ 2 ^ 8 := Nat.pow_le_pow_right (by decide) (by omega)
    simp only [o_nI]
    rw [Wq_jmp, nI_shl (by omega), Nat.one_mul]
    have loop : ∀ c set : Nat, set + c = 2 ^ T → Lq X (callw X D') 184 10 [some (.inr (.inl 2)), none, some (.inl (b2i o)), some (.inl (nI (q_turn W t o set))), some (.inl (nI (2 ^ t))), some (.inl (nI set))] (Gk n tot kn kx) M (fun x M1 => x = nI (q_turn W t o (2 ^ T)) ∧ M1 = M) := by
      intro c
      induction c with
      | zero =>
        intro set hi
        refine Lq.of (t_184_p2_10_ok X (callw X D') n tot kn kx _ _ _ _ M) ?_
        unfold t_184_p2_10
        rw [c_allTools (by omega) e20 (by omega), bnd_some, if_pos (by rw [lt_i (by omega) (by omega)]; omega), Wq_ret, show set = 2 ^ T by omega]
        exact ⟨rfl, rfl⟩
      | succ c ih =>
        intro set hi
        refine Lq.of (t_184_p2_10_ok X (callw X D') n tot kn kx _ _ _ _ M) ?_
        unfold t_184_p2_10
        have hs : set < 2 ^ T := by omega
        have hnext := ih (set + 1) (by omega)
        rw [q_turn] at hnext
        simp only [o_nI, z_nI]
        rw [c_allTools (by omega) e20 (by omega), bnd_some, if_neg (by rw [lt_i (by omega) (by omega)]; omega)]
        unfold q_swing at hnext
        cases hb : set.testBit t with
        | true =>
          rw [hb] at hnext
          rw [if_neg (by rw [and_pow_0 (by omega) (by omega), hb]; decide), Wq_jmp, i1_nI, nI_add]
          exact hnext
        | false =>
          rw [hb] at hnext
          rw [if_pos (by rw [and_pow_0 (by omega) (by omega)]; exact hb), c_agrees (by omega) hc (by omega) (by rw [hT]; exact hs), bnd_some]
          cases ha : q_agree W set with
          | true =>
            rw [ha] at hnext
            rw [if_neg (by decide +kernel), Wq_jmp, i1_nI, nI_add]
            exact hnext
          | false =>
            rw [ha] at hnext
            rw [if_pos (by rfl), nI_or, c_agrees (by omega) hc (by omega) (by rw [hT]; exact or_lt_pow hs ht), bnd_some]
            cases ha2 : q_agree W (set ||| 2 ^ t) with
            | false =>
              rw [ha2] at hnext
              rw [if_pos (by rfl), Wq_jmp, i1_nI, nI_add]
              exact hnext
            | true =>
              rw [ha2, if_pos (by decide)] at hnext
              rw [if_neg (by decide +kernel)]
              cases o with
              | false =>
                rw [if_neg (by decide)] at hnext
                rw [if_pos (by rfl), Wq_jmp, i1_nI, nI_add, nI_add]
                exact hnext
              | true =>
                rw [if_pos rfl, hT] at hnext
                rw [if_neg (by decide +kernel), c_bits (by omega) (by omega), bnd_some, c_ordersWith (by omega) e20 (by omega) (q_bc_lt (by omega) hs ht hb), bnd_some, Wq_jmp, i1_nI, nI_add, nI_add]
                exact hnext
    exact loop (2 ^ T) 0 (by omega)))
theorem m_isSwing (hD : 4 ≤ D) {t set : Nat} (h96 : q_lt (M 179) 96 9) (hs : set < 2 ^ q_n (M 179) 96) (ht : t < q_n (M 179) 96) : callw X D 194 [.inr (.inl 178), .inl (nI t), .inl (nI set)] (Gk n tot kn kx) M = some (b2i (q_swing (M 179) t set), Gk n tot kn kx, M) :=
  exk (k := 3) hD (fun D' hD' => t_194_0_ok X (callw X D') n tot kn kx _ _ M) (fun D' hD' => by
    unfold t_194_0 q_swing
    have w2 := h96.2
    have p2 : 2 ^ q_n (M 179) 96 ≤ 2 ^ 8 := Nat.pow_le_pow_right (by decide) (by omega)
    have ho := or_lt_pow hs ht
    simp only [o_nI, z_nI]
    rw [nI_tb (by omega) (by omega), nI_shl (by omega), Nat.one_mul, nI_or]
    cases hb : set.testBit t with
    | true => rw [if_neg (by decide +kernel)]; rfl
    | false =>
      rw [if_pos (by rfl), m_isAgreed hD' h96 (by omega), bnd_some]
      cases ha : q_agree (M 179) set with
      | true => rw [if_neg (by decide +kernel)]; rfl
      | false =>
        rw [if_pos (by rfl), m_isAgreed hD' h96 (by omega), bnd_some]
        cases ha2 : q_agree (M 179) (set ||| 2 ^ t) with
        | false => rw [if_pos (by rfl)]; rfl
        | true => rw [if_neg (by decide +kernel)]; rfl)
theorem m_swings (hD : 5 ≤ D) {t : Nat} (h96 : q_lt (M 179) 96 9) (ht : t < q_n (M 179) 96) : callw X D 195 [.inr (.inl 178), .inl (nI t)] (Gk n tot kn kx) M = some (nI (q_turn (M 179) t false (2 ^ q_n (M 179) 96)), Gk n tot kn kx, M) :=
  Sq.eq (Sq.mk (k := 4) hD (fun D' hD' => by
    refine Lq.of (t_195_0_ok X (callw X D') n tot kn kx _ M) ?_
    unfold t_195_0
    rw [Wq_jmp, o_nI]
    obtain ⟨w1, w2⟩ := id h96
    have p1 : 1 ≤ 2 ^ q_n (M 179) 96 := Nat.one_le_two_pow
    have p2 : 2 ^ q_n (M 179) 96 ≤ 2 ^ 8 := Nat.pow_le_pow_right (by decide) (by omega)
    have loop : ∀ c set : Nat, set + c = 2 ^ q_n (M 179) 96 → Lq X (callw X D') 195 4 [some (.inr (.inl 178)), some (.inl (nI t)), some (.inl (nI (q_turn (M 179) t false set))), some (.inl (nI set))] (Gk n tot kn kx) M (fun x M1 => x = nI (q_turn (M 179) t false (2 ^ q_n (M 179) 96)) ∧ M1 = M) := by
      intro c
      induction c with
      | zero =>
        intro set hi
        refine Lq.of (t_195_4_ok X (callw X D') n tot kn kx _ _ _ M) ?_
        unfold t_195_4
        rw [w1, o_nI, nI_shl (by omega), Nat.one_mul, if_neg (by rw [lt_i (by omega) (by omega)]; omega), Wq_ret, show set = 2 ^ q_n (M 179) 96 by omega]
        exact ⟨rfl, rfl⟩
      | succ c ih =>
        intro set hi
        refine Lq.of (t_195_4_ok X (callw X D') n tot kn kx _ _ _ M) ?_
        unfold t_195_4
        have hnext := ih (set + 1) (by omega)
        rw [q_turn] at hnext
        simp only [o_nI, z_nI]
        rw [w1, nI_shl (by omega), Nat.one_mul, if_pos (by rw [lt_i (by omega) (by omega)]; omega), m_isSwing hD' h96 (by omega) ht, bnd_some]
        cases hb : q_swing (M 179) t set with
        | false =>
          rw [hb, if_neg (by decide)] at hnext
          rw [if_pos (by rfl), Wq_jmp, i1_nI, nI_add, nI_add]
          exact hnext
        | true =>
          rw [hb, if_pos rfl, if_neg (by decide)] at hnext
          rw [if_neg (by decide +kernel), Wq_jmp, i1_nI, nI_add, nI_add]
          exact hnext
    exact loop (2 ^ q_n (M 179) 96) 0 (by omega)))
theorem m_power (hD : 9 ≤ D) {t : Nat} (h96 : q_lt (M 179) 96 9) (ht : t < q_n (M 179) 96) : callw X D 198 [.inr (.inl 178), .inl (nI t)] (Gk n tot kn kx) M = some (nI (q_turn (M 179) t true (2 ^ q_n (M 179) 96)), Gk n tot kn kx, M) :=
  Sq.eq (Sq.mk (k := 8) hD (fun D' hD' => by
    refine Lq.of (t_198_0_ok X (callw X D') n tot kn kx _ M) ?_
    unfold t_198_0
    rw [Wq_jmp, o_nI]
    obtain ⟨w1, w2⟩ := id h96
    have p1 : 1 ≤ 2 ^ q_n (M 179) 96 := Nat.one_le_two_pow
    have p2 : 2 ^ q_n (M 179) 96 ≤ 2 ^ 8 := Nat.pow_le_pow_right (by decide) (by omega)
    have loop : ∀ c set : Nat, set + c = 2 ^ q_n (M 179) 96 → Lq X (callw X D') 198 4 [some (.inr (.inl 178)), some (.inl (nI t)), some (.inl (nI (q_turn (M 179) t true set))), some (.inl (nI set))] (Gk n tot kn kx) M (fun x M1 => x = nI (q_turn (M 179) t true (2 ^ q_n (M 179) 96)) ∧ M1 = M) := by
      intro c
      induction c with
      | zero =>
        intro set hi
        refine Lq.of (t_198_4_ok X (callw X D') n tot kn kx _ _ _ M) ?_
        unfold t_198_4
        rw [w1, o_nI, nI_shl (by omega), Nat.one_mul, if_neg (by rw [lt_i (by omega) (by omega)]; omega), Wq_ret, show set = 2 ^ q_n (M 179) 96 by omega]
        exact ⟨rfl, rfl⟩
      | succ c ih =>
        intro set hi
        refine Lq.of (t_198_4_ok X (callw X D') n tot kn kx _ _ _ M) ?_
        unfold t_198_4
        have hs : set < 2 ^ q_n (M 179) 96 := by omega
        have hnext := ih (set + 1) (by omega)
        rw [q_turn] at hnext
        simp only [o_nI, z_nI]
        rw [w1, nI_shl (by omega), Nat.one_mul, if_pos (by rw [lt_i (by omega) (by omega)]; omega), m_isSwing (by omega) h96 (by omega) ht, bnd_some]
        cases hb : q_swing (M 179) t set with
        | false =>
          rw [hb, if_neg (by decide)] at hnext
          rw [if_pos (by rfl), Wq_jmp, i1_nI, nI_add, nI_add]
          exact hnext
        | true =>
          rw [hb, if_pos rfl, if_pos rfl] at hnext
          have hbit : set.testBit t = false := by
            unfold q_swing at hb
            cases hh : set.testBit t with
            | false => rfl
            | true => rw [hh] at hb; cases hb
          have hbc := q_bc_lt (by omega) hs ht hbit
          rw [if_neg (by decide +kernel), m_count (by omega) (by omega), bnd_some, m_orders1 (by omega) (by omega), bnd_some, m_count (by omega) (by omega), bnd_some, w1, nI_sub (by omega), nI_sub (by omega), m_orders1 (by omega) (by omega), bnd_some, Wq_jmp, i1_nI, nI_add, nI_mul, nI_add]
          exact hnext
    exact loop (2 ^ q_n (M 179) 96) 0 (by omega)))
end
