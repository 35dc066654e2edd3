section
-- needs: few
/-! changes -/
theorem q_sum_bd {f : Nat → Nat} {c : Nat} : ∀ {n : Nat}, (∀ i, i < n → f i ≤ c) → q_sum f n ≤ n * c
  | 0, _ => Nat.zero_le _
  | n + 1, h => by
    show q_sum f n + f n ≤ (n + 1) * c
    have h1 := q_sum_bd (f := f) (c := c) (n := n) (fun i hi => h i (by omega))
    have h2 := h n (Nat.lt_succ_self n)
    rw [Nat.succ_mul]; omega
theorem q_cH_lt {W : Nat → Int32} {k : Nat} (hT : q_n W 96 ≤ 8) (hM : q_n W 97 ≤ 4) : q_cH W k ≤ 32 := by
  unfold q_cH
  have h1 := q_sum_bd (f := fun t => q_sum (fun m => (decide (q_kd W t = k) && q_serve W t m).toNat) (q_n W 97)) (c := 4) (n := q_n W 96) (fun t _ => by
    have h2 := q_sum_bd (f := fun m => (decide (q_kd W t = k) && q_serve W t m).toNat) (c := 1) (n := q_n W 97) (fun m _ => Bool.toNat_le _)
    omega)
  have : q_n W 96 * 4 ≤ 8 * 4 := Nat.mul_le_mul_right 4 hT
  omega
theorem q_cH_0 {W : Nat → Int32} {k : Nat} : q_cH W k = 0 ↔ ∀ t, t < q_n W 96 → (decide (q_kd W t = k) && q_hand W t) = false := by
  constructor
  · intro h t ht
    have h1 := q_sum_ge (f := fun t => q_sum (fun m => (decide (q_kd W t = k) && q_serve W t m).toNat) (q_n W 97)) ht
    have h2 : q_sum (fun t => q_sum (fun m => (decide (q_kd W t = k) && q_serve W t m).toNat) (q_n W 97)) (q_n W 96) = 0 := h
    cases e : (decide (q_kd W t = k) && q_hand W t) with
    | false => rfl
    | true =>
      rw [Bool.and_eq_true] at e
      obtain ⟨m, hm, hs⟩ := q_any_iff.mp e.2
      have h3 := q_sum_ge (f := fun m => (decide (q_kd W t = k) && q_serve W t m).toNat) hm
      rw [e.1] at h3 h1
      rw [hs] at h3
      have h4 : (true && true).toNat = 1 := rfl
      omega
  · intro h
    unfold q_cH
    refine q_sum_z (fun t ht => q_sum_z (fun m hm => ?_))
    have := h t ht
    cases e1 : decide (q_kd W t = k) with
    | false => rfl
    | true =>
      rw [e1, Bool.true_and] at this
      cases e2 : q_serve W t m with
      | false => rfl
      | true =>
        have e3 : q_hand W t = true := q_any_iff.mpr ⟨m, hm, e2⟩
        rw [e3] at this; cases this
def q_wan (W : Nat → Int32) (t : Nat) : Bool := q_any (fun m => q_would W t m) (q_n W 97)
def q_brB (W : Nat → Int32) (k t : Nat) : Bool := decide (t < q_n W 96) && decide (q_kd W t = k)
/-- the least branch of a kind that a man would take -/
def q_br (W : Nat → Int32) (k : Nat) : Nat → Int32
  | 0 => nI 4294967295
  | t + 1 => if q_brB W k t = true then (if q_wan W t = true then (if q_br W k t = nI 4294967295 then W (17 + 10 * t) else if W (17 + 10 * t) < q_br W k t then W (17 + 10 * t) else q_br W k t) else q_br W k t) else q_br W k t
theorem q_br_hi {W : Nat → Int32} {k : Nat} : ∀ c, q_br W k (q_n W 96 + c) = q_br W k (q_n W 96)
  | 0 => rfl
  | c + 1 => by
    rw [show q_n W 96 + (c + 1) = (q_n W 96 + c) + 1 by omega, q_br, if_neg, q_br_hi c]
    unfold q_brB
    rw [decide_eq_false (by omega), Bool.false_and]
    decide
variable {X : KXw} {n tot kn D : Nat} {kx : Nat → Nat × Nat} {M : MMw}
theorem c_willAny (hD : 4 ≤ D) {W : Nat → Int32} {t : Nat} (ht : t < 8) (h : CX M 10 W) : Sq X D 267 [.inr (.inl 120), .inr (.inl 1), .inl (nI t)] (Gk n tot kn kx) M (fun x M' => x = b2i (q_wan W t) ∧ Fr [121, 122] M M') :=
  Sq.mk (k := 3) hD (fun D' hD' => by
    refine Lq.of (t_267_p120_p1_0_ok X (callw X D') n tot kn kx _ M) ?_
    unfold t_267_p120_p1_0
    simp only [o_nI]
    rw [Wq_jmp]
    obtain ⟨w1, w2⟩ := h.2.2.1.1.2.1
    have e21 : M 2 1 = nI (q_n W 97) := by rw [h.1.1.2.1]; exact w1
    have loop : ∀ (c m : Nat) (M1 : MMw), m + c = q_n W 97 → Fr [121, 122] M M1 → (∀ j, j < m → q_would W t j = false) → Lq X (callw X D') 267 2 [some (.inr (.inl 120)), some (.inr (.inl 1)), some (.inl (nI t)), some (.inl (nI m))] (Gk n tot kn kx) M1 (fun x M' => x = b2i (q_wan W t) ∧ Fr [121, 122] M M') := by
      intro c
      induction c with
      | zero =>
        intro m M1 hm hf hno
        refine Lq.of (t_267_p120_p1_2_ok X (callw X D') n tot kn kx _ _ M1) ?_
        unfold t_267_p120_p1_2
        simp only [o_nI]
        rw [hf 2 (by decide), e21, if_neg (by rw [lt_i (by omega) (by omega)]; omega), Wq_ret]
        refine ⟨?_, hf⟩
        cases e : q_wan W t with
        | false => rfl
        | true =>
          obtain ⟨j, hj, hs⟩ := q_any_iff.mp e
          rw [hno j (by omega)] at hs; cases hs
      | succ c ih =>
        intro m M1 hm hf hno
        refine Lq.of (t_267_p120_p1_2_ok X (callw X D') n tot kn kx _ _ M1) ?_
        unfold t_267_p120_p1_2
        simp only [o_nI]
        rw [hf 2 (by decide), e21, if_pos (by rw [lt_i (by omega) (by omega)]; omega), if_pos (by rw [lt_i (by omega) (by omega)]; omega)]
        refine Wq.call (c_willing10 hD' ht (show m < 4 by omega) (h.fr hf (by decide))) ?_
        rintro x M2 ⟨rfl, hf2⟩
        cases hs : q_would W t m with
        | false =>
          rw [if_pos (by rfl), Wq_jmp, i1_nI, nI_add]
          refine ih (m + 1) M2 (by omega) (hf.tr hf2) ?_
          intro j hj
          rcases Nat.lt_or_ge j m with hl | hl
          · exact hno j hl
          · rw [show j = m by omega]; exact hs
        | true =>
          rw [if_neg (by decide +kernel), Wq_ret]
          refine ⟨?_, hf.tr hf2⟩
          have e : q_wan W t = true := q_any_iff.mpr ⟨m, by omega, hs⟩
          rw [e]; rfl
    exact loop (q_n W 97) 0 M (by omega) Fr.rf (fun j hj => absurd hj (Nat.not_lt_zero j)))
theorem c_least (hD : 5 ≤ D) {W : Nat → Int32} {k : Nat} (hk : k < 4) (h : CX M 10 W) : Sq X D 268 [.inr (.inl 120), .inr (.inl 1), .inl (nI k)] (Gk n tot kn kx) M (fun x M' => x = q_br W k (q_n W 96) ∧ Fr [121, 122] M M') :=
  Sq.mk (k := 4) hD (fun D' hD' => by
    refine Lq.of (t_268_p120_p1_0_ok X (callw X D') n tot kn kx _ M) ?_
    unfold t_268_p120_p1_0
    have w3 := h.2.2.1.1.1.2
    have p4 : 2 ^ k < 2 ^ 4 := Nat.pow_lt_pow_right (by decide) hk
    simp only [o_nI]
    rw [nI_shl (by omega), Nat.one_mul, c_toolsOf (by omega) (by omega) h.1.1 h.2.2.1, bnd_some, Wq_jmp]
    have hlt := q_tk_lt (W := W) (m := 2 ^ k) (by omega)
    have htb : ∀ t, (q_tk W (2 ^ k)).testBit t = q_brB W k t := fun t => by
      unfold q_tk q_brB
      rw [sto_tb, pow_tb]
    have loop : ∀ (c t : Nat) (M1 : MMw), t + c = 8 → Fr [121, 122] M M1 → Lq X (callw X D') 268 17 [some (.inr (.inl 120)), some (.inr (.inl 1)), none, some (.inl (nI (q_tk W (2 ^ k)))), some (.inl (q_br W k t)), some (.inl (nI t))] (Gk n tot kn kx) M1 (fun x M' => x = q_br W k (q_n W 96) ∧ Fr [121, 122] M M') := by
      intro c
      induction c with
      | zero =>
        intro t M1 ht hf
        refine Lq.of (t_268_p120_p1_17_ok X (callw X D') n tot kn kx _ _ _ M1) ?_
        unfold t_268_p120_p1_17
        simp only [o_nI]
        rw [if_neg (by rw [lt_i (by omega) (by omega)]; omega), Wq_ret, show t = q_n W 96 + (8 - q_n W 96) by omega, q_br_hi]
        exact ⟨rfl, hf⟩
      | succ c ih =>
        intro t M1 ht hf
        refine Lq.of (t_268_p120_p1_17_ok X (callw X D') n tot kn kx _ _ _ M1) ?_
        unfold t_268_p120_p1_17
        have t8 : t < 8 := by omega
        have e4 : ∀ M2, Fr [121, 122] M M2 → M2 4 t = W (17 + 10 * t) := fun M2 hf2 => by rw [hf2 4 (by decide)]; exact h.1.1.2.2.2.2.2.1 t t8
        simp only [o_nI]
        rw [if_pos (by rw [lt_i (by omega) (by omega)]; omega), c_isIn (by omega), bnd_some, q_bit_nI (by omega) (by omega), htb]
        cases hb : q_brB W k t with
        | false =>
          have hn := fun M2 hf2 => ih (t + 1) M2 (by omega) hf2
          rw [q_br, hb, if_neg (by decide)] at hn
          rw [if_pos (by rfl), Wq_jmp, i1_nI, nI_add]
          exact hn M1 hf
        | true =>
          rw [if_neg (by decide +kernel)]
          refine Wq.call (c_willAny hD' t8 (h.fr hf (by decide))) ?_
          rintro x M2 ⟨rfl, hf2⟩
          have hn := ih (t + 1) M2 (by omega) (hf.tr hf2)
          rw [q_br, hb, if_pos rfl] at hn
          cases hw : q_wan W t with
          | false =>
            rw [hw, if_neg (by decide)] at hn
            rw [if_pos (by rfl), Wq_jmp, i1_nI, nI_add]
            exact hn
          | true =>
            rw [hw, if_pos rfl] at hn
            rw [if_neg (by decide +kernel), inb_nI t8 (by decide), if_pos rfl, nI_clamp (by omega), e4 M2 (hf.tr hf2)]
            by_cases g1 : q_br W k t = nI 4294967295
            · rw [if_pos g1, Wq_jmp, i1_nI, nI_add]
              rw [if_pos g1] at hn
              exact hn
            · rw [if_neg g1, if_pos rfl]
              rw [if_neg g1] at hn
              by_cases g2 : W (17 + 10 * t) < q_br W k t
              · rw [if_pos g2, Wq_jmp, i1_nI, nI_add]
                rw [if_pos g2] at hn
                exact hn
              · rw [if_neg g2, Wq_jmp, i1_nI, nI_add]
                rw [if_neg g2] at hn
                exact hn
    exact loop 8 0 M (by omega) Fr.rf)
/-- the kinds in hands -/
def q_kh (W : Nat → Int32) : Nat → Nat
  | 0 => 0
  | t + 1 => if (q_th2 W).testBit t = true then q_kh W t ||| 2 ^ q_kd W t else q_kh W t
theorem q_kh_tb {W : Nat → Int32} {k : Nat} : ∀ {n : Nat}, (q_kh W n).testBit k = true ↔ ∃ t, t < n ∧ (q_th2 W).testBit t = true ∧ q_kd W t = k
  | 0 => by rw [q_kh, Nat.zero_testBit]; exact ⟨fun h => (by cases h), fun ⟨i, hi, _⟩ => absurd hi (Nat.not_lt_zero i)⟩
  | n + 1 => by
    rw [q_kh]
    by_cases hb : (q_th2 W).testBit n = true
    · rw [if_pos hb, Nat.testBit_or, Bool.or_eq_true, q_kh_tb, pow_tb, decide_eq_true_eq]
      constructor
      · rintro (⟨t, h1, h2, h3⟩ | h)
        · exact ⟨t, by omega, h2, h3⟩
        · exact ⟨n, by omega, hb, h.symm⟩
      · rintro ⟨t, h1, h2, h3⟩
        rcases Nat.lt_or_ge t n with hl | hl
        · exact Or.inl ⟨t, hl, h2, h3⟩
        · rw [show t = n by omega] at h3; exact Or.inr h3.symm
    · rw [if_neg hb, q_kh_tb]
      constructor
      · rintro ⟨t, h1, h2, h3⟩; exact ⟨t, by omega, h2, h3⟩
      · rintro ⟨t, h1, h2, h3⟩
        rcases Nat.lt_or_ge t n with hl | hl
        · exact ⟨t, hl, h2, h3⟩
        · rw [show t = n by omega] at h2; exact absurd h2 hb
theorem q_kh_lt {W : Nat → Int32} {n : Nat} (h : ∀ t, t < n → q_kd W t < 4) : q_kh W n < 16 := by
  induction n with
  | zero => rw [q_kh]; decide
  | succ n ih =>
    have h1 := ih (fun t ht => h t (by omega))
    rw [q_kh]
    split
    · have h2 : 2 ^ q_kd W n < 2 ^ 4 := Nat.pow_lt_pow_right (by decide) (h n (Nat.lt_succ_self n))
      exact Nat.or_lt_two_pow (n := 4) h1 h2
    · exact h1
theorem c_kindsIn (hD : 7 ≤ D) {W : Nat → Int32} (h : CX M 10 W) : Sq X D 227 [.inr (.inl 120), .inr (.inl 1)] (Gk n tot kn kx) M (fun x M' => x = nI (q_kh W 8) ∧ Fr [121, 122] M M') :=
  Sq.mk (k := 6) hD (fun D' hD' => by
    refine Lq.of (t_227_p120_p1_0_ok X (callw X D') n tot kn kx M) ?_
    unfold t_227_p120_p1_0
    refine Wq.call (c_toolsInHands hD' h) ?_
    rintro x M1 ⟨rfl, hf⟩
    simp only [o_nI]
    rw [Wq_jmp]
    have w3 := h.2.2.1.1.1.2
    have hlt : q_th2 W < 2 ^ 8 := sto_le (by omega)
    have loop : ∀ (c t : Nat), t + c = 8 → Lq X (callw X D') 227 11 [none, some (.inr (.inl 1)), some (.inl (nI (q_kh W t))), some (.inl (nI (q_th2 W))), some (.inl (nI t))] (Gk n tot kn kx) M1 (fun x M' => x = nI (q_kh W 8) ∧ Fr [121, 122] M M') := by
      intro c
      induction c with
      | zero =>
        intro t ht
        refine Lq.of (t_227_p120_p1_11_ok X (callw X D') n tot kn kx _ _ _ M1) ?_
        unfold t_227_p120_p1_11
        simp only [o_nI]
        rw [if_neg (by rw [lt_i (by omega) (by omega)]; omega), Wq_ret, show t = 8 by omega]
        exact ⟨rfl, hf⟩
      | succ c ih =>
        intro t ht
        refine Lq.of (t_227_p120_p1_11_ok X (callw X D') n tot kn kx _ _ _ M1) ?_
        unfold t_227_p120_p1_11
        have t8 : t < 8 := by omega
        have kk := (h.2.2.1.2.2.2.1 t t8).1
        have e3 : M1 3 t = nI (q_kd W t) := by rw [hf 3 (by decide), h.1.1.2.2.2.2.1 t t8]; exact kk.2.2.1
        have k4 : q_kd W t < 4 := kk.2.2.2
        have hn := ih (t + 1) (by omega)
        rw [q_kh] at hn
        simp only [o_nI]
        rw [if_pos (by rw [lt_i (by omega) (by omega)]; omega), c_isIn (by omega), bnd_some, q_bit_nI (by omega) (by omega)]
        cases hb : (q_th2 W).testBit t with
        | false =>
          rw [hb, if_neg (by decide)] at hn
          rw [if_pos (by rfl), Wq_jmp, i1_nI, nI_add]
          exact hn
        | true =>
          rw [hb, if_pos rfl] at hn
          rw [if_neg (by decide +kernel), inb_nI t8 (by decide), if_pos rfl, nI_clamp (by omega), e3, nI_shl (by omega), Nat.one_mul, nI_or, Wq_jmp, i1_nI, nI_add]
          exact hn
    exact loop 8 0 (by omega))
/-- what is wanted and in no hands -/
def q_need (W : Nat → Int32) (k : Nat) : Bool := (q_kl W (q_n W 98)).testBit k && decide (q_cH W k = 0)
def q_nd (W : Nat → Int32) : Nat := q_kl W (q_n W 98) &&& (q_kh W 8 ^^^ 4294967295)
theorem q_nd_tb {W : Nat → Int32} {k : Nat} (hT : q_n W 96 ≤ 8) (hk : k < 32) : (q_nd W).testBit k = q_need W k := by
  unfold q_nd q_need
  rw [Nat.testBit_and, Nat.testBit_xor, show 4294967295 = 2 ^ 32 - 1 from rfl, Nat.testBit_two_pow_sub_one, decide_eq_true hk]
  congr 1
  rw [Bool.xor_true]
  cases hh : (q_kh W 8).testBit k with
  | true =>
    obtain ⟨t, h1, h2, h3⟩ := q_kh_tb.mp hh
    unfold q_th2 at h2
    rw [sto_tb, Bool.and_eq_true, decide_eq_true_eq] at h2
    rw [decide_eq_false (fun h => by
      have := q_cH_0.mp h t h2.1
      rw [h2.2, h3, decide_eq_true rfl] at this; cases this)]
    rfl
  | false =>
    rw [decide_eq_true (q_cH_0.mpr (fun t ht => by
      cases e : (decide (q_kd W t = k) && q_hand W t) with
      | false => rfl
      | true =>
        rw [Bool.and_eq_true, decide_eq_true_eq] at e
        have : (q_kh W 8).testBit k = true := q_kh_tb.mpr ⟨t, by omega, by unfold q_th2; rw [sto_tb, decide_eq_true ht, e.2]; rfl, e.1⟩
        rw [hh] at this; cases this))]
    rfl
theorem m_isWanted (hD : 3 ≤ D) {W : Nat → Int32} {k : Nat} (hk : k < 4) (hW : M 179 = W) (hy : q_invY W) : callw X D 270 [.inr (.inl 178), .inl (nI k)] (Gk n tot kn kx) M = some (b2i ((q_kl W (q_n W 98)).testBit k), Gk n tot kn kx, M) :=
  Sq.eq (Sq.mk (k := 2) hD (fun D' hD' => by
    refine Lq.of (t_270_0_ok X (callw X D') n tot kn kx _ M) ?_
    unfold t_270_0
    simp only [o_nI]
    rw [Wq_jmp]
    obtain ⟨w1, w2⟩ := hy.1.2.2.1
    have loop : ∀ (c i : Nat), i + c = q_n W 98 → (∀ j, j < i → q_doneB W j = false → q_n W (142 + 3 * j) ≠ k) → Lq X (callw X D') 270 2 [some (.inr (.inl 178)), some (.inl (nI k)), some (.inl (nI i))] (Gk n tot kn kx) M (fun x M' => x = b2i ((q_kl W (q_n W 98)).testBit k) ∧ M' = M) := by
      intro c
      induction c with
      | zero =>
        intro i hi hno
        refine Lq.of (t_270_2_ok X (callw X D') n tot kn kx _ _ M) ?_
        unfold t_270_2
        simp only [o_nI]
        rw [hW, w1, if_neg (by rw [lt_i (by omega) (by omega)]; omega), Wq_ret]
        refine ⟨?_, rfl⟩
        cases e : (q_kl W (q_n W 98)).testBit k with
        | false => rfl
        | true =>
          obtain ⟨j, h1, h2, h3⟩ := q_kl_tb.mp e
          exact absurd h3 (hno j (by omega) h2)
      | succ c ih =>
        intro i hi hno
        refine Lq.of (t_270_2_ok X (callw X D') n tot kn kx _ _ M) ?_
        unfold t_270_2
        obtain ⟨k1, k2⟩ := (hy.2.2.2.2.2.1 i (by omega)).1
        have hn : (q_doneB W i = false → q_n W (142 + 3 * i) ≠ k) → _ := fun hh => ih (i + 1) (by omega) (fun j hj => by
          rcases Nat.lt_or_ge j i with hl | hl
          · exact hno j hl
          · rw [show j = i by omega]; exact hh)
        simp only [o_nI, z_nI]
        rw [hW, w1, if_pos (by rw [lt_i (by omega) (by omega)]; omega), m_isDone (by omega) (by omega), bnd_some, hW]
        cases hd : q_doneB W i with
        | true =>
          rw [if_neg (by decide +kernel), Wq_jmp, i1_nI, nI_add]
          exact hn (fun h => by rw [hd] at h; cases h)
        | false =>
          rw [if_pos (by rfl), m_ofWork (by omega) (by omega), bnd_some, hW, Nat.add_zero, k1]
          by_cases e : q_n W (142 + 3 * i) = k
          · rw [if_pos (by rw [e]), Wq_ret]
            refine ⟨?_, rfl⟩
            have : (q_kl W (q_n W 98)).testBit k = true := q_kl_tb.mpr ⟨i, by omega, hd, e⟩
            rw [this]; rfl
          · rw [if_neg (by rw [eq_i (by omega) (by omega)]; exact e), Wq_jmp, i1_nI, nI_add]
            exact hn (fun _ => e)
    exact loop (q_n W 98) 0 (by omega) (fun j hj => absurd hj (Nat.not_lt_zero j))))
theorem m_branchFor (hD : 6 ≤ D) {W C : Nat → Int32} {k : Nat} (hW : M 179 = W) (hk : k < 4) (hl : q_law W 0 C) (hy : q_invY W) : Sq X D 271 [.inr (.inl 178), .inl (nI k)] (Gk n tot kn kx) M (fun x M' => x = q_br W k (q_n W 96) ∧ Fr [187, 188] M M') :=
  Sq.mk (k := 5) hD (fun D' hD' => by
    refine Lq.of (t_271_0_ok X (callw X D') n tot kn kx _ M) ?_
    unfold t_271_0
    simp only [o_nI]
    rw [Wq_jmp]
    obtain ⟨w1, w2⟩ := hy.1.1
    obtain ⟨w3, w4⟩ := hy.1.2.1
    have hw : ∀ M1 : MMw, Fr [187, 188] M M1 → M1 179 = W := fun M1 hf => by rw [hf 179 (by decide)]; exact hW
    have inner : ∀ (t : Nat) (r : Int32), t < q_n W 96 → ∀ Q : Int32 → MMw → Prop, (∀ M1 : MMw, Fr [187, 188] M M1 → Lq X (callw X D') 271 4 [some (.inr (.inl 178)), some (.inl (nI k)), some (.inl (if q_wan W t = true then W (17 + 10 * t) else r)), some (.inl (nI (t + 1))), none] (Gk n tot kn kx) M1 Q) →
        ∀ (c m : Nat) (M1 : MMw), m + c = q_n W 97 → Fr [187, 188] M M1 → Lq X (callw X D') 271 46 [some (.inr (.inl 178)), some (.inl (nI k)), some (.inl (if q_any (fun m => q_would W t m) m = true then W (17 + 10 * t) else r)), some (.inl (nI t)), some (.inl (nI m))] (Gk n tot kn kx) M1 Q := by
      intro t r ht Q hend c
      induction c with
      | zero =>
        intro m M1 hm hf
        refine Lq.of (t_271_46_ok X (callw X D') n tot kn kx _ _ _ _ M1) ?_
        unfold t_271_46
        rw [hw M1 hf, w3, if_neg (by rw [lt_i (by omega) (by omega)]; omega), Wq_jmp, i1_nI, nI_add, show m = q_n W 97 by omega]
        exact hend M1 hf
      | succ c ih =>
        intro m M1 hm hf
        refine Lq.of (t_271_46_ok X (callw X D') n tot kn kx _ _ _ _ M1) ?_
        unfold t_271_46
        simp only [o_nI]
        rw [hw M1 hf, w3, if_pos (by rw [lt_i (by omega) (by omega)]; omega)]
        refine Wq.call (m_would hD' (show t < 8 by omega) (show m < 4 by omega) (C := C) (by rw [hw M1 hf]; exact hl)) ?_
        rintro x M2 ⟨rfl, hf2⟩
        rw [hw M1 hf]
        have hn := ih (m + 1) M2 (by omega) (hf.tr hf2)
        rw [q_any] at hn
        cases hs : q_would W t m with
        | false =>
          rw [hs, Bool.or_false] at hn
          rw [if_pos (by rfl), Wq_jmp, i1_nI, nI_add]
          exact hn
        | true =>
          rw [hs, Bool.or_true, if_pos rfl] at hn
          rw [if_neg (by decide +kernel), m_ofTool (by omega) (by omega), bnd_some, hw M2 (hf.tr hf2), show 16 + 10 * t + 1 = 17 + 10 * t by omega, Wq_jmp, i1_nI, nI_add]
          exact hn
    have loop : ∀ (c t : Nat) (M1 : MMw), t + c = q_n W 96 → Fr [187, 188] M M1 → Lq X (callw X D') 271 4 [some (.inr (.inl 178)), some (.inl (nI k)), some (.inl (q_br W k t)), some (.inl (nI t)), none] (Gk n tot kn kx) M1 (fun x M' => x = q_br W k (q_n W 96) ∧ Fr [187, 188] M M') := by
      intro c
      induction c with
      | zero =>
        intro t M1 ht hf
        refine Lq.of (t_271_4_ok X (callw X D') n tot kn kx _ _ _ M1) ?_
        unfold t_271_4
        rw [hw M1 hf, w1, if_neg (by rw [lt_i (by omega) (by omega)]; omega), Wq_ret, show t = q_n W 96 by omega]
        exact ⟨rfl, hf⟩
      | succ c ih =>
        intro t M1 ht hf
        refine Lq.of (t_271_4_ok X (callw X D') n tot kn kx _ _ _ M1) ?_
        unfold t_271_4
        have kk := (hy.2.2.2.1 t (by omega)).1
        have e3 : W (16 + 10 * t) = nI (q_kd W t) := kk.2.2.1
        have k4 : q_kd W t < 4 := kk.2.2.2
        have hn := fun M2 hf2 => ih (t + 1) M2 (by omega) hf2
        rw [q_br] at hn
        simp only [o_nI]
        rw [hw M1 hf, w1, if_pos (by rw [lt_i (by omega) (by omega)]; omega), m_ofTool (by omega) (by omega), bnd_some, hw M1 hf, Nat.add_zero, e3]
        by_cases e : q_kd W t = k
        · have hb : q_brB W k t = true := by unfold q_brB; rw [decide_eq_true (by omega), decide_eq_true e]; rfl
          rw [hb, if_pos rfl] at hn
          rw [if_pos (by rw [e])]
          by_cases g1 : q_br W k t = nI 4294967295
          · rw [if_pos g1, Wq_jmp]
            rw [if_pos g1] at hn
            exact inner t (q_br W k t) (by omega) _ hn (q_n W 97) 0 M1 (by omega) hf
          · rw [if_neg g1, m_ofTool (by omega) (by omega), bnd_some, hw M1 hf, show 16 + 10 * t + 1 = 17 + 10 * t by omega]
            rw [if_neg g1] at hn
            by_cases g2 : W (17 + 10 * t) < q_br W k t
            · rw [if_pos g2, Wq_jmp]
              rw [if_pos g2] at hn
              exact inner t (q_br W k t) (by omega) _ hn (q_n W 97) 0 M1 (by omega) hf
            · rw [if_neg g2, Wq_jmp, i1_nI, nI_add]
              rw [if_neg g2] at hn
              have e2 : (if q_wan W t = true then q_br W k t else q_br W k t) = q_br W k t := by split <;> rfl
              rw [e2] at hn
              exact hn M1 hf
        · have hb : q_brB W k t = false := by unfold q_brB; rw [decide_eq_false e, Bool.and_false]
          rw [hb, if_neg (by decide)] at hn
          rw [if_neg (by rw [eq_i (by omega) (by omega)]; exact e), Wq_jmp, i1_nI, nI_add]
          exact hn M1 hf
    exact loop (q_n W 96) 0 M (by omega) Fr.rf)

/-- what both tell -/
def q_chA (W : Nat → Int32) (v : Int32) : Int32 := if q_any (fun k => q_need W k && decide (q_br W k (q_n W 96) = nI 4294967295)) 4 = true then nI 4294967295 else if v = nI 0 then nI (q_bc (q_nd W)) else
  match q_find (fun k => q_need W k && decide (v = nI (10 + k))) 4 with | none => nI 4294967295 | some k => q_br W k (q_n W 96)
theorem q_nd_bc {W : Nat → Int32} (hT : q_n W 96 ≤ 8) (hl : q_kl W (q_n W 98) < 16) : q_bc (q_nd W) = cnt (q_need W) 4 := by
  have h16 : q_nd W < 2 ^ 4 := Nat.lt_of_le_of_lt Nat.and_le_left hl
  unfold q_bc
  have h1 := cnt_hi (p := fun i => (q_nd W).testBit i) (T := 4) (fun i hi => Nat.testBit_lt_two_pow (Nat.lt_of_lt_of_le h16 (Nat.pow_le_pow_right (by decide) hi))) 4
  rw [h1]
  exact cnt_cong (fun i hi => q_nd_tb hT (by omega))
theorem q_find_uniq {p : Nat → Bool} {n i : Nat} (hi : i < n) (hp : p i = true) (h : ∀ j, j < n → p j = true → j = i) : q_find p n = some i :=
  q_find_at (fun j hj => by
    cases e : p j with
    | false => rfl
    | true => have := h j (by omega) e; omega) hp hi
theorem P_changes (hD : 9 ≤ D) {v : Int32} {len s : Nat} (h : Rl kn len s M) : Pr X D 269 272 [.inr (.inl 0), .inl v] [.inr (.inl 178), .inl v] (Gk n tot kn kx) M (Rl kn len s) := by
  have hX := h.1.1
  have hl := hX.1.2.2.2.1.2.2
  have w96 := hX.2.2.1.1.1.2
  have w97 := hX.2.2.1.1.2.1.2
  obtain ⟨W, hW⟩ : ∃ W, M 179 = W := ⟨_, rfl⟩
  rw [hW] at hX hl w96 w97
  have hkl : q_kl W (q_n W 98) < 16 := q_kl_lt (fun i hi => (hX.2.2.1.2.2.2.2.2.1 i hi).1.2)
  have hnd : q_nd W < 16 := Nat.lt_of_le_of_lt Nat.and_le_left hkl
  by_cases ok : v = nI 0 ∨ q_in v 10 13 = true
  · obtain ⟨A, hA⟩ : ∃ A, q_chA W v = A := ⟨_, rfl⟩
    have hbad : ∀ {k : Nat}, k < 4 → q_need W k = true → q_br W k (q_n W 96) = nI 4294967295 → A = nI 4294967295 := by
      intro k hk h1 h2
      rw [← hA]
      unfold q_chA
      rw [if_pos (q_any_iff.mpr ⟨k, hk, by rw [h1, decide_eq_true h2]; rfl⟩)]
    have hgood : (∀ j, j < 4 → q_need W j = true → q_br W j (q_n W 96) ≠ nI 4294967295) → A = (if v = nI 0 then nI (q_bc (q_nd W)) else match q_find (fun k => q_need W k && decide (v = nI (10 + k))) 4 with | none => nI 4294967295 | some k => q_br W k (q_n W 96)) := by
      intro hh
      rw [← hA]
      unfold q_chA
      rw [if_neg (fun hx => by
        obtain ⟨j, hj, e⟩ := q_any_iff.mp hx
        rw [Bool.and_eq_true, decide_eq_true_eq] at e
        exact hh j hj e.1 e.2)]
    clear hA
    refine Pr.mk (Q1 := fun x M1 => x = A ∧ Fr [121, 122] M M1) (Sq.mk (k := 8) hD (fun D' hD' => ?_)) ?_
    · have loop : ∀ (c k : Nat) (M1 : MMw), k + c = 4 → Fr [121, 122] M M1 → (∀ j, j < k → q_need W j = true → q_br W j (q_n W 96) ≠ nI 4294967295) → Lq X (callw X D') 269 52 [some (.inr (.inl 0)), some (.inl v), some (.inl (nI (q_nd W))), some (.inl (nI k))] (Gk n tot kn kx) M1 (fun x M1 => x = A ∧ Fr [121, 122] M M1) := by
        intro c
        induction c with
        | zero =>
          intro k M1 hk hf hno
          refine Lq.of (t_269_52_ok X (callw X D') n tot kn kx _ _ _ M1) ?_
          unfold t_269_52
          simp only [o_nI, z_nI]
          rw [if_neg (by rw [lt_i (by omega) (by omega)]; omega)]
          have hg := hgood (fun j hj => hno j (by omega))
          by_cases v0 : v = nI 0
          · rw [if_pos v0, c_bits (by omega) (by omega), bnd_some, Wq_ret]
            rw [if_pos v0] at hg
            exact ⟨hg.symm, hf⟩
          · rw [if_neg v0]
            rw [if_neg v0] at hg
            rcases ok with ok | ok
            · exact absurd ok v0
            obtain ⟨j, j1, j2, rfl⟩ := q_in_t (by decide) (by decide) ok
            obtain ⟨i, rfl⟩ : ∃ i, j = 10 + i := ⟨j - 10, by omega⟩
            rw [nI_sub (by omega), show 10 + i - 10 = i by omega, c_isIn (by omega), bnd_some, q_bit_nI (by omega) (by omega), q_nd_tb (by omega) (by omega)]
            cases hn : q_need W i with
            | false =>
              rw [if_pos (by rfl), Wq_ret]
              rw [q_find_none.mpr (fun j hj => by
                by_cases e : j = i
                · subst e; rw [hn]; rfl
                · rw [decide_eq_false (by rw [eq_i (by omega) (by omega)]; omega), Bool.and_false])] at hg
              exact ⟨hg.symm, hf⟩
            | true =>
              rw [if_neg (by decide +kernel)]
              refine Wq.call (c_least (by omega) (show i < 4 by omega) (hX.fr hf (by decide))) ?_
              rintro x M2 ⟨rfl, hf2⟩
              rw [Wq_ret]
              rw [q_find_uniq (show i < 4 by omega) (by rw [hn, decide_eq_true rfl]; rfl) (fun j hj e => by
                rw [Bool.and_eq_true, decide_eq_true_eq, eq_i (by omega) (by omega)] at e
                omega)] at hg
              exact ⟨hg.symm, hf.tr hf2⟩
        | succ c ih =>
          intro k M1 hk hf hno
          refine Lq.of (t_269_52_ok X (callw X D') n tot kn kx _ _ _ M1) ?_
          unfold t_269_52
          simp only [o_nI, z_nI]
          have hn : ∀ M2, Fr [121, 122] M M2 → (q_need W k = true → q_br W k (q_n W 96) ≠ nI 4294967295) → _ := fun M2 hf2 hh => ih (k + 1) M2 (by omega) hf2 (fun j hj => by
            rcases Nat.lt_or_ge j k with hl | hl
            · exact hno j hl
            · rw [show j = k by omega]; exact hh)
          rw [if_pos (by rw [lt_i (by omega) (by omega)]; omega), c_isIn (by omega), bnd_some, q_bit_nI (by omega) (by omega), q_nd_tb (by omega) (by omega)]
          cases hq : q_need W k with
          | false =>
            rw [if_pos (by rfl), Wq_jmp, i1_nI, nI_add]
            exact hn M1 hf (fun h => by rw [hq] at h; cases h)
          | true =>
            rw [if_neg (by decide +kernel)]
            refine Wq.call (c_least (by omega) (show k < 4 by omega) (hX.fr hf (by decide))) ?_
            rintro x M2 ⟨rfl, hf2⟩
            by_cases e : q_br W k (q_n W 96) = nI 4294967295
            · rw [if_pos e, Wq_ret]
              exact ⟨(hbad (by omega) hq e).symm, hf.tr hf2⟩
            · rw [if_neg e, Wq_jmp, i1_nI, nI_add]
              exact hn M2 (hf.tr hf2) (fun _ => e)
      refine Lq.of (t_269_0_ok X (callw X D') n tot kn kx _ M) ?_
      unfold t_269_0
      simp only [o_nI, z_nI]
      have ek : (nI (q_kl W (q_n W 98)) &&& (nI (q_kh W 8) ^^^ nI 4294967295)) = nI (q_nd W) := by rw [nI_xor, nI_and]; rfl
      by_cases v0 : v = nI 0
      · rw [if_pos v0, c_kindsLeft10 (by omega) hX, bnd_some]
        refine Wq.call (c_kindsIn (by omega) hX) ?_
        rintro x M1 ⟨rfl, f1⟩
        rw [ek, Wq_jmp]
        exact loop 4 0 M1 (by omega) f1 (fun j hj => absurd hj (Nat.not_lt_zero j))
      · rw [if_neg v0]
        have hr : ¬ v < nI 10 ∧ v < nI 14 := by
          rcases ok with ok | ok
          · exact absurd ok v0
          obtain ⟨j, j1, j2, rfl⟩ := q_in_t (by decide) (by decide) ok
          rw [lt_i (by omega) (by omega), lt_i (by omega) (by omega)]
          omega
        rw [if_neg hr.1, if_pos hr.2, c_kindsLeft10 (by omega) hX, bnd_some]
        refine Wq.call (c_kindsIn (by omega) hX) ?_
        rintro x M1 ⟨rfl, f1⟩
        rw [ek, Wq_jmp]
        exact loop 4 0 M1 (by omega) f1 (fun j hj => absurd hj (Nat.not_lt_zero j))
    · rintro x M1 ⟨rfl, f1⟩
      have h1 := h.ask f1 (by decide)
      have e9 : M1 179 = W := by rw [f1 179 (by decide)]; exact hW
      have fin : ∀ {M2 : MMw}, Fr [187, 188] M1 M2 → Rl kn len s M2 := fun f2 => h1.ask f2 (by decide)
      have hw : ∀ M2 : MMw, Fr [187, 188] M1 M2 → M2 179 = W := fun M2 hf => by rw [hf 179 (by decide)]; exact e9
      refine Sq.mk (k := 8) hD (fun D' hD' => ?_)
      have loop : ∀ (c k : Nat) (M2 : MMw), k + c = 4 → Fr [187, 188] M1 M2 → (∀ j, j < k → q_need W j = true → q_br W j (q_n W 96) ≠ nI 4294967295) → Lq X (callw X D') 272 24 [some (.inr (.inl 178)), some (.inl v), some (.inl (nI (cnt (q_need W) k))), some (.inl (match q_find (fun k => q_need W k && decide (v = nI (10 + k))) k with | none => nI 4294967295 | some k => q_br W k (q_n W 96))), some (.inl (nI k))] (Gk n tot kn kx) M2 (fun y M2 => y = x ∧ Rl kn len s M2) := by
        intro c
        induction c with
        | zero =>
          intro k M2 hk hf hno
          refine Lq.of (t_272_24_ok X (callw X D') n tot kn kx _ _ _ _ M2) ?_
          unfold t_272_24
          simp only [o_nI, z_nI]
          rw [if_neg (by rw [lt_i (by omega) (by omega)]; omega)]
          have hg := hgood (fun j hj => hno j (by omega))
          rw [show k = 4 by omega, ← q_nd_bc (by omega) hkl]
          by_cases v0 : v = nI 0
          · rw [if_pos v0, Wq_ret]
            rw [if_pos v0] at hg
            exact ⟨hg.symm, fin hf⟩
          · rw [if_neg v0, Wq_ret]
            rw [if_neg v0] at hg
            exact ⟨hg.symm, fin hf⟩
        | succ c ih =>
          intro k M2 hk hf hno
          refine Lq.of (t_272_24_ok X (callw X D') n tot kn kx _ _ _ _ M2) ?_
          unfold t_272_24
          have hcH := q_cH_lt (W := W) (k := k) (by omega) (by omega)
          have hn : ∀ M3, Fr [187, 188] M1 M3 → (q_need W k = true → q_br W k (q_n W 96) ≠ nI 4294967295) → _ := fun M3 hf2 hh => ih (k + 1) M3 (by omega) hf2 (fun j hj => by
            rcases Nat.lt_or_ge j k with hl | hl
            · exact hno j hl
            · rw [show j = k by omega]; exact hh)
          have hskip : q_need W k = false → cnt (q_need W) (k + 1) = cnt (q_need W) k ∧ q_find (fun k => q_need W k && decide (v = nI (10 + k))) (k + 1) = q_find (fun k => q_need W k && decide (v = nI (10 + k))) k := by
            intro hq
            refine ⟨?_, ?_⟩
            · show cnt (q_need W) k + (q_need W k).toNat = _
              rw [hq]; rfl
            · cases e : q_find (fun k => q_need W k && decide (v = nI (10 + k))) k with
              | none =>
                refine q_find_none.mpr (fun j hj => ?_)
                rcases Nat.lt_or_ge j k with hl | hl
                · exact q_find_none.mp e j hl
                · rw [show j = k by omega, hq]; rfl
              | some i =>
                obtain ⟨i1, i2, i3⟩ := q_find_some e
                exact q_find_at i3 i2 (by omega)
          simp only [o_nI, z_nI]
          rw [if_pos (by rw [lt_i (by omega) (by omega)]; omega), m_isWanted (by omega) (by omega) (hw M2 hf) hX.2.2.1, bnd_some]
          cases hkb : (q_kl W (q_n W 98)).testBit k with
          | false =>
            have hq : q_need W k = false := by unfold q_need; rw [hkb]; rfl
            obtain ⟨s1, s2⟩ := hskip hq
            have hn2 := hn M2 hf (fun h => by rw [hq] at h; cases h)
            rw [s1, s2] at hn2
            rw [if_pos (by rfl), Wq_jmp, i1_nI, nI_add]
            exact hn2
          | true =>
            rw [if_neg (by decide +kernel)]
            refine Wq.call (m_handsOf (by omega) (hw M2 hf) (by omega) hl hX.2.2.1) ?_
            rintro z M3 ⟨rfl, f3⟩
            by_cases hc : q_cH W k = 0
            · have hq : q_need W k = true := by unfold q_need; rw [hkb, decide_eq_true hc]; rfl
              rw [if_neg (by rw [lt_i (by omega) (by omega)]; omega)]
              refine Wq.call (m_branchFor (by omega) (hw M3 (hf.tr f3)) (by omega) hl hX.2.2.1) ?_
              rintro z M4 ⟨rfl, f4⟩
              by_cases e : q_br W k (q_n W 96) = nI 4294967295
              · rw [if_pos e, Wq_ret]
                exact ⟨(hbad (by omega) hq e).symm, fin ((hf.tr f3).tr f4)⟩
              · rw [if_neg e]
                have s1 : cnt (q_need W) (k + 1) = cnt (q_need W) k + 1 := by
                  show cnt (q_need W) k + (q_need W k).toNat = _
                  rw [hq]; rfl
                have n10 : nI 10 + nI k = nI (10 + k) := nI_add _ _
                by_cases ev : v = nI (10 + k)
                · rw [n10, if_pos ev]
                  refine Wq.call (m_branchFor (by omega) (hw M4 ((hf.tr f3).tr f4)) (by omega) hl hX.2.2.1) ?_
                  rintro z M5 ⟨rfl, f5⟩
                  have hn2 := hn M5 (((hf.tr f3).tr f4).tr f5) (fun _ => e)
                  rw [s1, q_find_uniq (show k < k + 1 by omega) (by rw [hq, decide_eq_true ev]; rfl) (fun j hj e => by
                    rw [Bool.and_eq_true, decide_eq_true_eq, ev, eq_i (by omega) (by omega)] at e
                    omega)] at hn2
                  rw [Wq_jmp, i1_nI, nI_add, nI_add]
                  exact hn2
                · have hn2 := hn M4 ((hf.tr f3).tr f4) (fun _ => e)
                  have s2 : q_find (fun k => q_need W k && decide (v = nI (10 + k))) (k + 1) = q_find (fun k => q_need W k && decide (v = nI (10 + k))) k := by
                    cases e : q_find (fun k => q_need W k && decide (v = nI (10 + k))) k with
                    | none =>
                      refine q_find_none.mpr (fun j hj => ?_)
                      rcases Nat.lt_or_ge j k with hl | hl
                      · exact q_find_none.mp e j hl
                      · rw [show j = k by omega, decide_eq_false ev, Bool.and_false]
                    | some i =>
                      obtain ⟨i1, i2, i3⟩ := q_find_some e
                      exact q_find_at i3 i2 (by omega)
                  rw [s1, s2] at hn2
                  rw [n10, if_neg ev, Wq_jmp, i1_nI, nI_add, nI_add]
                  exact hn2
            · have hq : q_need W k = false := by unfold q_need; rw [hkb, decide_eq_false hc]; rfl
              obtain ⟨s1, s2⟩ := hskip hq
              have hn2 := hn M3 (hf.tr f3) (fun h => by rw [hq] at h; cases h)
              rw [s1, s2] at hn2
              rw [if_pos (by rw [lt_i (by omega) (by omega)]; omega), Wq_jmp, i1_nI, nI_add]
              exact hn2
      refine Lq.of (t_272_0_ok X (callw X D') n tot kn kx _ M1) ?_
      unfold t_272_0
      simp only [o_nI, z_nI]
      have hl0 := loop 4 0 M1 (by omega) Fr.rf (fun j hj => absurd hj (Nat.not_lt_zero j))
      by_cases v0 : v = nI 0
      · rw [if_pos v0, Wq_jmp]
        exact hl0
      · rw [if_neg v0, m_in (by omega), bnd_some]
        rcases ok with ok | ok
        · exact absurd ok v0
        rw [ok, if_neg (by decide), Wq_jmp]
        exact hl0
  · refine Pr.mk (Q1 := fun x M1 => x = nI 4294967295 ∧ M1 = M) (Sq.mk (k := 8) hD (fun D' hD' => ?_)) ?_
    · refine Lq.of (t_269_0_ok X (callw X D') n tot kn kx _ M) ?_
      unfold t_269_0
      simp only [o_nI, z_nI]
      rw [if_neg (fun e => ok (Or.inl e))]
      by_cases g1 : v < nI 10
      · rw [if_pos g1, Wq_ret]; exact ⟨rfl, rfl⟩
      · rw [if_neg g1]
        by_cases g2 : v < nI 14
        · refine absurd ?_ ok
          refine Or.inr ?_
          have h0 : ¬ v < 0 := fun h => g1 (neg_lt h 10 (by decide))
          obtain ⟨e, hl⟩ := nI_self h0
          rw [e, lt_i hl (by decide)] at g1 g2
          rw [e]
          unfold q_in
          rw [decide_eq_false (by rw [lt_i hl (by decide)]; exact g1), decide_eq_false (by rw [lt_i (by decide) hl]; omega)]
          rfl
        · rw [if_neg g2, Wq_ret]; exact ⟨rfl, rfl⟩
    · rintro x M1 ⟨rfl, rfl⟩
      refine Sq.mk (k := 8) hD (fun D' hD' => ?_)
      refine Lq.of (t_272_0_ok X (callw X D') n tot kn kx _ M1) ?_
      unfold t_272_0
      simp only [o_nI, z_nI]
      rw [if_neg (fun e => ok (Or.inl e)), m_in (by omega), bnd_some, eq_false_of_ne_true (fun e => ok (Or.inr e)), if_pos (by rfl), Wq_ret]
      exact ⟨rfl, h⟩
end
