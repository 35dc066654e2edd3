section
-- needs: votes
/-! hands -/
def q_any (p : Nat → Bool) : Nat → Bool
  | 0 => false
  | n + 1 => q_any p n || p n
theorem q_any_iff {p : Nat → Bool} : ∀ {n : Nat}, q_any p n = true ↔ ∃ i, i < n ∧ p i = true
  | 0 => ⟨fun h => (by cases h), fun ⟨i, hi, _⟩ => absurd hi (Nat.not_lt_zero i)⟩
  | n + 1 => by
    rw [q_any, Bool.or_eq_true, q_any_iff]
    constructor
    · rintro (⟨i, hi, h⟩ | h)
      · exact ⟨i, by omega, h⟩
      · exact ⟨n, Nat.lt_succ_self n, h⟩
    · rintro ⟨i, hi, h⟩
      rcases Nat.lt_or_ge i n with hl | hl
      · exact Or.inl ⟨i, hl, h⟩
      · rw [show i = n by omega] at h; exact Or.inr h
def q_sum (f : Nat → Nat) : Nat → Nat
  | 0 => 0
  | n + 1 => q_sum f n + f n
theorem q_sum_add {f g : Nat → Nat} : ∀ n, q_sum (fun i => f i + g i) n = q_sum f n + q_sum g n
  | 0 => rfl
  | n + 1 => by
    show q_sum (fun i => f i + g i) n + (f n + g n) = q_sum f n + f n + (q_sum g n + g n)
    rw [q_sum_add n]; omega
theorem q_sum_0 : ∀ n, q_sum (fun _ => 0) n = 0
  | 0 => rfl
  | n + 1 => q_sum_0 n
theorem q_sum_swap {f : Nat → Nat → Nat} : ∀ m n, q_sum (fun i => q_sum (fun j => f i j) m) n = q_sum (fun j => q_sum (fun i => f i j) n) m
  | 0, n => q_sum_0 n
  | m + 1, n => by
    show q_sum (fun i => q_sum (fun j => f i j) m + f i m) n = q_sum (fun j => q_sum (fun i => f i j) n) m + q_sum (fun i => f i m) n
    rw [q_sum_add, q_sum_swap m n]
theorem q_sum_cong {f g : Nat → Nat} : ∀ {n}, (∀ i, i < n → f i = g i) → q_sum f n = q_sum g n
  | 0, _ => rfl
  | n + 1, h => by
    show q_sum f n + f n = q_sum g n + g n
    rw [q_sum_cong (fun i hi => h i (by omega)), h n (Nat.lt_succ_self n)]
theorem cnt_sum {p : Nat → Bool} : ∀ n, cnt p n = q_sum (fun i => (p i).toNat) n
  | 0 => rfl
  | n + 1 => by
    show cnt p n + (p n).toNat = q_sum (fun i => (p i).toNat) n + (p n).toNat
    rw [cnt_sum n]
/-- how many of a set as it is told -/
theorem q_bc_sto {p : Nat → Bool} {T : Nat} (hT : T ≤ 8) : q_bc (sto p T) = cnt p T := by
  unfold q_bc
  have h1 := cnt_hi (p := fun i => (sto p T).testBit i) (T := T) (fun i hi => by rw [sto_tb, decide_eq_false (by omega)]; rfl) (8 - T)
  rw [show T + (8 - T) = 8 by omega] at h1
  rw [h1]
  exact cnt_cong (fun i hi => by rw [sto_tb, decide_eq_true hi, Bool.true_and])
theorem sto_and {p q : Nat → Bool} {T : Nat} : sto p T &&& sto q T = sto (fun i => p i && q i) T := by
  apply Nat.eq_of_testBit_eq
  intro i
  rw [Nat.testBit_and, sto_tb, sto_tb, sto_tb]
  cases decide (i < T) <;> simp
theorem sto_or {p q : Nat → Bool} {T : Nat} : sto p T ||| sto q T = sto (fun i => p i || q i) T := by
  apply Nat.eq_of_testBit_eq
  intro i
  rw [Nat.testBit_or, sto_tb, sto_tb, sto_tb]
  cases decide (i < T) <;> simp
theorem sto_0 {p : Nat → Bool} {T : Nat} : sto p T = 0 ↔ ∀ i, i < T → p i = false := by
  constructor
  · intro h i hi
    have := congrArg (fun x => x.testBit i) h
    simp only [sto_tb, Nat.zero_testBit, decide_eq_true hi, Bool.true_and] at this
    exact this
  · intro h
    apply Nat.eq_of_testBit_eq
    intro i
    rw [sto_tb, Nat.zero_testBit]
    by_cases hi : i < T
    · rw [h i hi, Bool.and_false]
    · rw [decide_eq_false hi]; rfl
/-- the least in a set -/
def q_tz (a : Nat) : Nat := match q_find (fun i => a.testBit i) 8 with | none => 32 | some i => i
def q_tzx (a : Int32) : Int32 := (a ^^^ (Int32.ofNat 4294967295)) &&& (a - Int32.ofNat 1)
def q_tz49 (x0 x1 : Int32) : Int32 := (if (Int32.ofNat 16) < x0 then (if (Int32.ofNat 4) < ((x0).toUInt32 >>> (((Int32.ofNat 4)).toUInt32 &&& Int32.toUInt32 31)).toInt32 then (((x1 + Int32.ofInt 4) + Int32.ofInt 2) + ((((((x0).toUInt32 >>> (((Int32.ofNat 4)).toUInt32 &&& Int32.toUInt32 31)).toInt32).toUInt32 >>> (((Int32.ofNat 2)).toUInt32 &&& Int32.toUInt32 31)).toInt32).toUInt32 >>> (((Int32.ofNat 1)).toUInt32 &&& Int32.toUInt32 31)).toInt32) else ((x1 + Int32.ofInt 4) + ((((x0).toUInt32 >>> (((Int32.ofNat 4)).toUInt32 &&& Int32.toUInt32 31)).toInt32).toUInt32 >>> (((Int32.ofNat 1)).toUInt32 &&& Int32.toUInt32 31)).toInt32)) else (if (Int32.ofNat 4) < x0 then ((x1 + Int32.ofInt 2) + ((((x0).toUInt32 >>> (((Int32.ofNat 2)).toUInt32 &&& Int32.toUInt32 31)).toInt32).toUInt32 >>> (((Int32.ofNat 1)).toUInt32 &&& Int32.toUInt32 31)).toInt32) else (x1 + ((x0).toUInt32 >>> (((Int32.ofNat 1)).toUInt32 &&& Int32.toUInt32 31)).toInt32)))
theorem q_tz_ok : ∀ a, a < 256 → a ≠ 0 → (if (0 : Int32) < q_tzx (nI a) then q_tz49 (q_tzx (nI a)) (Int32.ofNat 1) else q_tzx (nI a) &&& Int32.ofNat 32) = nI (q_tz a) ∧ ¬ Int32.ofNat 65536 < q_tzx (nI a) ∧ ¬ Int32.ofNat 256 < q_tzx (nI a) := by decide +kernel
theorem q_low_ok : ∀ a, a < 256 → a ≠ 0 → nI a &&& (-nI a) = nI (2 ^ q_tz a) := by decide +kernel
variable {X : KXw} {n tot kn D : Nat} {kx : Nat → Nat × Nat} {M : MMw}
theorem c_tz (hD : 1 ≤ D) {a : Nat} (ha : a < 256) (h0 : a ≠ 0) : callw X D 212 [.inl (nI a)] (Gk n tot kn kx) M = some (nI (q_tz a), Gk n tot kn kx, M) :=
  Sq.eq (Sq.mk (k := 0) hD (fun D' hD' => by
    refine Lq.of (t_212_0_ok X (callw X D') n tot kn kx _ M) ?_
    obtain ⟨k1, k2, k3⟩ := q_tz_ok a ha h0
    unfold t_212_0
    rw [show (nI a ^^^ (Int32.ofNat 4294967295)) &&& (nI a - Int32.ofNat 1) = q_tzx (nI a) from rfl]
    by_cases h : (0 : Int32) < q_tzx (nI a)
    · rw [if_pos h] at k1
      rw [if_pos h, if_neg k2, if_neg k3, Wq_jmp]
      refine Lq.of (t_212_49_ok X (callw X D') n tot kn kx _ _ M) ?_
      have e : t_212_49 X (callw X D') n tot kn kx (q_tzx (nI a)) (Int32.ofNat 1) M = some (.inl (q_tz49 (q_tzx (nI a)) (Int32.ofNat 1), Gk n tot kn kx, M)) := by
        unfold t_212_49 q_tz49
        split
        · split <;> rfl
        · split <;> rfl
      rw [e, Wq_ret]
      exact ⟨k1, rfl⟩
    · rw [if_neg h] at k1
      rw [if_neg h, Wq_ret]
      exact ⟨k1, rfl⟩))
theorem q_tz_sto {p : Nat → Bool} {T : Nat} (hT : T ≤ 8) : (match q_find p T with | none => sto p T = 0 | some i => sto p T ≠ 0 ∧ q_tz (sto p T) = i) := by
  cases hf : q_find p T with
  | none => exact sto_0.mpr (q_find_none.mp hf)
  | some i =>
    obtain ⟨h1, h2, h3⟩ := q_find_some hf
    refine ⟨fun h => ?_, ?_⟩
    · have := sto_0.mp h i h1
      rw [h2] at this; cases this
    · unfold q_tz
      rw [q_find_at (p := fun j => (sto p T).testBit j) (i := i) (fun j hj => by rw [sto_tb, h3 j hj, Bool.and_false]) (by rw [sto_tb, h2, decide_eq_true h1]; rfl) (by omega)]
def q_kd (W : Nat → Int32) (t : Nat) : Nat := q_n W (16 + 10 * t)
/-- the tools that serve a man; those of some kinds; those that serve anybody -/
def q_ts (W : Nat → Int32) (m : Nat) : Nat := sto (fun t => q_serve W t m) (q_n W 96)
def q_tk (W : Nat → Int32) (ks : Nat) : Nat := sto (fun t => ks.testBit (q_kd W t)) (q_n W 96)
def q_hand (W : Nat → Int32) (t : Nat) : Bool := q_any (fun m => q_serve W t m) (q_n W 97)
def q_th2 (W : Nat → Int32) : Nat := sto (q_hand W) (q_n W 96)
theorem q_ts_lt {W : Nat → Int32} {m : Nat} (hT : q_n W 96 ≤ 8) : q_ts W m < 256 := sto_le (m := 8) hT
theorem q_tk_lt {W : Nat → Int32} {m : Nat} (hT : q_n W 96 ≤ 8) : q_tk W m < 256 := sto_le (m := 8) hT
theorem c_toolsServing (hD : 5 ≤ D) {W : Nat → Int32} {m : Nat} (hm : m < 4) (h : CX M 10 W) : Sq X D 185 [.inr (.inl 120), .inr (.inl 1), .inl (nI m)] (Gk n tot kn kx) M (fun x M' => x = nI (q_ts W m) ∧ Fr [121, 122] M M') :=
  Sq.mk (k := 4) hD (fun D' hD' => by
    refine Lq.of (t_185_p120_p1_0_ok X (callw X D') n tot kn kx _ M) ?_
    unfold t_185_p120_p1_0
    rw [Wq_jmp, o_nI]
    obtain ⟨w1, w2⟩ := h.2.2.1.1.1
    have e20 : M 2 0 = nI (q_n W 96) := by rw [h.1.1.1]; exact w1
    have loop : ∀ (c t : Nat) (M1 : MMw), t + c = q_n W 96 → Fr [121, 122] M M1 → Lq X (callw X D') 185 5 [some (.inr (.inl 120)), some (.inr (.inl 1)), some (.inl (nI m)), some (.inl (nI (sto (fun t => q_serve W t m) t))), some (.inl (nI t))] (Gk n tot kn kx) M1 (fun x M' => x = nI (q_ts W m) ∧ Fr [121, 122] M M') := by
      intro c
      induction c with
      | zero =>
        intro t M1 ht hf
        refine Lq.of (t_185_p120_p1_5_ok X (callw X D') n tot kn kx _ _ _ M1) ?_
        unfold t_185_p120_p1_5
        rw [hf 2 (by decide), e20, if_neg (by rw [lt_i (by omega) (by omega)]; omega), Wq_ret, show t = q_n W 96 by omega]
        exact ⟨rfl, hf⟩
      | succ c ih =>
        intro t M1 ht hf
        refine Lq.of (t_185_p120_p1_5_ok X (callw X D') n tot kn kx _ _ _ M1) ?_
        unfold t_185_p120_p1_5
        simp only [o_nI]
        rw [hf 2 (by decide), e20, if_pos (by rw [lt_i (by omega) (by omega)]; omega), if_pos (by rw [lt_i (by omega) (by omega)]; omega)]
        refine Wq.call (c_serve10 hD' (show t < 8 by omega) hm (h.fr hf (by decide))) ?_
        rintro x M2 ⟨rfl, hf2⟩
        have hn := ih (t + 1) M2 (by omega) (hf.tr hf2)
        cases hs : q_serve W t m with
        | false =>
          rw [sto_sf (p := fun t => q_serve W t m) hs] at hn
          rw [if_pos (by rfl), Wq_jmp, i1_nI, nI_add]
          exact hn
        | true =>
          rw [sto_st (p := fun t => q_serve W t m) hs] at hn
          rw [if_neg (by decide +kernel), Wq_jmp, i1_nI, nI_add, nI_shl (by omega), nI_or, Nat.one_mul]
          exact hn
    exact loop (q_n W 96) 0 M (by omega) Fr.rf)
theorem c_toolsOf (hD : 2 ≤ D) {W : Nat → Int32} {ks : Nat} (hks : ks < 2 ^ 31) (hc : CRcrew M 2 W) (hy : q_invY W) : callw X D 209 [.inr (.inl 2), .inl (nI ks)] (Gk n tot kn kx) M = some (nI (q_tk W ks), Gk n tot kn kx, M) :=
  Sq.eq (Sq.mk (k := 1) hD (fun D' hD' => by
    refine Lq.of (t_209_p2_0_ok X (callw X D') n tot kn kx _ M) ?_
    unfold t_209_p2_0
    rw [Wq_jmp, o_nI]
    obtain ⟨w1, w2⟩ := hy.1.1
    have e20 : M 2 0 = nI (q_n W 96) := by rw [hc.1]; exact w1
    have loop : ∀ (c t : Nat), t + c = q_n W 96 → Lq X (callw X D') 209 4 [some (.inr (.inl 2)), some (.inl (nI ks)), some (.inl (nI (sto (fun t => ks.testBit (q_kd W t)) t))), some (.inl (nI t))] (Gk n tot kn kx) M (fun x M' => x = nI (q_tk W ks) ∧ M' = M) := by
      intro c
      induction c with
      | zero =>
        intro t ht
        refine Lq.of (t_209_p2_4_ok X (callw X D') n tot kn kx _ _ _ M) ?_
        unfold t_209_p2_4
        rw [e20, if_neg (by rw [lt_i (by omega) (by omega)]; omega), Wq_ret, show t = q_n W 96 by omega]
        exact ⟨rfl, rfl⟩
      | succ c ih =>
        intro t ht
        refine Lq.of (t_209_p2_4_ok X (callw X D') n tot kn kx _ _ _ M) ?_
        unfold t_209_p2_4
        have t8 : t < 8 := by omega
        have kk := (hy.2.2.2.1 t t8).1
        have k4 := kk.2.2.2
        have e3 : M 3 t = nI (q_kd W t) := by rw [hc.2.2.2.2.1 t t8]; exact kk.2.2.1
        have hn := ih (t + 1) (by omega)
        simp only [o_nI]
        rw [e20, if_pos (by rw [lt_i (by omega) (by omega)]; omega), if_pos (by rw [lt_i (by omega) (by omega)]; omega), inb_nI t8 (by decide), if_pos rfl, nI_clamp (by omega), e3, c_isIn (by omega), bnd_some, q_bit_nI hks (by unfold q_kd; omega)]
        cases hs : ks.testBit (q_kd W t) with
        | false =>
          rw [sto_sf (p := fun t => ks.testBit (q_kd W t)) hs] at hn
          rw [if_pos (by rfl), Wq_jmp, i1_nI, nI_add]
          exact hn
        | true =>
          rw [sto_st (p := fun t => ks.testBit (q_kd W t)) hs] at hn
          rw [if_neg (by decide +kernel), Wq_jmp, i1_nI, nI_add, nI_shl (by omega), nI_or, Nat.one_mul]
          exact hn
    exact loop (q_n W 96) 0 (by omega)))
theorem c_toolsInHands (hD : 6 ≤ D) {W : Nat → Int32} (h : CX M 10 W) : Sq X D 211 [.inr (.inl 120), .inr (.inl 1)] (Gk n tot kn kx) M (fun x M' => x = nI (q_th2 W) ∧ Fr [121, 122] M M') :=
  Sq.mk (k := 5) hD (fun D' hD' => by
    refine Lq.of (t_211_p120_p1_0_ok X (callw X D') n tot kn kx M) ?_
    unfold t_211_p120_p1_0
    rw [Wq_jmp, o_nI]
    obtain ⟨w1, w2⟩ := h.2.2.1.1.2.1
    have e21 : M 2 1 = nI (q_n W 97) := by rw [h.1.1.2.1]; exact w1
    have h0 : (0 : Nat) = sto (fun t => q_any (fun m => q_serve W t m) 0) (q_n W 96) := (sto_0.mpr (fun i hi => rfl)).symm
    have loop : ∀ (c m : Nat) (M1 : MMw), m + c = q_n W 97 → Fr [121, 122] M M1 → Lq X (callw X D') 211 4 [some (.inr (.inl 120)), some (.inr (.inl 1)), some (.inl (nI (sto (fun t => q_any (fun m => q_serve W t m) m) (q_n W 96)))), some (.inl (nI m))] (Gk n tot kn kx) M1 (fun x M' => x = nI (q_th2 W) ∧ Fr [121, 122] M M') := by
      intro c
      induction c with
      | zero =>
        intro m M1 hm hf
        refine Lq.of (t_211_p120_p1_4_ok X (callw X D') n tot kn kx _ _ M1) ?_
        unfold t_211_p120_p1_4
        rw [hf 2 (by decide), e21, if_neg (by rw [lt_i (by omega) (by omega)]; omega), Wq_ret, show m = q_n W 97 by omega]
        exact ⟨rfl, hf⟩
      | succ c ih =>
        intro m M1 hm hf
        refine Lq.of (t_211_p120_p1_4_ok X (callw X D') n tot kn kx _ _ M1) ?_
        unfold t_211_p120_p1_4
        simp only [o_nI]
        rw [hf 2 (by decide), e21, if_pos (by rw [lt_i (by omega) (by omega)]; omega), if_pos (by rw [lt_i (by omega) (by omega)]; omega)]
        refine Wq.call (c_toolsServing hD' (show m < 4 by omega) (h.fr hf (by decide))) ?_
        rintro x M2 ⟨rfl, hf2⟩
        have hn := ih (m + 1) M2 (by omega) (hf.tr hf2)
        rw [Wq_jmp, i1_nI, nI_add, nI_or]
        unfold q_ts
        rw [sto_or]
        exact hn
    have hl := loop (q_n W 97) 0 M (by omega) Fr.rf
    rw [← h0] at hl
    exact hl)
/-- how many hands of a kind -/
def q_cH (W : Nat → Int32) (k : Nat) : Nat := q_sum (fun t => q_sum (fun m => (decide (q_kd W t = k) && q_serve W t m).toNat) (q_n W 97)) (q_n W 96)
theorem pow_tb {k j : Nat} : (2 ^ k).testBit j = decide (j = k) := by
  rw [Nat.testBit_two_pow]
  by_cases e : k = j
  · rw [decide_eq_true e, decide_eq_true e.symm]
  · rw [decide_eq_false e, decide_eq_false (fun h => e h.symm)]
theorem c_countHands (hD : 6 ≤ D) {W : Nat → Int32} {k : Nat} (hk : k < 4) (h : CX M 10 W) : Sq X D 210 [.inr (.inl 120), .inr (.inl 1), .inl (nI k)] (Gk n tot kn kx) M (fun x M' => x = nI (q_cH W k) ∧ Fr [121, 122] M M') :=
  Sq.mk (k := 5) hD (fun D' hD' => by
    refine Lq.of (t_210_p120_p1_0_ok X (callw X D') n tot kn kx _ M) ?_
    unfold t_210_p120_p1_0
    have w3 := h.2.2.1.1.1.2
    have p4 : 2 ^ k < 2 ^ 4 := Nat.pow_lt_pow_right (by decide) hk
    simp only [o_nI]
    rw [nI_shl (by omega), Nat.one_mul, c_toolsOf (by omega) (by omega) h.1.1 h.2.2.1, bnd_some, Wq_jmp]
    obtain ⟨w1, w2⟩ := h.2.2.1.1.2.1
    have e21 : M 2 1 = nI (q_n W 97) := by rw [h.1.1.2.1]; exact w1
    have hc : ∀ m, q_bc (q_ts W m &&& q_tk W (2 ^ k)) = q_sum (fun t => (decide (q_kd W t = k) && q_serve W t m).toNat) (q_n W 96) := by
      intro m
      unfold q_ts q_tk
      rw [sto_and, q_bc_sto (by omega), cnt_sum]
      refine q_sum_cong (fun t _ => ?_)
      rw [pow_tb, Bool.and_comm]
    have loop : ∀ (c m : Nat) (M1 : MMw), m + c = q_n W 97 → Fr [121, 122] M M1 → Lq X (callw X D') 210 17 [some (.inr (.inl 120)), some (.inr (.inl 1)), none, some (.inl (nI (q_sum (fun m => q_sum (fun t => (decide (q_kd W t = k) && q_serve W t m).toNat) (q_n W 96)) m))), some (.inl (nI (q_tk W (2 ^ k)))), some (.inl (nI m))] (Gk n tot kn kx) M1 (fun x M' => x = nI (q_cH W k) ∧ Fr [121, 122] M M') := by
      intro c
      induction c with
      | zero =>
        intro m M1 hm hf
        refine Lq.of (t_210_p120_p1_17_ok X (callw X D') n tot kn kx _ _ _ M1) ?_
        unfold t_210_p120_p1_17
        rw [hf 2 (by decide), e21, if_neg (by rw [lt_i (by omega) (by omega)]; omega), Wq_ret, show m = q_n W 97 by omega]
        refine ⟨?_, hf⟩
        unfold q_cH
        rw [q_sum_swap]
      | succ c ih =>
        intro m M1 hm hf
        refine Lq.of (t_210_p120_p1_17_ok X (callw X D') n tot kn kx _ _ _ M1) ?_
        unfold t_210_p120_p1_17
        simp only [o_nI]
        rw [hf 2 (by decide), e21, if_pos (by rw [lt_i (by omega) (by omega)]; omega), if_pos (by rw [lt_i (by omega) (by omega)]; omega)]
        refine Wq.call (c_toolsServing hD' (show m < 4 by omega) (h.fr hf (by decide))) ?_
        rintro x M2 ⟨rfl, hf2⟩
        have hle : q_ts W m &&& q_tk W (2 ^ k) ≤ q_ts W m := Nat.and_le_left
        have hlt := q_ts_lt (W := W) (m := m) (by omega)
        rw [nI_and, c_bits (by omega) (by omega), bnd_some, hc m, Wq_jmp, i1_nI, nI_add, nI_add]
        exact ih (m + 1) M2 (by omega) (hf.tr hf2)
    exact loop (q_n W 97) 0 M (by omega) Fr.rf)
/-- the first tool and the first man of the hands of a kind -/
def q_ft (W : Nat → Int32) (k : Nat) : Option Nat := q_find (fun t => decide (q_kd W t = k) && q_hand W t) (q_n W 96)
def q_fm (W : Nat → Int32) (t : Nat) : Option Nat := q_find (fun m => q_serve W t m) (q_n W 97)
def q_oI (o : Option Nat) : Int32 := match o with | none => -1 | some k => nI k
theorem c_firstHand (hD : 7 ≤ D) {W : Nat → Int32} {k : Nat} (hk : k < 4) (h : CX M 10 W) : Sq X D 213 [.inr (.inl 120), .inr (.inl 1), .inl (nI k)] (Gk n tot kn kx) M (fun x M' => x = q_oI (q_ft W k) ∧ Fr [121, 122] M M') :=
  Sq.mk (k := 6) hD (fun D' hD' => by
    refine Lq.of (t_213_p120_p1_0_ok X (callw X D') n tot kn kx _ M) ?_
    unfold t_213_p120_p1_0
    have w3 := h.2.2.1.1.1.2
    have p4 : 2 ^ k < 2 ^ 4 := Nat.pow_lt_pow_right (by decide) hk
    refine Wq.call (c_toolsInHands hD' h) ?_
    rintro x M1 ⟨rfl, hf⟩
    simp only [o_nI, m1n, z_nI]
    have hx := h.fr hf (by decide)
    rw [nI_shl (by omega), Nat.one_mul, c_toolsOf (by omega) (by omega) hx.1.1 hx.2.2.1, bnd_some, nI_and]
    have es : q_th2 W &&& q_tk W (2 ^ k) = sto (fun t => decide (q_kd W t = k) && q_hand W t) (q_n W 96) := by
      unfold q_th2 q_tk
      rw [sto_and]
      refine sto_cong (fun t _ => ?_)
      rw [pow_tb, Bool.and_comm]
    rw [es]
    have hlt : sto (fun t => decide (q_kd W t = k) && q_hand W t) (q_n W 96) < 2 ^ 8 := sto_le (by omega)
    have htz := q_tz_sto (p := fun t => decide (q_kd W t = k) && q_hand W t) (T := q_n W 96) (by omega)
    unfold q_ft
    cases hq : q_find (fun t => decide (q_kd W t = k) && q_hand W t) (q_n W 96) with
    | none =>
      rw [hq] at htz
      rw [if_pos (by rw [htz]), Wq_ret]
      exact ⟨rfl, hf⟩
    | some i =>
      rw [hq] at htz
      rw [if_neg (by rw [eq_i (by omega) (by decide)]; exact htz.1), c_tz (by omega) hlt htz.1, bnd_some, Wq_ret, htz.2]
      exact ⟨rfl, hf⟩)
theorem c_firstServed (hD : 5 ≤ D) {W : Nat → Int32} {t : Nat} (ht : t < 8) (h : CX M 10 W) : Sq X D 214 [.inr (.inl 120), .inr (.inl 1), .inl (nI t)] (Gk n tot kn kx) M (fun x M' => x = q_oI (q_fm W t) ∧ Fr [121, 122] M M') :=
  Sq.mk (k := 4) hD (fun D' hD' => by
    refine Lq.of (t_214_p120_p1_0_ok X (callw X D') n tot kn kx _ M) ?_
    unfold t_214_p120_p1_0
    simp only [o_nI, m1n]
    rw [if_neg (by rw [z_nI, lt_i (by omega) (by omega)]; omega), if_pos (by rw [lt_i (by omega) (by omega)]; omega), Wq_jmp]
    obtain ⟨w1, w2⟩ := h.2.2.1.1.2.1
    have e21 : M 2 1 = nI (q_n W 97) := by rw [h.1.1.2.1]; exact w1
    have loop : ∀ (c m : Nat) (M1 : MMw), m + c = q_n W 97 → Fr [121, 122] M M1 → (∀ j, j < m → q_serve W t j = false) → Lq X (callw X D') 214 14 [some (.inr (.inl 120)), some (.inr (.inl 1)), some (.inl (nI t)), some (.inl (nI m))] (Gk n tot kn kx) M1 (fun x M' => x = q_oI (q_fm W t) ∧ Fr [121, 122] M M') := by
      intro c
      induction c with
      | zero =>
        intro m M1 hm hf hno
        refine Lq.of (t_214_p120_p1_14_ok X (callw X D') n tot kn kx _ _ M1) ?_
        unfold t_214_p120_p1_14
        simp only [o_nI, m1n]
        rw [hf 2 (by decide), e21, if_neg (by rw [lt_i (by omega) (by omega)]; omega), Wq_ret]
        refine ⟨?_, hf⟩
        unfold q_fm
        rw [q_find_none.mpr (fun j hj => hno j (by omega))]
        rfl
      | succ c ih =>
        intro m M1 hm hf hno
        refine Lq.of (t_214_p120_p1_14_ok X (callw X D') n tot kn kx _ _ M1) ?_
        unfold t_214_p120_p1_14
        simp only [o_nI, m1n]
        rw [hf 2 (by decide), e21, if_pos (by rw [lt_i (by omega) (by omega)]; omega), if_pos (by rw [lt_i (by omega) (by omega)]; omega)]
        refine Wq.call (c_serve10 hD' ht (show m < 4 by omega) (h.fr hf (by decide))) ?_
        rintro x M2 ⟨rfl, hf2⟩
        cases hs : q_serve W t m with
        | false =>
          rw [if_pos (by rfl), Wq_jmp, i1_nI, nI_add]
          refine ih (m + 1) M2 (by omega) (hf.tr hf2) ?_
          intro j hj
          rcases Nat.lt_or_ge j m with hl | hl
          · exact hno j hl
          · rw [show j = m by omega]; exact hs
        | true =>
          rw [if_neg (by decide +kernel), Wq_ret]
          refine ⟨?_, hf.tr hf2⟩
          unfold q_fm
          rw [q_find_at hno hs (by omega)]
          rfl
    exact loop (q_n W 97) 0 M (by omega) Fr.rf (fun j hj => absurd hj (Nat.not_lt_zero j)))
/-- the reference asks who serves -/
theorem m_serve2 (hD : 6 ≤ D) {W C : Nat → Int32} {M0 : MMw} {t m : Nat} (hW : M0 179 = W) (hf : Fr [187, 188] M0 M) (ht : t < 8) (hm : m < 4) (hl : q_law W 0 C) (hy : q_invY W) : Sq X D 87 [.inr (.inl 178), .inl (nI t), .inl (nI m)] (Gk n tot kn kx) M (fun x M' => x = b2i (q_serve W t m) ∧ Fr [187, 188] M0 M') := by
  have e9 : M 179 = W := by rw [hf 179 (by decide)]; exact hW
  refine Sq.mono (m_serve hD ht hm (C := C) (by rw [e9]; exact hl) (by rw [e9]; exact (hy.2.2.2.1 t ht).1)) ?_
  rintro x M' ⟨h1, h2⟩
  rw [e9] at h1
  exact ⟨h1, hf.tr h2⟩
theorem m_handsOf (hD : 7 ≤ D) {W C : Nat → Int32} {k : Nat} (hW : M 179 = W) (hk : k < 4) (hl : q_law W 0 C) (hy : q_invY W) : Sq X D 218 [.inr (.inl 178), .inl (nI k)] (Gk n tot kn kx) M (fun x M' => x = nI (q_cH W k) ∧ Fr [187, 188] M M') :=
  Sq.mk (k := 6) hD (fun D' hD' => by
    refine Lq.of (t_218_0_ok X (callw X D') n tot kn kx _ M) ?_
    unfold t_218_0
    rw [Wq_jmp, o_nI]
    obtain ⟨w1, w2⟩ := hy.1.1
    obtain ⟨w3, w4⟩ := hy.1.2.1
    have hw : ∀ M1 : MMw, Fr [187, 188] M M1 → M1 179 = W := fun M1 hf => by rw [hf 179 (by decide)]; exact hW
    have inner : ∀ (t s : Nat), t < q_n W 96 → ∀ Q : Int32 → MMw → Prop, (∀ M1 : MMw, Fr [187, 188] M M1 → Lq X (callw X D') 218 4 [some (.inr (.inl 178)), some (.inl (nI k)), some (.inl (nI (s + q_sum (fun m => (decide (q_kd W t = k) && q_serve W t m).toNat) (q_n W 97)))), some (.inl (nI (t + 1))), none] (Gk n tot kn kx) M1 Q) →
        ∀ (c m : Nat) (M1 : MMw), m + c = q_n W 97 → Fr [187, 188] M M1 → Lq X (callw X D') 218 18 [some (.inr (.inl 178)), some (.inl (nI k)), some (.inl (nI (s + q_sum (fun m => (decide (q_kd W t = k) && q_serve W t m).toNat) m))), some (.inl (nI t)), some (.inl (nI m))] (Gk n tot kn kx) M1 Q := by
      intro t s ht Q hend c
      induction c with
      | zero =>
        intro m M1 hm hf
        refine Lq.of (t_218_18_ok X (callw X D') n tot kn kx _ _ _ _ M1) ?_
        unfold t_218_18
        rw [hw M1 hf, w3, if_neg (by rw [lt_i (by omega) (by omega)]; omega), Wq_jmp, i1_nI, nI_add, show m = q_n W 97 by omega]
        exact hend M1 hf
      | succ c ih =>
        intro m M1 hm hf
        refine Lq.of (t_218_18_ok X (callw X D') n tot kn kx _ _ _ _ M1) ?_
        unfold t_218_18
        have kk := (hy.2.2.2.1 t (by omega)).1
        have k4 := kk.2.2.2
        simp only [o_nI, z_nI]
        rw [hw M1 hf, w3, if_pos (by rw [lt_i (by omega) (by omega)]; omega), m_ofTool (by omega) (by omega), bnd_some, hw M1 hf, Nat.add_zero, kk.2.2.1]
        have hn := fun M2 hf2 => ih (m + 1) M2 (by omega) hf2
        by_cases e : q_kd W t = k
        · rw [if_pos (by rw [← e]; rfl)]
          refine Wq.call (m_serve2 hD' hW hf (by omega) (by omega) hl hy) ?_
          rintro x M2 ⟨rfl, hf2⟩
          have hn2 := hn M2 hf2
          cases hs : q_serve W t m with
          | false =>
            rw [show q_sum (fun m => (decide (q_kd W t = k) && q_serve W t m).toNat) (m + 1) = q_sum (fun m => (decide (q_kd W t = k) && q_serve W t m).toNat) m + 0 from congrArg (fun b : Bool => q_sum (fun m => (decide (q_kd W t = k) && q_serve W t m).toNat) m + b.toNat) (show (decide (q_kd W t = k) && q_serve W t m) = false by rw [hs, Bool.and_false])] at hn2
            rw [if_pos (by rfl), Wq_jmp, i1_nI, nI_add, nI_add]
            exact hn2
          | true =>
            rw [show q_sum (fun m => (decide (q_kd W t = k) && q_serve W t m).toNat) (m + 1) = q_sum (fun m => (decide (q_kd W t = k) && q_serve W t m).toNat) m + 1 from congrArg (fun b : Bool => q_sum (fun m => (decide (q_kd W t = k) && q_serve W t m).toNat) m + b.toNat) (show (decide (q_kd W t = k) && q_serve W t m) = true by rw [hs, decide_eq_true e]; rfl)] at hn2
            rw [if_neg (by decide +kernel), Wq_jmp, i1_nI, nI_add, nI_add]
            exact hn2
        · rw [if_neg (by
            intro he
            rw [eq_i (by omega) (by omega)] at he
            exact e he), Wq_jmp, i1_nI, nI_add, nI_add]
          have hn2 := hn M1 hf
          rw [show q_sum (fun m => (decide (q_kd W t = k) && q_serve W t m).toNat) (m + 1) = q_sum (fun m => (decide (q_kd W t = k) && q_serve W t m).toNat) m + 0 from congrArg (fun b : Bool => q_sum (fun m => (decide (q_kd W t = k) && q_serve W t m).toNat) m + b.toNat) (show (decide (q_kd W t = k) && q_serve W t m) = false by rw [decide_eq_false e]; rfl)] at hn2
          exact hn2
    have loop : ∀ (c t : Nat) (M1 : MMw), t + c = q_n W 96 → Fr [187, 188] M M1 → Lq X (callw X D') 218 4 [some (.inr (.inl 178)), some (.inl (nI k)), some (.inl (nI (q_sum (fun t => q_sum (fun m => (decide (q_kd W t = k) && q_serve W t m).toNat) (q_n W 97)) t))), some (.inl (nI t)), none] (Gk n tot kn kx) M1 (fun x M' => x = nI (q_cH W k) ∧ Fr [187, 188] M M') := by
      intro c
      induction c with
      | zero =>
        intro t M1 ht hf
        refine Lq.of (t_218_4_ok X (callw X D') n tot kn kx _ _ _ M1) ?_
        unfold t_218_4
        rw [hw M1 hf, w1, if_neg (by rw [lt_i (by omega) (by omega)]; omega), Wq_ret, show t = q_n W 96 by omega]
        exact ⟨rfl, hf⟩
      | succ c ih =>
        intro t M1 ht hf
        refine Lq.of (t_218_4_ok X (callw X D') n tot kn kx _ _ _ M1) ?_
        unfold t_218_4
        rw [hw M1 hf, w1, if_pos (by rw [lt_i (by omega) (by omega)]; omega), Wq_jmp, o_nI]
        exact inner t _ (by omega) _ (fun M2 hf2 => ih (t + 1) M2 (by omega) hf2) (q_n W 97) 0 M1 (by omega) hf
    exact loop (q_n W 96) 0 M (by omega) Fr.rf)
def q_tF (W : Nat → Int32) (k : Nat) : Nat := sto (fun t => decide (q_kd W t = k) && q_hand W t) (q_n W 96)
theorem m_toolsFor (hD : 7 ≤ D) {W C : Nat → Int32} {k : Nat} (hW : M 179 = W) (hk : k < 4) (hl : q_law W 0 C) (hy : q_invY W) : Sq X D 262 [.inr (.inl 178), .inl (nI k)] (Gk n tot kn kx) M (fun x M' => x = nI (q_tF W k) ∧ Fr [187, 188] M M') :=
  Sq.mk (k := 6) hD (fun D' hD' => by
    refine Lq.of (t_262_0_ok X (callw X D') n tot kn kx _ M) ?_
    unfold t_262_0
    rw [Wq_jmp, o_nI]
    obtain ⟨w1, w2⟩ := hy.1.1
    obtain ⟨w3, w4⟩ := hy.1.2.1
    have hw : ∀ M1 : MMw, Fr [187, 188] M M1 → M1 179 = W := fun M1 hf => by rw [hf 179 (by decide)]; exact hW
    have inner : ∀ (t s : Nat), t < q_n W 96 → ∀ Q : Int32 → MMw → Prop, (∀ M1 : MMw, Fr [187, 188] M M1 → Lq X (callw X D') 262 4 [some (.inr (.inl 178)), some (.inl (nI k)), some (.inl (nI (if decide (q_kd W t = k) && q_any (fun m => q_serve W t m) (q_n W 97) then s ||| 2 ^ t else s))), some (.inl (nI (t + 1))), none] (Gk n tot kn kx) M1 Q) →
        ∀ (c m : Nat) (M1 : MMw), m + c = q_n W 97 → Fr [187, 188] M M1 → Lq X (callw X D') 262 18 [some (.inr (.inl 178)), some (.inl (nI k)), some (.inl (nI (if decide (q_kd W t = k) && q_any (fun m => q_serve W t m) m then s ||| 2 ^ t else s))), some (.inl (nI t)), some (.inl (nI m))] (Gk n tot kn kx) M1 Q := by
      intro t s ht Q hend c
      induction c with
      | zero =>
        intro m M1 hm hf
        refine Lq.of (t_262_18_ok X (callw X D') n tot kn kx _ _ _ _ M1) ?_
        unfold t_262_18
        rw [hw M1 hf, w3, if_neg (by rw [lt_i (by omega) (by omega)]; omega), Wq_jmp, i1_nI, nI_add, show m = q_n W 97 by omega]
        exact hend M1 hf
      | succ c ih =>
        intro m M1 hm hf
        refine Lq.of (t_262_18_ok X (callw X D') n tot kn kx _ _ _ _ M1) ?_
        unfold t_262_18
        have kk := (hy.2.2.2.1 t (by omega)).1
        have k4 := kk.2.2.2
        simp only [o_nI, z_nI]
        rw [hw M1 hf, w3, if_pos (by rw [lt_i (by omega) (by omega)]; omega), m_ofTool (by omega) (by omega), bnd_some, hw M1 hf, Nat.add_zero, kk.2.2.1]
        have hn := fun M2 hf2 => ih (m + 1) M2 (by omega) hf2
        by_cases e : q_kd W t = k
        · rw [if_pos (by rw [← e]; rfl)]
          refine Wq.call (m_serve2 hD' hW hf (by omega) (by omega) hl hy) ?_
          rintro x M2 ⟨rfl, hf2⟩
          have hn2 := hn M2 hf2
          rw [q_any] at hn2
          rw [decide_eq_true e, Bool.true_and] at hn2 ⊢
          cases hs : q_serve W t m with
          | false =>
            rw [hs, Bool.or_false] at hn2
            rw [if_pos (by rfl), Wq_jmp, i1_nI, nI_add]
            exact hn2
          | true =>
            rw [hs, Bool.or_true, if_pos rfl] at hn2
            rw [if_neg (by decide +kernel), Wq_jmp, i1_nI, nI_add, nI_shl (by omega), nI_or, Nat.one_mul]
            have eo : (if q_any (fun m => q_serve W t m) m = true then s ||| 2 ^ t else s) ||| 2 ^ t = s ||| 2 ^ t := by
              split
              · rw [Nat.or_assoc, Nat.or_self]
              · rfl
            rw [eo]
            exact hn2
        · rw [if_neg (by
            intro he
            rw [eq_i (by omega) (by omega)] at he
            exact e he), Wq_jmp, i1_nI, nI_add]
          have hn2 := hn M1 hf
          rw [decide_eq_false e, Bool.false_and] at hn2 ⊢
          exact hn2
    have loop : ∀ (c t : Nat) (M1 : MMw), t + c = q_n W 96 → Fr [187, 188] M M1 → Lq X (callw X D') 262 4 [some (.inr (.inl 178)), some (.inl (nI k)), some (.inl (nI (sto (fun t => decide (q_kd W t = k) && q_hand W t) t))), some (.inl (nI t)), none] (Gk n tot kn kx) M1 (fun x M' => x = nI (q_tF W k) ∧ Fr [187, 188] M M') := by
      intro c
      induction c with
      | zero =>
        intro t M1 ht hf
        refine Lq.of (t_262_4_ok X (callw X D') n tot kn kx _ _ _ M1) ?_
        unfold t_262_4
        rw [hw M1 hf, w1, if_neg (by rw [lt_i (by omega) (by omega)]; omega), Wq_ret, show t = q_n W 96 by omega]
        exact ⟨rfl, hf⟩
      | succ c ih =>
        intro t M1 ht hf
        refine Lq.of (t_262_4_ok X (callw X D') n tot kn kx _ _ _ M1) ?_
        unfold t_262_4
        rw [hw M1 hf, w1, if_pos (by rw [lt_i (by omega) (by omega)]; omega), Wq_jmp, o_nI]
        have hi := inner t (sto (fun t => decide (q_kd W t = k) && q_hand W t) t) (by omega) (fun x M' => x = nI (q_tF W k) ∧ Fr [187, 188] M M') (fun M2 hf2 => by
          have := ih (t + 1) M2 (by omega) hf2
          by_cases e : (decide (q_kd W t = k) && q_hand W t) = true
          · rw [sto_st e] at this
            unfold q_hand at e
            rw [if_pos e]
            exact this
          · have e2 := eq_false_of_ne_true e
            rw [sto_sf e2] at this
            unfold q_hand at e
            rw [if_neg e]
            exact this) (q_n W 97) 0 M1 (by omega) hf
        rw [q_any, Bool.and_false] at hi
        exact hi
    exact loop (q_n W 96) 0 M (by omega) Fr.rf)
/-- the reference's first couple -/
def q_fc (W : Nat → Int32) (k : Nat) : Int32 := match q_ft W k with | none => -1 | some t => match q_fm W t with | none => -1 | some m => nI (4 * t + m)
theorem m_firstHands (hD : 7 ≤ D) {W C : Nat → Int32} {k : Nat} (hW : M 179 = W) (hk : k < 4) (hl : q_law W 0 C) (hy : q_invY W) : Sq X D 217 [.inr (.inl 178), .inl (nI k)] (Gk n tot kn kx) M (fun x M' => x = q_fc W k ∧ Fr [187, 188] M M') :=
  Sq.mk (k := 6) hD (fun D' hD' => by
    refine Lq.of (t_217_0_ok X (callw X D') n tot kn kx _ M) ?_
    unfold t_217_0
    rw [Wq_jmp, o_nI]
    obtain ⟨w1, w2⟩ := hy.1.1
    obtain ⟨w3, w4⟩ := hy.1.2.1
    have hw : ∀ M1 : MMw, Fr [187, 188] M M1 → M1 179 = W := fun M1 hf => by rw [hf 179 (by decide)]; exact hW
    have inner : ∀ t : Nat, t < q_n W 96 → (∀ j, j < t → (decide (q_kd W j = k) && q_hand W j) = false) → (∀ M1 : MMw, Fr [187, 188] M M1 → (decide (q_kd W t = k) && q_hand W t) = false → Lq X (callw X D') 217 2 [some (.inr (.inl 178)), some (.inl (nI k)), some (.inl (nI (t + 1))), none] (Gk n tot kn kx) M1 (fun x M' => x = q_fc W k ∧ Fr [187, 188] M M')) →
        ∀ (c m : Nat) (M1 : MMw), m + c = q_n W 97 → Fr [187, 188] M M1 → (∀ j, j < m → (decide (q_kd W t = k) && q_serve W t j) = false) → Lq X (callw X D') 217 15 [some (.inr (.inl 178)), some (.inl (nI k)), some (.inl (nI t)), some (.inl (nI m))] (Gk n tot kn kx) M1 (fun x M' => x = q_fc W k ∧ Fr [187, 188] M M') := by
      intro t ht hbef hend c
      induction c with
      | zero =>
        intro m M1 hm hf hno
        refine Lq.of (t_217_15_ok X (callw X D') n tot kn kx _ _ _ M1) ?_
        unfold t_217_15
        rw [hw M1 hf, w3, if_neg (by rw [lt_i (by omega) (by omega)]; omega), Wq_jmp, i1_nI, nI_add]
        refine hend M1 hf ?_
        cases e : decide (q_kd W t = k) with
        | false => rfl
        | true =>
          rw [Bool.true_and]
          cases hh : q_hand W t with
          | false => rfl
          | true =>
            obtain ⟨j, hj, hs⟩ := q_any_iff.mp hh
            have := hno j (by omega)
            rw [e, hs] at this; cases this
      | succ c ih =>
        intro m M1 hm hf hno
        refine Lq.of (t_217_15_ok X (callw X D') n tot kn kx _ _ _ M1) ?_
        unfold t_217_15
        have kk := (hy.2.2.2.1 t (by omega)).1
        have k4 := kk.2.2.2
        simp only [o_nI, z_nI]
        rw [hw M1 hf, w3, if_pos (by rw [lt_i (by omega) (by omega)]; omega), m_ofTool (by omega) (by omega), bnd_some, hw M1 hf, Nat.add_zero, kk.2.2.1]
        have hn : ∀ M2, Fr [187, 188] M M2 → (decide (q_kd W t = k) && q_serve W t m) = false → _ := fun M2 hf2 hm2 => ih (m + 1) M2 (by omega) hf2 (fun j hj => by
          rcases Nat.lt_or_ge j m with hl | hl
          · exact hno j hl
          · rw [show j = m by omega]; exact hm2)
        by_cases e : q_kd W t = k
        · rw [if_pos (by rw [← e]; rfl)]
          refine Wq.call (m_serve2 hD' hW hf (by omega) (by omega) hl hy) ?_
          rintro x M2 ⟨rfl, hf2⟩
          cases hs : q_serve W t m with
          | false =>
            rw [if_pos (by rfl), Wq_jmp, i1_nI, nI_add]
            exact hn M2 hf2 (by rw [hs, Bool.and_false])
          | true =>
            rw [if_neg (by decide +kernel), Wq_ret, nI_mul, nI_add]
            refine ⟨?_, hf2⟩
            have hh : q_hand W t = true := q_any_iff.mpr ⟨m, by omega, hs⟩
            unfold q_fc q_ft q_fm
            rw [q_find_at hbef (by rw [decide_eq_true e, hh]; rfl) ht]
            dsimp only
            rw [q_find_at (i := m) (fun j hj => by have := hno j hj; rw [decide_eq_true e, Bool.true_and] at this; exact this) hs (by omega)]
        · rw [if_neg (by
            intro he
            rw [eq_i (by omega) (by omega)] at he
            exact e he), Wq_jmp, i1_nI, nI_add]
          exact hn M1 hf (by rw [decide_eq_false e, Bool.false_and])
    have loop : ∀ (c t : Nat) (M1 : MMw), t + c = q_n W 96 → Fr [187, 188] M M1 → (∀ j, j < t → (decide (q_kd W j = k) && q_hand W j) = false) → Lq X (callw X D') 217 2 [some (.inr (.inl 178)), some (.inl (nI k)), some (.inl (nI t)), none] (Gk n tot kn kx) M1 (fun x M' => x = q_fc W k ∧ Fr [187, 188] M M') := by
      intro c
      induction c with
      | zero =>
        intro t M1 ht hf hno
        refine Lq.of (t_217_2_ok X (callw X D') n tot kn kx _ _ M1) ?_
        unfold t_217_2
        simp only [o_nI, m1n]
        rw [hw M1 hf, w1, if_neg (by rw [lt_i (by omega) (by omega)]; omega), Wq_ret]
        refine ⟨?_, hf⟩
        unfold q_fc q_ft
        rw [q_find_none.mpr (fun j hj => hno j (by omega))]
      | succ c ih =>
        intro t M1 ht hf hno
        refine Lq.of (t_217_2_ok X (callw X D') n tot kn kx _ _ M1) ?_
        unfold t_217_2
        rw [hw M1 hf, w1, if_pos (by rw [lt_i (by omega) (by omega)]; omega), Wq_jmp, o_nI]
        refine inner t (by omega) hno (fun M2 hf2 hq => ih (t + 1) M2 (by omega) hf2 (fun j hj => ?_)) (q_n W 97) 0 M1 (by omega) hf (fun j hj => absurd hj (Nat.not_lt_zero j))
        rcases Nat.lt_or_ge j t with hl | hl
        · exact hno j hl
        · rw [show j = t by omega]; exact hq
    exact loop (q_n W 96) 0 M (by omega) Fr.rf (fun j hj => absurd hj (Nat.not_lt_zero j)))
end
