section
-- needs: loved
/-! orders -/
def q_ahI (W : Nat → Int32) (i : Nat) (v : Int32) : Nat → Int32
  | 0 => v
  | j + 1 => if q_n W (106 + 2 * j) = i then q_ahI W i v j ||| nI (2 ^ q_n W (105 + 2 * j)) else q_ahI W i v j
def q_ahN (W : Nat → Int32) (i a : Nat) : Nat → Nat
  | 0 => a
  | j + 1 => if q_n W (106 + 2 * j) = i then q_ahN W i a j ||| 2 ^ q_n W (105 + 2 * j) else q_ahN W i a j
theorem q_ahI_n {W : Nat → Int32} {i a : Nat} : ∀ j, q_ahI W i (nI a) j = nI (q_ahN W i a j)
  | 0 => rfl
  | j + 1 => by
    rw [q_ahI, q_ahN, q_ahI_n j]
    split
    · rw [nI_or]
    · rfl
/-- what goes before a work -/
def q_ah (W : Nat → Int32) (i : Nat) : Nat := q_ahN W i (q_n W (144 + 3 * i)) (q_n W 104)
theorem q_ahN_lt {W : Nat → Int32} {i a N : Nat} (ha : a < 2 ^ N) : ∀ {j}, (∀ k, k < j → q_n W (105 + 2 * k) < N) → q_ahN W i a j < 2 ^ N
  | 0, _ => ha
  | j + 1, h => by
    rw [q_ahN]
    have h1 := q_ahN_lt (W := W) (i := i) ha (j := j) (fun k hk => h k (by omega))
    split
    · exact Nat.or_lt_two_pow h1 (Nat.pow_lt_pow_right (by decide) (h j (Nat.lt_succ_self j)))
    · exact h1
theorem q_ah_lt {W : Nat → Int32} {i : Nat} (hy : q_invY W) (hi : i < q_n W 98) : q_ah W i < 2 ^ q_n W 98 := by
  have h1 := (hy.2.2.2.2.2.1 i hi).2.2.2.2
  exact q_ahN_lt (Nat.lt_of_lt_of_le h1 (Nat.pow_le_pow_right (by decide) (by omega))) (fun k hk => (hy.2.2.2.2.2.2.1 k hk).1.2)
def q_sub (a b : Nat) : Bool := decide (nI a &&& (nI b ^^^ -1) = nI 0)
theorem q_sub_iff {a b : Nat} (ha : a < 2 ^ 31) : q_sub a b = true ↔ ∀ j, a.testBit j = true → b.testBit j = true := by
  unfold q_sub
  rw [decide_eq_true_eq, and_not_0 ha]
def q_rm (s i : Nat) : Nat := s &&& (2 ^ i ^^^ 4294967295)
theorem q_rm_in : ∀ s, s < 256 → ∀ i, i < 8 → s.testBit i = true → q_rm s i < s ∧ q_bc (q_rm s i) + 1 = q_bc s ∧ q_rm s i ||| 2 ^ i = s ∧ (q_rm s i).testBit i = false := by decide +kernel
theorem q_rm_no : ∀ s, s < 256 → ∀ i, i < 8 → s.testBit i = false → q_rm s i = s ∧ q_rm (s ||| 2 ^ i) i = s ∧ (s ||| 2 ^ i).testBit i = true ∧ q_bc (s ||| 2 ^ i) = q_bc s + 1 ∧ s < s ||| 2 ^ i := by decide +kernel
theorem q_bc_N : ∀ N, N < 9 → ∀ s, s < 2 ^ N → q_bc s ≤ N ∧ (q_bc s = N → s = 2 ^ N - 1) ∧ q_bc (2 ^ N - 1) = N := by decide +kernel
theorem q_bc_00 : ∀ s, s < 256 → q_bc s = 0 → s = 0 := by decide +kernel
def q_cn (W : Nat → Int32) (i s : Nat) : Bool := decide (i < q_n W 98) && (!s.testBit i && q_sub (q_ah W i) s)
def q_las (W : Nat → Int32) (i s : Nat) : Bool := decide (i < q_n W 98) && (s.testBit i && q_sub (q_ah W i) (q_rm s i))
def q_fs (W : Nat → Int32) (f : Nat → Nat) (s : Nat) : Nat := q_sum (fun i => if q_cn W i s = true then f (s ||| 2 ^ i) else 0) 8
def q_lst (W : Nat → Int32) (f : Nat → Nat) (s : Nat) : Nat := q_sum (fun i => if q_las W i s = true then f (q_rm s i) else 0) 8
def q_wy (W : Nat → Int32) : Nat → Nat → Nat
  | 0, s => if s = 0 then 1 else 0
  | k + 1, s => q_lst W (q_wy W k) s
def q_ow (W : Nat → Int32) : Nat → Nat → Nat
  | 0, s => if s = 2 ^ q_n W 98 - 1 then 1 else 0
  | k + 1, s => q_fs W (q_ow W k) s
theorem q_sum_mul {f : Nat → Nat} {c : Nat} : ∀ n, q_sum f n * c = q_sum (fun i => f i * c) n
  | 0 => Nat.zero_mul c
  | n + 1 => by
    show (q_sum f n + f n) * c = q_sum (fun i => f i * c) n + f n * c
    rw [Nat.add_mul, q_sum_mul n]
theorem q_mul_sum {f : Nat → Nat} {c : Nat} (n : Nat) : c * q_sum f n = q_sum (fun i => c * f i) n := by
  rw [Nat.mul_comm, q_sum_mul]
  exact q_sum_cong (fun i _ => Nat.mul_comm _ _)
theorem q_sum_at {f : Nat → Nat} {c : Nat} : ∀ {n : Nat}, c < n → q_sum (fun u => if u = c then f u else 0) n = f c
  | 0, h => absurd h (Nat.not_lt_zero c)
  | n + 1, h => by
    show q_sum (fun u => if u = c then f u else 0) n + (if n = c then f n else 0) = f c
    by_cases e : n = c
    · subst e
      rw [q_sum_z (fun t ht => if_neg (by omega)), if_pos rfl, Nat.zero_add]
    · rw [if_neg e, q_sum_at (by omega), Nat.add_zero]
/-- first steps and last steps -/
theorem q_adj {W : Nat → Int32} {f g : Nat → Nat} (hN : q_n W 98 ≤ 8) : q_sum (fun u => f u * q_fs W g u) (2 ^ q_n W 98) = q_sum (fun t => q_lst W f t * g t) (2 ^ q_n W 98) := by
  have p8 : 2 ^ q_n W 98 ≤ 2 ^ 8 := Nat.pow_le_pow_right (by decide) hN
  have e1 : q_sum (fun u => f u * q_fs W g u) (2 ^ q_n W 98) = q_sum (fun i => q_sum (fun u => if q_cn W i u = true then f u * g (u ||| 2 ^ i) else 0) (2 ^ q_n W 98)) 8 := by
    rw [← q_sum_swap]
    refine q_sum_cong (fun u _ => ?_)
    unfold q_fs
    rw [q_mul_sum]
    refine q_sum_cong (fun i _ => ?_)
    split
    · rfl
    · exact Nat.mul_zero _
  have e2 : q_sum (fun t => q_lst W f t * g t) (2 ^ q_n W 98) = q_sum (fun i => q_sum (fun t => if q_las W i t = true then f (q_rm t i) * g t else 0) (2 ^ q_n W 98)) 8 := by
    rw [← q_sum_swap]
    refine q_sum_cong (fun t _ => ?_)
    unfold q_lst
    rw [q_sum_mul]
    refine q_sum_cong (fun i _ => ?_)
    split
    · rfl
    · exact Nat.zero_mul _
  rw [e1, e2]
  refine q_sum_cong (fun i hi => ?_)
  have r1 : q_sum (fun u => if q_cn W i u = true then f u * g (u ||| 2 ^ i) else 0) (2 ^ q_n W 98) = q_sum (fun u => q_sum (fun t => if t = u ||| 2 ^ i then (if q_cn W i u = true then f u * g t else 0) else 0) (2 ^ q_n W 98)) (2 ^ q_n W 98) := by
    refine q_sum_cong (fun u hu => ?_)
    by_cases hc : q_cn W i u = true
    · have hiN : i < q_n W 98 := by unfold q_cn at hc; rw [Bool.and_eq_true, decide_eq_true_eq] at hc; exact hc.1
      have hlt : u ||| 2 ^ i < 2 ^ q_n W 98 := Nat.or_lt_two_pow hu (Nat.pow_lt_pow_right (by decide) hiN)
      rw [q_sum_at (f := fun t => if q_cn W i u = true then f u * g t else 0) hlt]
    · rw [if_neg hc, q_sum_z (fun t _ => by rw [if_neg hc]; split <;> rfl)]
  have r2 : q_sum (fun t => if q_las W i t = true then f (q_rm t i) * g t else 0) (2 ^ q_n W 98) = q_sum (fun t => q_sum (fun u => if t = u ||| 2 ^ i then (if q_cn W i u = true then f u * g t else 0) else 0) (2 ^ q_n W 98)) (2 ^ q_n W 98) := by
    refine q_sum_cong (fun t ht => ?_)
    have hsame : ∀ u, u < 2 ^ q_n W 98 → (if t = u ||| 2 ^ i then (if q_cn W i u = true then f u * g t else 0) else 0) = (if u = q_rm t i then (if q_las W i t = true then f u * g t else 0) else 0) := by
      intro u hu
      by_cases hc : t = u ||| 2 ^ i ∧ q_cn W i u = true
      · obtain ⟨h1, h2⟩ := hc
        have h3 := h2
        unfold q_cn at h3
        rw [Bool.and_eq_true, Bool.and_eq_true, Bool.not_eq_true'] at h3
        obtain ⟨k1, k2, k3, k4, k5⟩ := q_rm_no u (by omega) i hi h3.2.1
        have e : q_rm t i = u := by rw [h1]; exact k2
        have hl : q_las W i t = true := by
          unfold q_las
          rw [h3.1, e, h3.2.2, h1, k3]; rfl
        rw [if_pos h1, if_pos h2, e, if_pos rfl, if_pos hl]
      · have lhs : (if t = u ||| 2 ^ i then (if q_cn W i u = true then f u * g t else 0) else 0) = 0 := by
          by_cases h1 : t = u ||| 2 ^ i
          · rw [if_pos h1, if_neg (fun h2 => hc ⟨h1, h2⟩)]
          · rw [if_neg h1]
        rw [lhs]
        by_cases h1 : u = q_rm t i
        · rw [if_pos h1]
          by_cases h2 : q_las W i t = true
          · refine absurd ?_ hc
            have h3 := h2
            unfold q_las at h3
            rw [Bool.and_eq_true, Bool.and_eq_true] at h3
            obtain ⟨k1, k2, k3, k4⟩ := q_rm_in t (by omega) i hi h3.2.1
            refine ⟨by rw [h1, k3], ?_⟩
            unfold q_cn
            rw [h3.1, h1, k4, h3.2.2]; rfl
          · rw [if_neg h2]
        · rw [if_neg h1]
    rw [q_sum_cong hsame]
    by_cases hl : q_las W i t = true
    · have h3 := hl
      unfold q_las at h3
      rw [Bool.and_eq_true, Bool.and_eq_true] at h3
      obtain ⟨k1, _⟩ := q_rm_in t (by omega) i hi h3.2.1
      rw [q_sum_at (f := fun u => if q_las W i t = true then f u * g t else 0) (show q_rm t i < 2 ^ q_n W 98 by omega)]
    · rw [if_neg hl, q_sum_z (fun u _ => by rw [if_neg hl]; split <;> rfl)]
  rw [r1, r2, q_sum_swap]
theorem q_both {W : Nat → Int32} (hN : q_n W 98 ≤ 8) : q_wy W (q_n W 98) (2 ^ q_n W 98 - 1) = q_ow W (q_n W 98) 0 := by
  have step : ∀ k j, q_sum (fun u => q_wy W (k + 1) u * q_ow W j u) (2 ^ q_n W 98) = q_sum (fun u => q_wy W k u * q_ow W (j + 1) u) (2 ^ q_n W 98) := by
    intro k j
    exact (q_adj (f := q_wy W k) (g := q_ow W j) hN).symm
  have all : ∀ k j, q_sum (fun u => q_wy W k u * q_ow W j u) (2 ^ q_n W 98) = q_sum (fun u => q_wy W 0 u * q_ow W (j + k) u) (2 ^ q_n W 98) := by
    intro k
    induction k with
    | zero => intro j; rfl
    | succ k ih => intro j; rw [step k j, ih (j + 1), show j + 1 + k = j + (k + 1) by omega]
  have pos : 0 < 2 ^ q_n W 98 := Nat.two_pow_pos _
  have h1 := all (q_n W 98) 0
  rw [Nat.zero_add] at h1
  have l1 : q_sum (fun u => q_wy W (q_n W 98) u * q_ow W 0 u) (2 ^ q_n W 98) = q_wy W (q_n W 98) (2 ^ q_n W 98 - 1) := by
    rw [q_sum_cong (g := fun u => if u = 2 ^ q_n W 98 - 1 then q_wy W (q_n W 98) u else 0) (fun u _ => by
      rw [q_ow]
      split
      · exact Nat.mul_one _
      · exact Nat.mul_zero _), q_sum_at (by omega)]
  have l2 : q_sum (fun u => q_wy W 0 u * q_ow W (q_n W 98) u) (2 ^ q_n W 98) = q_ow W (q_n W 98) 0 := by
    rw [q_sum_cong (g := fun u => if u = 0 then q_ow W (q_n W 98) u else 0) (fun u _ => by
      rw [q_wy]
      split
      · exact Nat.one_mul _
      · exact Nat.zero_mul _), q_sum_at pos]
  rw [← l1, ← l2]; exact h1
/-- if one order is there, no set is stuck -/
theorem q_ow_go {W : Nat → Int32} (hN : q_n W 98 ≤ 8) (hy : q_invY W) : ∀ k u s, q_ow W k u ≠ 0 → u < 2 ^ q_n W 98 → s < 2 ^ q_n W 98 → (∀ j, u.testBit j = true → s.testBit j = true) → s ≠ 2 ^ q_n W 98 - 1 → ∃ i, i < q_n W 98 ∧ q_cn W i s = true := by
  have p8 : 2 ^ q_n W 98 ≤ 2 ^ 8 := Nat.pow_le_pow_right (by decide) hN
  intro k
  induction k with
  | zero =>
    intro u s h hu hs hsub hne
    rw [q_ow] at h
    by_cases e : u = 2 ^ q_n W 98 - 1
    · refine absurd ?_ hne
      apply Nat.eq_of_testBit_eq
      intro j
      rw [Nat.testBit_two_pow_sub_one]
      by_cases hj : j < q_n W 98
      · rw [decide_eq_true hj]
        exact hsub j (by rw [e, Nat.testBit_two_pow_sub_one, decide_eq_true hj])
      · rw [decide_eq_false hj]
        exact Nat.testBit_lt_two_pow (Nat.lt_of_lt_of_le hs (Nat.pow_le_pow_right (by decide) (by omega)))
    · rw [if_neg e] at h; exact absurd rfl h
  | succ k ih =>
    intro u s h hu hs hsub hne
    rw [q_ow] at h
    have hex : ∃ i, i < 8 ∧ q_cn W i u = true ∧ q_ow W k (u ||| 2 ^ i) ≠ 0 := by
      refine Classical.byContradiction (fun hh => h ?_)
      unfold q_fs
      refine q_sum_z (fun i hi => ?_)
      by_cases hc : q_cn W i u = true
      · rw [if_pos hc]
        exact Classical.byContradiction (fun h0 => hh ⟨i, hi, hc, h0⟩)
      · rw [if_neg hc]
    obtain ⟨i, hi, hc, h0⟩ := hex
    have hc2 := hc
    unfold q_cn at hc2
    rw [Bool.and_eq_true, Bool.and_eq_true, decide_eq_true_eq] at hc2
    by_cases hb : s.testBit i = true
    · refine ih (u ||| 2 ^ i) s h0 (Nat.or_lt_two_pow hu (Nat.pow_lt_pow_right (by decide) hc2.1)) hs (fun j hj => ?_) hne
      rw [Nat.testBit_or, pow_tb, Bool.or_eq_true, decide_eq_true_eq] at hj
      rcases hj with hj | rfl
      · exact hsub j hj
      · exact hb
    · refine ⟨i, hc2.1, ?_⟩
      have hlt := q_ah_lt hy hc2.1
      unfold q_cn
      rw [decide_eq_true hc2.1, eq_false_of_ne_true hb]
      refine (q_sub_iff (by omega)).mpr (fun j hj => hsub j ((q_sub_iff (by omega)).mp hc2.2.2 j hj))
theorem q_ow_all {W : Nat → Int32} (hN : q_n W 98 ≤ 8) (hy : q_invY W) (h : q_ow W (q_n W 98) 0 ≠ 0) : ∀ k s, s < 2 ^ q_n W 98 → q_bc s + k = q_n W 98 → q_ow W k s ≠ 0 := by
  have p8 : 2 ^ q_n W 98 ≤ 2 ^ 8 := Nat.pow_le_pow_right (by decide) hN
  intro k
  induction k with
  | zero =>
    intro s hs hk
    rw [q_ow, if_pos ((q_bc_N _ (by omega) s hs).2.1 (by omega))]
    decide
  | succ k ih =>
    intro s hs hk
    obtain ⟨b1, b2, b3⟩ := q_bc_N _ (by omega) s hs
    obtain ⟨i, hi, hc⟩ := q_ow_go hN hy _ 0 s h (Nat.two_pow_pos _) hs (fun j hj => by rw [Nat.zero_testBit] at hj; cases hj) (fun e => by rw [e, b3] at hk; omega)
    have hc2 := hc
    unfold q_cn at hc2
    rw [Bool.and_eq_true, Bool.and_eq_true, Bool.not_eq_true'] at hc2
    obtain ⟨_, _, _, k4, _⟩ := q_rm_no s (by omega) i (by omega) hc2.2.1
    have h1 := ih (s ||| 2 ^ i) (Nat.or_lt_two_pow hs (Nat.pow_lt_pow_right (by decide) hi)) (by omega)
    have h2 := q_sum_ge (f := fun i => if q_cn W i s = true then q_ow W k (s ||| 2 ^ i) else 0) (show i < 8 by omega)
    rw [if_pos hc] at h2
    intro h0
    have h3 : q_sum (fun i => if q_cn W i s = true then q_ow W k (s ||| 2 ^ i) else 0) 8 = 0 := h0
    omega
theorem q_ow_le {W : Nat → Int32} : ∀ k s, q_ow W k s ≤ 8 ^ k
  | 0, s => by rw [q_ow]; split <;> decide
  | k + 1, s => by
    rw [q_ow]
    have := q_sum_bd (f := fun i => if q_cn W i s = true then q_ow W k (s ||| 2 ^ i) else 0) (c := 8 ^ k) (n := 8) (fun i _ => by
      split
      · exact q_ow_le k _
      · exact Nat.zero_le _)
    rw [Nat.pow_succ, Nat.mul_comm]
    exact this

theorem q_and255 {a : Nat} (h : a < 256) : a &&& 255 = a := by
  rw [show 255 = 2 ^ 8 - 1 from rfl, Nat.and_two_pow_sub_one_eq_mod]
  exact Nat.mod_eq_of_lt h
variable {X : KXw} {n tot kn D : Nat} {kx : Nat → Nat × Nat} {M : MMw}
theorem c_ahead (hD : 1 ≤ D) {W : Nat → Int32} {i : Nat} (hi : i < 8) (hc : CRhull M 17 W) (hy : q_invY W) : callw X D 294 [.inr (.inl 17), .inl (nI i)] (Gk n tot kn kx) M = some (q_ahI W i (M 20 i) (q_n W 104), Gk n tot kn kx, M) :=
  Sq.eq (Sq.mk (k := 0) hD (fun D' hD' => by
    refine Lq.of (t_294_p17_0_ok X (callw X D') n tot kn kx _ M) ?_
    unfold t_294_p17_0
    simp only [o_nI]
    rw [inb_nI hi (by decide), if_pos rfl, Wq_jmp, nI_clamp (by omega)]
    obtain ⟨w1, w2⟩ := hy.1.2.2.2.2
    have w98 := hy.1.2.2.1.2
    have e4 : M 17 4 = nI (q_n W 104) := by rw [hc.2.1]; exact w1
    have loop : ∀ (c j : Nat), j + c = q_n W 104 → Lq X (callw X D') 294 9 [some (.inr (.inl 17)), some (.inl (nI i)), some (.inl (q_ahI W i (M 20 i) j)), some (.inl (nI j))] (Gk n tot kn kx) M (fun x M' => x = q_ahI W i (M 20 i) (q_n W 104) ∧ M' = M) := by
      intro c
      induction c with
      | zero =>
        intro j hj
        refine Lq.of (t_294_p17_9_ok X (callw X D') n tot kn kx _ _ _ M) ?_
        unfold t_294_p17_9
        rw [e4, if_neg (by rw [lt_i (by omega) (by omega)]; omega), Wq_ret, show j = q_n W 104 by omega]
        exact ⟨rfl, rfl⟩
      | succ c ih =>
        intro j hj
        refine Lq.of (t_294_p17_9_ok X (callw X D') n tot kn kx _ _ _ M) ?_
        unfold t_294_p17_9
        obtain ⟨⟨j1, j2⟩, ⟨j3, j4⟩, _⟩ := hy.2.2.2.2.2.2.1 j (by omega)
        have e21 : M 21 j = nI (q_n W (105 + 2 * j)) := by rw [hc.2.2.2.2.2.1 j (by omega)]; exact j1
        have e22 : M 22 j = nI (q_n W (106 + 2 * j)) := by rw [hc.2.2.2.2.2.2 j (by omega)]; exact j3
        have hn := ih (j + 1) (by omega)
        rw [q_ahI] at hn
        simp only [o_nI]
        rw [e4, if_pos (by rw [lt_i (by omega) (by omega)]; omega), if_pos (by rw [lt_i (by omega) (by omega)]; omega), inb_nI (show j < 12 by omega) (by decide), if_pos rfl, if_pos rfl, nI_clamp (by omega), e21, e22, nI_shl (by omega), Nat.one_mul]
        by_cases e : q_n W (106 + 2 * j) = i
        · rw [if_pos e] at hn
          rw [if_pos (by rw [e]), Wq_jmp, i1_nI, nI_add]
          exact hn
        · rw [if_neg e] at hn
          rw [if_neg (by rw [eq_i (by omega) (by omega)]; exact e), Wq_jmp, i1_nI, nI_add]
          exact hn
    exact loop (q_n W 104) 0 (by omega)))
theorem q_ah_of {W : Nat → Int32} {i : Nat} (hi : i < q_n W 98) (hc : CRhull M 17 W) (hy : q_invY W) : q_ahI W i (M 20 i) (q_n W 104) = nI (q_ah W i) := by
  have h1 := (hy.2.2.2.2.2.1 i hi).2.2.2.1
  have e20 : M 20 i = nI (q_n W (144 + 3 * i)) := by rw [hc.2.2.2.2.1 i hi]; exact h1
  rw [e20, q_ahI_n]
  rfl
theorem c_ways (hD : 1 ≤ D) {W : Nat → Int32} {w : Nat → Nat} {s : Nat} (h98 : q_n W 98 ≤ 8) (hs : s < 2 ^ q_n W 98) (hA : ∀ i, i < q_n W 98 → M 23 i = nI (q_ah W i)) (hw : ∀ u, u < s → M 24 u = nI (w u)) : callw X D 295 [.inr (.inl 17), .inl (nI s)] (Gk n tot kn kx) M = some (nI (q_lst W w s), Gk n tot kn kx, M) :=
  Sq.eq (Sq.mk (k := 0) hD (fun D' hD' => by
    have p8 : 2 ^ q_n W 98 ≤ 2 ^ 8 := Nat.pow_le_pow_right (by decide) h98
    refine Lq.of (t_295_p17_0_ok X (callw X D') n tot kn kx _ M) ?_
    unfold t_295_p17_0
    simp only [o_nI]
    rw [Wq_jmp]
    have loop : ∀ (c i : Nat), i + c = 8 → Lq X (callw X D') 295 4 [some (.inr (.inl 17)), some (.inl (nI s)), some (.inl (nI (q_sum (fun i => if q_las W i s = true then w (q_rm s i) else 0) i))), some (.inl (nI i)), none] (Gk n tot kn kx) M (fun x M' => x = nI (q_lst W w s) ∧ M' = M) := by
      intro c
      induction c with
      | zero =>
        intro i hi
        refine Lq.of (t_295_p17_4_ok X (callw X D') n tot kn kx _ _ _ M) ?_
        unfold t_295_p17_4
        simp only [o_nI]
        rw [if_neg (by rw [lt_i (by omega) (by omega)]; omega), Wq_ret, show i = 8 by omega]
        exact ⟨rfl, rfl⟩
      | succ c ih =>
        intro i hi
        refine Lq.of (t_295_p17_4_ok X (callw X D') n tot kn kx _ _ _ M) ?_
        unfold t_295_p17_4
        have i8 : i < 8 := by omega
        have hn := ih (i + 1) (by omega)
        have es : q_sum (fun i => if q_las W i s = true then w (q_rm s i) else 0) (i + 1) = q_sum (fun i => if q_las W i s = true then w (q_rm s i) else 0) i + (if q_las W i s = true then w (q_rm s i) else 0) := rfl
        rw [es] at hn
        have erm : nI s &&& (nI (1 * 2 ^ i) ^^^ -1) = nI (q_rm s i) := by rw [Nat.one_mul, nI_not, nI_and]; rfl
        simp only [o_nI, m1n, z_nI]
        rw [if_pos (by rw [lt_i (by omega) (by omega)]; omega), nI_shl (by omega), erm]
        have hle : q_rm s i ≤ s := Nat.and_le_left
        cases hb : s.testBit i with
        | false =>
          have hl : q_las W i s = false := by unfold q_las; rw [hb, Bool.false_and, Bool.and_false]
          rw [hl, if_neg (by decide), Nat.add_zero] at hn
          rw [if_pos (by rw [(q_rm_no s (by omega) i i8 hb).1]), Wq_jmp, i1_nI, nI_add]
          exact hn
        | true =>
          obtain ⟨k1, k2, k3, k4⟩ := q_rm_in s (by omega) i i8 hb
          have hiN : i < q_n W 98 := by
            rcases Nat.lt_or_ge i (q_n W 98) with hl | hl
            · exact hl
            · rw [Nat.testBit_lt_two_pow (Nat.lt_of_lt_of_le hs (Nat.pow_le_pow_right (by decide) hl))] at hb; cases hb
          have hl : q_las W i s = q_sub (q_ah W i) (q_rm s i) := by unfold q_las; rw [hb, decide_eq_true hiN, Bool.true_and, Bool.true_and]
          rw [hl] at hn
          rw [if_neg (by rw [eq_i (by omega) (by omega)]; omega), inb_nI i8 (by decide), if_pos rfl, nI_clamp (by omega), hA i hiN, nI_and, q_and255 (by omega), inb_nI (show q_rm s i < 256 by omega) (by decide), if_pos rfl, nI_clamp (by omega), hw _ k1]
          by_cases hq : nI (q_ah W i) &&& (nI (q_rm s i) ^^^ -1) = nI 0
          · rw [show q_sub (q_ah W i) (q_rm s i) = true from decide_eq_true hq, if_pos rfl] at hn
            rw [if_pos hq, Wq_jmp, i1_nI, nI_add, nI_add]
            exact hn
          · rw [show q_sub (q_ah W i) (q_rm s i) = false from decide_eq_false hq, if_neg (by decide), Nat.add_zero] at hn
            rw [if_neg hq, Wq_jmp, i1_nI, nI_add]
            exact hn
    exact loop 8 0 (by omega)))
theorem q_wy_s {W : Nat → Int32} {s : Nat} (hs : s < 256) (h0 : s ≠ 0) : q_lst W (fun u => q_wy W (q_bc u) u) s = q_wy W (q_bc s) s := by
  obtain ⟨k, hk⟩ : ∃ k, q_bc s = k + 1 := ⟨q_bc s - 1, by have h1 : q_bc s ≠ 0 := fun h => h0 (q_bc_00 s hs h); omega⟩
  rw [hk, q_wy]
  unfold q_lst
  refine q_sum_cong (fun i hi => ?_)
  by_cases hl : q_las W i s = true
  · have hb := hl
    unfold q_las at hb
    rw [Bool.and_eq_true, Bool.and_eq_true] at hb
    obtain ⟨k1, k2, _⟩ := q_rm_in s hs i hi hb.2.1
    rw [if_pos hl, if_pos hl]
    show q_wy W (q_bc (q_rm s i)) (q_rm s i) = q_wy W k (q_rm s i)
    rw [show q_bc (q_rm s i) = k by omega]
  · rw [if_neg hl, if_neg hl]
theorem c_count (hD : 2 ≤ D) {W : Nat → Int32} (hc : CRhull M 17 W) (hy : q_invY W) : Sq X D 296 [.inr (.inl 17)] (Gk n tot kn kx) M (fun x M' => x = nI (q_wy W (q_n W 98) (2 ^ q_n W 98 - 1)) ∧ Fr [23, 24] M M') :=
  Sq.mk (k := 1) hD (fun D' hD' => by
    obtain ⟨w1, w2⟩ := hy.1.2.2.1
    have p8 : 2 ^ q_n W 98 ≤ 2 ^ 8 := Nat.pow_le_pow_right (by decide) (by omega)
    have pos : 0 < 2 ^ q_n W 98 := Nat.two_pow_pos _
    have e0 : M 17 0 = nI (q_n W 98) := by rw [hc.1]; exact w1
    have hcf : ∀ M1 : MMw, Fr [23, 24] M M1 → CRhull M1 17 W := fun M1 hf => hc.ch (fun d h1 h2 => hf d (by simp; omega)) sameY.rf (by omega) (by have := hy.1.2.2.2.2.2; omega)
    have fill : ∀ (c s : Nat) (M1 : MMw), s + c = 2 ^ q_n W 98 → 1 ≤ s → Fr [23, 24] M M1 → (∀ i, i < q_n W 98 → M1 23 i = nI (q_ah W i)) → (∀ u, u < s → M1 24 u = nI (q_wy W (q_bc u) u)) → Lq X (callw X D') 296 43 [some (.inr (.inl 17)), some (.inl (nI (2 ^ q_n W 98 - 1))), some (.inl (nI s))] (Gk n tot kn kx) M1 (fun x M' => x = nI (q_wy W (q_n W 98) (2 ^ q_n W 98 - 1)) ∧ Fr [23, 24] M M') := by
      intro c
      induction c with
      | zero =>
        intro s M1 hs h1 hf hA hw
        refine Lq.of (t_296_p17_43_ok X (callw X D') n tot kn kx _ _ M1) ?_
        unfold t_296_p17_43
        simp only [o_nI]
        rw [if_pos (by rw [lt_i (by omega) (by omega)]; omega), nI_and, q_and255 (by omega), inb_nI (show 2 ^ q_n W 98 - 1 < 256 by omega) (by decide), if_pos rfl, nI_clamp (by omega), hw _ (by omega), Wq_ret, (q_bc_N _ (by omega) (2 ^ q_n W 98 - 1) (by omega)).2.2]
        exact ⟨rfl, hf⟩
      | succ c ih =>
        intro s M1 hs h1 hf hA hw
        refine Lq.of (t_296_p17_43_ok X (callw X D') n tot kn kx _ _ M1) ?_
        unfold t_296_p17_43
        simp only [o_nI]
        rw [if_neg (by rw [lt_i (by omega) (by omega)]; omega), if_pos (by rw [lt_i (by omega) (by omega)]; omega), c_ways (by omega) (by omega) (by omega) hA hw, bnd_some, q_wy_s (by omega) (by omega), inb_nI (show s < 256 by omega) (by decide), if_pos rfl, nI_clamp (by omega), Wq_jmp, i1_nI, nI_add]
        refine ih (s + 1) _ (by omega) (by omega) (hf.up (by decide)) (fun i hi => by rw [up_ne (by decide)]; exact hA i hi) (fun u hu => ?_)
        rw [up_at]
        by_cases e : u = s
        · subst e; rw [upW_s]
        · rw [upW_n e]; exact hw u (by omega)
    have lay : ∀ (c i : Nat) (M1 : MMw), i + c = 8 → Fr [23, 24] M M1 → (∀ k, k < i → k < q_n W 98 → M1 23 k = nI (q_ah W k)) → Lq X (callw X D') 296 2 [some (.inr (.inl 17)), some (.inl (nI i)), none] (Gk n tot kn kx) M1 (fun x M' => x = nI (q_wy W (q_n W 98) (2 ^ q_n W 98 - 1)) ∧ Fr [23, 24] M M') := by
      intro c
      induction c with
      | zero =>
        intro i M1 hi hf hA
        refine Lq.of (t_296_p17_2_ok X (callw X D') n tot kn kx _ M1) ?_
        unfold t_296_p17_2
        have e1 : M1 17 0 = nI (q_n W 98) := by rw [hf 17 (by decide)]; exact e0
        simp only [o_nI]
        rw [if_neg (by rw [lt_i (by omega) (by omega)]; omega), e1, nI_shl (by omega), Nat.one_mul, nI_sub (by omega), Wq_jmp]
        refine fill (2 ^ q_n W 98 - 1) 1 _ (by omega) (by decide) (hf.up (by decide)) (fun k hk => by rw [up_ne (by decide)]; exact hA k (by omega) hk) (fun u hu => ?_)
        rw [up_at, show u = 0 by omega, upW_s]
        rfl
      | succ c ih =>
        intro i M1 hi hf hA
        refine Lq.of (t_296_p17_2_ok X (callw X D') n tot kn kx _ M1) ?_
        unfold t_296_p17_2
        simp only [o_nI]
        rw [if_pos (by rw [lt_i (by omega) (by omega)]; omega), c_ahead (by omega) (show i < 8 by omega) (hcf M1 hf) hy, bnd_some, inb_nI (show i < 8 by omega) (by decide), if_pos rfl, nI_clamp (by omega), Wq_jmp, i1_nI, nI_add]
        refine ih (i + 1) _ (by omega) (hf.up (by decide)) (fun k hk hkN => ?_)
        rw [up_at]
        by_cases e : k = i
        · subst e; rw [upW_s]; exact q_ah_of hkN (hcf M1 hf) hy
        · rw [upW_n e]; exact hA k (by omega) hkN
    refine Lq.of (t_296_p17_0_ok X (callw X D') n tot kn kx M) ?_
    unfold t_296_p17_0
    simp only [o_nI]
    rw [Wq_jmp]
    exact lay 8 0 M (by omega) Fr.rf (fun k hk => absurd hk (Nat.not_lt_zero k)))
def q_fd (W : Nat → Int32) (s : Nat) : Option Nat := q_find (fun i => q_cn W i s) (q_n W 98)
theorem c_leastAfter (hD : 2 ≤ D) {W : Nat → Int32} {s : Nat} (hs : s < 256) (hc : CRhull M 17 W) (hy : q_invY W) : callw X D 297 [.inr (.inl 17), .inl (nI s)] (Gk n tot kn kx) M = some (q_oI (q_fd W s), Gk n tot kn kx, M) :=
  Sq.eq (Sq.mk (k := 1) hD (fun D' hD' => by
    obtain ⟨w1, w2⟩ := hy.1.2.2.1
    have e0 : M 17 0 = nI (q_n W 98) := by rw [hc.1]; exact w1
    have loop : ∀ (c i : Nat), i + c = q_n W 98 → (∀ j, j < i → q_cn W j s = false) → Lq X (callw X D') 297 2 [some (.inr (.inl 17)), some (.inl (nI s)), some (.inl (nI i))] (Gk n tot kn kx) M (fun x M' => x = q_oI (q_fd W s) ∧ M' = M) := by
      intro c
      induction c with
      | zero =>
        intro i hi hno
        refine Lq.of (t_297_p17_2_ok X (callw X D') n tot kn kx _ _ M) ?_
        unfold t_297_p17_2
        simp only [o_nI]
        rw [e0, if_neg (by rw [lt_i (by omega) (by omega)]; omega), Wq_ret]
        refine ⟨?_, rfl⟩
        unfold q_fd
        rw [q_find_none.mpr (fun j hj => hno j (by omega)), m1n]
        rfl
      | succ c ih =>
        intro i hi hno
        refine Lq.of (t_297_p17_2_ok X (callw X D') n tot kn kx _ _ M) ?_
        unfold t_297_p17_2
        have hn : q_cn W i s = false → _ := fun hh => ih (i + 1) (by omega) (fun j hj => by
          rcases Nat.lt_or_ge j i with hl | hl
          · exact hno j hl
          · rw [show j = i by omega]; exact hh)
        have hiN : i < q_n W 98 := by omega
        have hcn : q_cn W i s = (!s.testBit i && q_sub (q_ah W i) s) := by unfold q_cn; rw [decide_eq_true hiN, Bool.true_and]
        simp only [o_nI, m1n, z_nI]
        rw [e0, if_pos (by rw [lt_i (by omega) (by omega)]; omega), if_pos (by rw [lt_i (by omega) (by omega)]; omega), c_isIn (by omega), bnd_some, q_bit_nI (by omega) (by omega)]
        cases hb : s.testBit i with
        | true =>
          rw [if_neg (by decide +kernel), Wq_jmp, i1_nI, nI_add]
          exact hn (by rw [hcn, hb]; rfl)
        | false =>
          rw [hb] at hcn
          rw [if_pos (by rfl), c_ahead (by omega) (by omega) hc hy, bnd_some, q_ah_of hiN hc hy]
          by_cases hq : nI (q_ah W i) &&& (nI s ^^^ -1) = nI 0
          · rw [if_pos hq, Wq_ret]
            refine ⟨?_, rfl⟩
            unfold q_fd
            rw [q_find_at hno (by rw [hcn]; exact decide_eq_true hq) hiN]
            rfl
          · rw [if_neg hq, Wq_jmp, i1_nI, nI_add]
            exact hn (by rw [hcn]; exact decide_eq_false hq)
    refine Lq.of (t_297_p17_0_ok X (callw X D') n tot kn kx _ M) ?_
    unfold t_297_p17_0
    simp only [o_nI]
    rw [Wq_jmp]
    exact loop (q_n W 98) 0 (by omega) (fun j hj => absurd hj (Nat.not_lt_zero j))))
/-- the first order -/
def q_rk (W : Nat → Int32) (s : Nat) : Nat := match q_fd W s with | none => 0 | some i => i
def q_sk (W : Nat → Int32) : Nat → Nat
  | 0 => 0
  | k + 1 => q_sk W k ||| 2 ^ q_rk W (q_sk W k)
theorem q_sk_ok {W : Nat → Int32} (hN : q_n W 98 ≤ 8) (hy : q_invY W) (h : q_ow W (q_n W 98) 0 ≠ 0) : ∀ k, k ≤ q_n W 98 → q_sk W k < 2 ^ q_n W 98 ∧ q_bc (q_sk W k) = k ∧ (k < q_n W 98 → q_fd W (q_sk W k) = some (q_rk W (q_sk W k)) ∧ q_rk W (q_sk W k) < q_n W 98 ∧ q_cn W (q_rk W (q_sk W k)) (q_sk W k) = true) := by
  have p8 : 2 ^ q_n W 98 ≤ 2 ^ 8 := Nat.pow_le_pow_right (by decide) hN
  have mk : ∀ k s, s < 2 ^ q_n W 98 → q_bc s = k → k < q_n W 98 → q_fd W s = some (q_rk W s) ∧ q_rk W s < q_n W 98 ∧ q_cn W (q_rk W s) s = true := by
    intro k s hs hb hk
    obtain ⟨b1, b2, b3⟩ := q_bc_N _ (by omega) s hs
    obtain ⟨i, hi, hc⟩ := q_ow_go hN hy _ 0 s h (Nat.two_pow_pos _) hs (fun j hj => by rw [Nat.zero_testBit] at hj; cases hj) (fun e => by rw [e, b3] at hb; omega)
    cases hf : q_fd W s with
    | none => have := q_find_none.mp hf i hi; rw [hc] at this; cases this
    | some r =>
      obtain ⟨r1, r2, _⟩ := q_find_some hf
      have e : q_rk W s = r := by unfold q_rk; rw [hf]
      rw [e]; exact ⟨rfl, r1, r2⟩
  intro k
  induction k with
  | zero => intro _; exact ⟨Nat.two_pow_pos _, (show q_bc 0 = 0 by decide +kernel), mk 0 0 (Nat.two_pow_pos _) (by decide +kernel)⟩
  | succ k ih =>
    intro hk
    obtain ⟨h1, h2, h3⟩ := ih (by omega)
    obtain ⟨g1, g2, g3⟩ := h3 (by omega)
    have g4 := g3
    unfold q_cn at g4
    rw [Bool.and_eq_true, Bool.and_eq_true, Bool.not_eq_true'] at g4
    obtain ⟨_, _, _, k4, _⟩ := q_rm_no _ (by omega) _ (by omega) g4.2.1
    have l1 : q_sk W (k + 1) < 2 ^ q_n W 98 := Nat.or_lt_two_pow h1 (Nat.pow_lt_pow_right (by decide) g2)
    have l2 : q_bc (q_sk W (k + 1)) = k + 1 := by
      show q_bc (q_sk W k ||| 2 ^ q_rk W (q_sk W k)) = k + 1
      rw [k4, h2]
    exact ⟨l1, l2, mk (k + 1) _ l1 l2⟩
theorem c_first (hD : 3 ≤ D) {W : Nat → Int32} {j : Nat} (hj : j < q_n W 98) (hc : CRhull M 17 W) (hy : q_invY W) (h : q_ow W (q_n W 98) 0 ≠ 0) : callw X D 298 [.inr (.inl 17), .inl (nI j)] (Gk n tot kn kx) M = some (nI (q_rk W (q_sk W j)), Gk n tot kn kx, M) :=
  Sq.eq (Sq.mk (k := 2) hD (fun D' hD' => by
    have w2 := hy.1.2.2.1.2
    have p8 : 2 ^ q_n W 98 ≤ 2 ^ 8 := Nat.pow_le_pow_right (by decide) (by omega)
    have loop : ∀ (c k : Nat) (r : Int32), k + c = j + 1 → (k = j + 1 → r = nI (q_rk W (q_sk W j))) → Lq X (callw X D') 298 7 [some (.inr (.inl 17)), some (.inl (nI j)), some (.inl (nI (q_sk W k))), some (.inl r), some (.inl (nI k))] (Gk n tot kn kx) M (fun x M' => x = nI (q_rk W (q_sk W j)) ∧ M' = M) := by
      intro c
      induction c with
      | zero =>
        intro k r hk hr
        refine Lq.of (t_298_p17_7_ok X (callw X D') n tot kn kx _ _ _ _ M) ?_
        unfold t_298_p17_7
        rw [if_pos (by rw [lt_i (by omega) (by omega)]; omega), Wq_ret]
        exact ⟨hr (by omega), rfl⟩
      | succ c ih =>
        intro k r hk hr
        refine Lq.of (t_298_p17_7_ok X (callw X D') n tot kn kx _ _ _ _ M) ?_
        unfold t_298_p17_7
        obtain ⟨h1, h2, h3⟩ := q_sk_ok (by omega) hy h k (by omega)
        obtain ⟨g1, g2, g3⟩ := h3 (by omega)
        have e : q_oI (some (q_rk W (q_sk W k))) = nI (q_rk W (q_sk W k)) := rfl
        simp only [o_nI]
        rw [if_neg (by rw [lt_i (by omega) (by omega)]; omega), if_pos (by rw [lt_i (by omega) (by omega)]; omega), c_leastAfter (by omega) (by omega) hc hy, bnd_some, g1, e, if_neg (by rw [m1n, nI_nm1 (by omega)]; exact id), nI_shl (by omega), Nat.one_mul, nI_or, Wq_jmp, i1_nI, nI_add]
        exact ih (k + 1) _ (by omega) (fun hh => by rw [show k = j by omega])
    refine Lq.of (t_298_p17_0_ok X (callw X D') n tot kn kx _ M) ?_
    unfold t_298_p17_0
    simp only [o_nI]
    rw [Wq_jmp]
    exact loop (j + 1) 0 _ (by omega) (fun hh => by omega)))

/-! the reference's orders -/
theorem m_canCome (hD : 1 ≤ D) {W : Nat → Int32} {i s : Nat} (h98 : q_n W 98 ≤ 8) (hi : i < q_n W 98) (hs : s < 2 ^ 31) (hA : M 195 i = nI (q_ah W i)) : callw X D 300 [.inr (.inl 178), .inl (nI i), .inl (nI s)] (Gk n tot kn kx) M = some (b2i (q_cn W i s), Gk n tot kn kx, M) :=
  ex1 hD (fun cl => t_300_0_ok X cl n tot kn kx _ _ M) (fun cl => by
    unfold t_300_0
    simp only [o_nI, m1n, z_nI]
    have hcn : q_cn W i s = (!s.testBit i && q_sub (q_ah W i) s) := by unfold q_cn; rw [decide_eq_true hi, Bool.true_and]
    rw [hcn, nI_tb hs (by omega), inb_nI (show i < 8 by omega) (by decide), if_pos rfl, nI_clamp (by omega), hA]
    cases s.testBit i with
    | true => rw [if_neg (by decide +kernel)]; rfl
    | false =>
      rw [if_pos (by rfl)]
      by_cases hq : nI (q_ah W i) &&& (nI s ^^^ -1) = nI 0
      · rw [if_pos hq, show q_sub (q_ah W i) s = true from decide_eq_true hq]; rfl
      · rw [if_neg hq, show q_sub (q_ah W i) s = false from decide_eq_false hq]; rfl)
theorem q_sum_hi {f : Nat → Nat} {T : Nat} (h : ∀ i, T ≤ i → f i = 0) : ∀ c, q_sum f (T + c) = q_sum f T
  | 0 => rfl
  | c + 1 => by
    show q_sum f (T + c) + f (T + c) = q_sum f T
    rw [h _ (by omega), q_sum_hi h c]; rfl
theorem q_ow_s {W : Nat → Int32} {s : Nat} (h98 : q_n W 98 ≤ 8) (hs : s < 2 ^ q_n W 98) : (if s = 2 ^ q_n W 98 - 1 then 1 else 0) + q_sum (fun i => if q_cn W i s = true then q_ow W (q_n W 98 - q_bc (s ||| 2 ^ i)) (s ||| 2 ^ i) else 0) (q_n W 98) = q_ow W (q_n W 98 - q_bc s) s := by
  have p8 : 2 ^ q_n W 98 ≤ 2 ^ 8 := Nat.pow_le_pow_right (by decide) h98
  obtain ⟨b1, b2, b3⟩ := q_bc_N _ (by omega) s hs
  have hcb : ∀ i, q_cn W i s = true → i < q_n W 98 ∧ q_bc (s ||| 2 ^ i) = q_bc s + 1 := fun i hc => by
    unfold q_cn at hc
    rw [Bool.and_eq_true, Bool.and_eq_true, Bool.not_eq_true', decide_eq_true_eq] at hc
    exact ⟨hc.1, (q_rm_no s (by omega) i (by omega) hc.2.1).2.2.2.1⟩
  by_cases e : s = 2 ^ q_n W 98 - 1
  · have hb : q_bc s = q_n W 98 := by rw [e]; exact b3
    rw [if_pos e, q_sum_z (fun i hi => if_neg (fun hc => by
      obtain ⟨h1, h2⟩ := hcb i hc
      have h3 := (q_bc_N _ (by omega) (s ||| 2 ^ i) (Nat.or_lt_two_pow hs (Nat.pow_lt_pow_right (by decide) h1))).1
      omega)), hb, Nat.sub_self, q_ow, if_pos e]
  · obtain ⟨k, hk⟩ : ∃ k, q_n W 98 - q_bc s = k + 1 := ⟨q_n W 98 - q_bc s - 1, by have : q_bc s ≠ q_n W 98 := fun h => e (b2 h); omega⟩
    rw [if_neg e, Nat.zero_add, hk, q_ow]
    unfold q_fs
    have h1 := q_sum_hi (f := fun i => if q_cn W i s = true then q_ow W k (s ||| 2 ^ i) else 0) (T := q_n W 98) (fun i hi => if_neg (fun hc => by have := (hcb i hc).1; omega)) (8 - q_n W 98)
    rw [show q_n W 98 + (8 - q_n W 98) = 8 by omega] at h1
    rw [h1]
    refine q_sum_cong (fun i hi => ?_)
    by_cases hc : q_cn W i s = true
    · rw [if_pos hc, if_pos hc, (hcb i hc).2, show q_n W 98 - (q_bc s + 1) = k by omega]
    · rw [if_neg hc, if_neg hc]
/-- the reference's table -/
def OwR (W : Nat → Int32) (M : MMw) (s : Nat) : Prop := ∀ u, s ≤ u → u < 2 ^ q_n W 98 → M 196 u = nI (q_ow W (q_n W 98 - q_bc u) u)
theorem m_lays301 (hD : 2 ≤ D) {W : Nat → Int32} (hW : M 179 = W) (hy : q_invY W) : Sq X D 301 [.inr (.inl 178)] (Gk n tot kn kx) M (fun _ M' => (OwR W M' 0 ∧ ∀ i, i < q_n W 98 → M' 195 i = nI (q_ah W i)) ∧ Fr [195, 196] M M') :=
  Sq.mk (k := 1) hD (fun D' hD' => by
    obtain ⟨w1, w2⟩ := hy.1.2.2.1
    obtain ⟨w3, w4⟩ := hy.1.2.2.2.2
    have p8 : 2 ^ q_n W 98 ≤ 2 ^ 8 := Nat.pow_le_pow_right (by decide) (by omega)
    have pos : 0 < 2 ^ q_n W 98 := Nat.two_pow_pos _
    have hw : ∀ M1 : MMw, Fr [195, 196] M M1 → M1 179 = W := fun M1 hf => by rw [hf 179 (by decide)]; exact hW
    have inner : ∀ (s b : Nat), s < 2 ^ q_n W 98 → ∀ Q : Int32 → MMw → Prop, (∀ M1 : MMw, Fr [195, 196] M M1 → OwR W M1 (s + 1) → (∀ i, i < q_n W 98 → M1 195 i = nI (q_ah W i)) → M1 196 s = nI (b + q_sum (fun i => if q_cn W i s = true then q_ow W (q_n W 98 - q_bc (s ||| 2 ^ i)) (s ||| 2 ^ i) else 0) (q_n W 98)) → Lq X (callw X D') 301 166 [some (.inr (.inl 178)), some (.inl (nI s + -1)), none] (Gk n tot kn kx) M1 Q) →
        ∀ (c i : Nat) (M1 : MMw), i + c = q_n W 98 → Fr [195, 196] M M1 → OwR W M1 (s + 1) → (∀ i, i < q_n W 98 → M1 195 i = nI (q_ah W i)) → M1 196 s = nI (b + q_sum (fun i => if q_cn W i s = true then q_ow W (q_n W 98 - q_bc (s ||| 2 ^ i)) (s ||| 2 ^ i) else 0) i) → Lq X (callw X D') 301 114 [some (.inr (.inl 178)), some (.inl (nI s)), some (.inl (nI i))] (Gk n tot kn kx) M1 Q := by
      intro s b hs Q hend c
      induction c with
      | zero =>
        intro i M1 hi hf hO hA hv
        refine Lq.of (t_301_114_ok X (callw X D') n tot kn kx _ _ M1) ?_
        unfold t_301_114
        rw [hw M1 hf, w1, if_neg (by rw [lt_i (by omega) (by omega)]; omega), Wq_jmp]
        rw [show i = q_n W 98 by omega] at hv
        exact hend M1 hf hO hA hv
      | succ c ih =>
        intro i M1 hi hf hO hA hv
        refine Lq.of (t_301_114_ok X (callw X D') n tot kn kx _ _ M1) ?_
        unfold t_301_114
        have hiN : i < q_n W 98 := by omega
        have es : ∀ a, q_cn W i s = true → a = q_ow W (q_n W 98 - q_bc (s ||| 2 ^ i)) (s ||| 2 ^ i) → b + q_sum (fun i => if q_cn W i s = true then q_ow W (q_n W 98 - q_bc (s ||| 2 ^ i)) (s ||| 2 ^ i) else 0) i + a = b + q_sum (fun i => if q_cn W i s = true then q_ow W (q_n W 98 - q_bc (s ||| 2 ^ i)) (s ||| 2 ^ i) else 0) (i + 1) := fun a hc ha => by
          show _ = b + (q_sum (fun i => if q_cn W i s = true then q_ow W (q_n W 98 - q_bc (s ||| 2 ^ i)) (s ||| 2 ^ i) else 0) i + (if q_cn W i s = true then q_ow W (q_n W 98 - q_bc (s ||| 2 ^ i)) (s ||| 2 ^ i) else 0))
          rw [if_pos hc, ha, Nat.add_assoc]
        have es0 : q_cn W i s = false → b + q_sum (fun i => if q_cn W i s = true then q_ow W (q_n W 98 - q_bc (s ||| 2 ^ i)) (s ||| 2 ^ i) else 0) i + 0 = b + q_sum (fun i => if q_cn W i s = true then q_ow W (q_n W 98 - q_bc (s ||| 2 ^ i)) (s ||| 2 ^ i) else 0) (i + 1) := fun hc => by
          show _ = b + (q_sum (fun i => if q_cn W i s = true then q_ow W (q_n W 98 - q_bc (s ||| 2 ^ i)) (s ||| 2 ^ i) else 0) i + (if q_cn W i s = true then q_ow W (q_n W 98 - q_bc (s ||| 2 ^ i)) (s ||| 2 ^ i) else 0))
          rw [if_neg (by rw [hc]; decide)]; rfl
        have hnext : ∀ v : Nat, v = b + q_sum (fun i => if q_cn W i s = true then q_ow W (q_n W 98 - q_bc (s ||| 2 ^ i)) (s ||| 2 ^ i) else 0) (i + 1) → Lq X (callw X D') 301 114 [some (.inr (.inl 178)), some (.inl (nI s)), some (.inl (nI (i + 1)))] (Gk n tot kn kx) (up M1 196 s (nI v)) Q := fun v hv2 => by
          refine ih (i + 1) _ (by omega) (hf.up (by decide)) (fun u hu hu2 => ?_) (fun j hj => by rw [up_ne (by decide)]; exact hA j hj) ?_
          · rw [up_at, upW_n (by omega)]; exact hO u hu hu2
          · rw [up_at, upW_s, hv2]
        simp only [o_nI, z_nI]
        rw [hw M1 hf, w1, if_pos (by rw [lt_i (by omega) (by omega)]; omega), inb_nI (show s < 256 by omega) (by decide), if_pos rfl, m_canCome (by omega) (by omega) hiN (by omega) (hA i hiN), bnd_some, nI_shl (by omega), Nat.one_mul, nI_or, nI_clamp (by omega), hv]
        have hor : s ||| 2 ^ i < 2 ^ q_n W 98 := Nat.or_lt_two_pow hs (Nat.pow_lt_pow_right (by decide) hiN)
        cases hc : q_cn W i s with
        | false =>
          rw [if_pos (by rfl), if_pos rfl, nI_add, Wq_jmp, i1_nI, nI_add]
          exact hnext _ (es0 hc)
        | true =>
          have hc2 := hc
          unfold q_cn at hc2
          rw [Bool.and_eq_true, Bool.and_eq_true, Bool.not_eq_true'] at hc2
          have hlt := (q_rm_no s (by omega) i (by omega) hc2.2.1).2.2.2.2
          rw [if_neg (by decide +kernel), inb_nI (show s ||| 2 ^ i < 256 by omega) (by decide), if_pos rfl, if_pos rfl, nI_clamp (by omega), hO (s ||| 2 ^ i) (by omega) hor, nI_add, Wq_jmp, i1_nI, nI_add]
          exact hnext _ (es _ hc rfl)
    have sets : ∀ (c : Nat) (M1 : MMw), c ≤ 2 ^ q_n W 98 → Fr [195, 196] M M1 → OwR W M1 c → (∀ i, i < q_n W 98 → M1 195 i = nI (q_ah W i)) → Lq X (callw X D') 301 89 [some (.inr (.inl 178)), some (.inl (nI c + -1)), none] (Gk n tot kn kx) M1 (fun _ M' => (OwR W M' 0 ∧ ∀ i, i < q_n W 98 → M' 195 i = nI (q_ah W i)) ∧ Fr [195, 196] M M') := by
      intro c
      induction c with
      | zero =>
        intro M1 hc hf hO hA
        refine Lq.of (t_301_89_ok X (callw X D') n tot kn kx _ M1) ?_
        unfold t_301_89
        rw [if_pos (by decide +kernel), Wq_ret]
        exact ⟨⟨hO, hA⟩, hf⟩
      | succ s ih =>
        intro M1 hc hf hO hA
        rw [nI_dec]
        refine Lq.of (t_301_89_ok X (callw X D') n tot kn kx _ M1) ?_
        unfold t_301_89
        have es := q_ow_s (W := W) (s := s) (by omega) (by omega)
        have after : ∀ b, b = (if s = 2 ^ q_n W 98 - 1 then 1 else 0) → Lq X (callw X D') 301 114 [some (.inr (.inl 178)), some (.inl (nI s)), some (.inl (nI 0))] (Gk n tot kn kx) (up M1 196 s (nI b)) (fun _ M' => (OwR W M' 0 ∧ ∀ i, i < q_n W 98 → M' 195 i = nI (q_ah W i)) ∧ Fr [195, 196] M M') := by
          intro b hb
          refine inner s b (by omega) _ ?_ (q_n W 98) 0 _ (by omega) (hf.up (by decide)) (fun u hu hu2 => by rw [up_at, upW_n (by omega)]; exact hO u hu hu2) (fun j hj => by rw [up_ne (by decide)]; exact hA j hj) (by rw [up_at, upW_s]; rfl)
          intro M2 hf2 hO2 hA2 hv2
          refine Lq.of (t_301_166_ok X (callw X D') n tot kn kx _ M2) ?_
          unfold t_301_166
          rw [Wq_jmp]
          refine ih M2 (by omega) hf2 (fun u hu hu2 => ?_) hA2
          rcases Nat.lt_or_ge s u with hl | hl
          · exact hO2 u hl hu2
          · rw [show u = s by omega, hv2, hb, es]
        simp only [o_nI, z_nI]
        rw [if_neg (by rw [lt_i (by omega) (by omega)]; omega), m_allWorks (by omega) (show M1 179 98 = nI (q_n W 98) by rw [hw M1 hf]; exact w1) (by omega), bnd_some, inb_nI (show s < 256 by omega) (by decide), if_pos rfl, if_pos rfl, nI_clamp (by omega)]
        by_cases e : s = 2 ^ q_n W 98 - 1
        · rw [if_pos (by rw [eq_i (by omega) (by omega)]; exact e), Wq_jmp]
          exact after 1 (by rw [if_pos e])
        · rw [if_neg (by rw [eq_i (by omega) (by omega)]; exact e), Wq_jmp]
          exact after 0 (by rw [if_neg e])
    have joins : ∀ (c j : Nat) (M1 : MMw), j + c = q_n W 104 → Fr [195, 196] M M1 → (∀ i, i < q_n W 98 → M1 195 i = nI (q_ahN W i (q_n W (144 + 3 * i)) j)) → Lq X (callw X D') 301 33 [some (.inr (.inl 178)), some (.inl (nI j)), none] (Gk n tot kn kx) M1 (fun _ M' => (OwR W M' 0 ∧ ∀ i, i < q_n W 98 → M' 195 i = nI (q_ah W i)) ∧ Fr [195, 196] M M') := by
      intro c
      induction c with
      | zero =>
        intro j M1 hj hf hA
        refine Lq.of (t_301_33_ok X (callw X D') n tot kn kx _ M1) ?_
        unfold t_301_33
        rw [hw M1 hf, w3, if_neg (by rw [lt_i (by omega) (by omega)]; omega), m_allWorks (by omega) (show M1 179 98 = nI (q_n W 98) by rw [hw M1 hf]; exact w1) (by omega), bnd_some, Wq_jmp]
        have h0 := sets (2 ^ q_n W 98) M1 (Nat.le_refl _) hf (fun u hu hu2 => by omega) (fun i hi => by rw [hA i hi, show j = q_n W 104 by omega]; rfl)
        rw [show nI (2 ^ q_n W 98) + -1 = nI (2 ^ q_n W 98 - 1) by
          obtain ⟨k, hk⟩ : ∃ k, 2 ^ q_n W 98 = k + 1 := ⟨2 ^ q_n W 98 - 1, by omega⟩
          rw [hk, nI_dec, Nat.add_sub_cancel]] at h0
        exact h0
      | succ c ih =>
        intro j M1 hj hf hA
        refine Lq.of (t_301_33_ok X (callw X D') n tot kn kx _ M1) ?_
        unfold t_301_33
        obtain ⟨⟨j1, j2⟩, ⟨j3, j4⟩, _⟩ := hy.2.2.2.2.2.2.1 j (by omega)
        simp only [o_nI]
        rw [hw M1 hf, w3, if_pos (by rw [lt_i (by omega) (by omega)]; omega), nI_mul, nI_add, nI_add, inb_nI (show 105 + 2 * j + 1 < 2834 by omega) (by decide), inb_nI (show 105 + 2 * j < 2834 by omega) (by decide), if_pos rfl, nI_clamp (by omega), nI_clamp (by omega), show 105 + 2 * j + 1 = 106 + 2 * j by omega, j1, j3, inb_nI (show q_n W (106 + 2 * j) < 8 by omega) (by decide), if_pos rfl, if_pos rfl, if_pos rfl, nI_clamp (by omega), nI_shl (by omega), Nat.one_mul, hA _ j4, nI_or, Wq_jmp, i1_nI, nI_add]
        refine ih (j + 1) _ (by omega) (hf.up (by decide)) (fun i hi => ?_)
        rw [up_at, q_ahN]
        by_cases e : i = q_n W (106 + 2 * j)
        · rw [if_pos e.symm, e, upW_s]
        · rw [if_neg (fun h => e h.symm), upW_n e]; exact hA i hi
    have works : ∀ (c i : Nat) (M1 : MMw), i + c = q_n W 98 → Fr [195, 196] M M1 → (∀ k, k < i → M1 195 k = nI (q_n W (144 + 3 * k))) → Lq X (callw X D') 301 2 [some (.inr (.inl 178)), some (.inl (nI i)), none] (Gk n tot kn kx) M1 (fun _ M' => (OwR W M' 0 ∧ ∀ i, i < q_n W 98 → M' 195 i = nI (q_ah W i)) ∧ Fr [195, 196] M M') := by
      intro c
      induction c with
      | zero =>
        intro i M1 hi hf hA
        refine Lq.of (t_301_2_ok X (callw X D') n tot kn kx _ M1) ?_
        unfold t_301_2
        simp only [o_nI]
        rw [hw M1 hf, w1, if_neg (by rw [lt_i (by omega) (by omega)]; omega), Wq_jmp]
        exact joins (q_n W 104) 0 M1 (by omega) hf (fun k hk => hA k (by omega))
      | succ c ih =>
        intro i M1 hi hf hA
        refine Lq.of (t_301_2_ok X (callw X D') n tot kn kx _ M1) ?_
        unfold t_301_2
        have k1 := (hy.2.2.2.2.2.1 i (by omega)).2.2.2.1
        simp only [o_nI]
        rw [hw M1 hf, w1, if_pos (by rw [lt_i (by omega) (by omega)]; omega), m_ofWork (by omega) (by omega), bnd_some, hw M1 hf, show 142 + 3 * i + 2 = 144 + 3 * i by omega, k1, inb_nI (show i < 8 by omega) (by decide), if_pos rfl, nI_clamp (by omega), Wq_jmp, i1_nI, nI_add]
        refine ih (i + 1) _ (by omega) (hf.up (by decide)) (fun k hk => ?_)
        rw [up_at]
        by_cases e : k = i
        · subst e; rw [upW_s]
        · rw [upW_n e]; exact hA k (by omega)
    refine Lq.of (t_301_0_ok X (callw X D') n tot kn kx M) ?_
    unfold t_301_0
    simp only [o_nI]
    rw [Wq_jmp]
    exact works (q_n W 98) 0 M (by omega) Fr.rf (fun k hk => absurd hk (Nat.not_lt_zero k)))

theorem m_next (hD : 2 ≤ D) {W : Nat → Int32} {s r : Nat} (h98 : q_n W 98 ≤ 8) (hs : s < 2 ^ q_n W 98) (hO : OwR W M 0) (hA : ∀ i, i < q_n W 98 → M 195 i = nI (q_ah W i)) (hne : ∀ k s, s < 2 ^ q_n W 98 → q_bc s + k = q_n W 98 → q_ow W k s ≠ 0) (hf : q_fd W s = some r) : callw X D 302 [.inr (.inl 178), .inl (nI s)] (Gk n tot kn kx) M = some (nI r, Gk n tot kn kx, M) :=
  Sq.eq (Sq.mk (k := 1) hD (fun D' hD' => by
    have p8 : 2 ^ q_n W 98 ≤ 2 ^ 8 := Nat.pow_le_pow_right (by decide) h98
    obtain ⟨r1, r2, r3⟩ := q_find_some hf
    have loop : ∀ (c i : Nat), i + c = r → Lq X (callw X D') 302 2 [some (.inr (.inl 178)), some (.inl (nI s)), some (.inl (nI i))] (Gk n tot kn kx) M (fun x M' => x = nI r ∧ M' = M) := by
      intro c
      induction c with
      | zero =>
        intro i hi
        refine Lq.of (t_302_2_ok X (callw X D') n tot kn kx _ _ M) ?_
        unfold t_302_2
        have e : i = r := by omega
        subst e
        have hc2 := r2
        unfold q_cn at hc2
        rw [Bool.and_eq_true, Bool.and_eq_true, Bool.not_eq_true'] at hc2
        have hor : s ||| 2 ^ i < 2 ^ q_n W 98 := Nat.or_lt_two_pow hs (Nat.pow_lt_pow_right (by decide) r1)
        have b1 := (q_bc_N _ (by omega) (s ||| 2 ^ i) hor).1
        have h0 := hne (q_n W 98 - q_bc (s ||| 2 ^ i)) (s ||| 2 ^ i) hor (by omega)
        have h8 := q_ow_le (W := W) (q_n W 98 - q_bc (s ||| 2 ^ i)) (s ||| 2 ^ i)
        have h88 : 8 ^ (q_n W 98 - q_bc (s ||| 2 ^ i)) ≤ 8 ^ 8 := Nat.pow_le_pow_right (by decide) (by omega)
        have h888 : 8 ^ 8 < 2 ^ 31 := by decide
        simp only [o_nI, z_nI]
        rw [m_canCome (by omega) (by omega) r1 (by omega) (hA i r1), bnd_some, r2, if_neg (by decide +kernel), nI_shl (by omega), Nat.one_mul, nI_or, inb_nI (show s ||| 2 ^ i < 256 by omega) (by decide), if_pos rfl, nI_clamp (by omega), hO _ (Nat.zero_le _) hor, if_neg (by rw [eq_i (by omega) (by omega)]; exact h0), Wq_ret]
        exact ⟨rfl, rfl⟩
      | succ c ih =>
        intro i hi
        refine Lq.of (t_302_2_ok X (callw X D') n tot kn kx _ _ M) ?_
        unfold t_302_2
        have hiN : i < q_n W 98 := by omega
        simp only [o_nI, z_nI]
        rw [m_canCome (by omega) (by omega) hiN (by omega) (hA i hiN), bnd_some, r3 i (by omega), if_pos (by rfl), Wq_jmp, i1_nI, nI_add]
        exact ih (i + 1) (by omega)
    refine Lq.of (t_302_0_ok X (callw X D') n tot kn kx _ M) ?_
    unfold t_302_0
    simp only [o_nI]
    rw [Wq_jmp]
    exact loop r 0 (by omega)))
theorem P_orders (hD : 5 ≤ D) {v : Int32} {len s : Nat} (h : Rl kn len s M) : Pr X D 299 303 [.inr (.inl 0), .inl v] [.inr (.inl 178), .inl v] (Gk n tot kn kx) M (Rl kn len s) := by
  have hX := h.1.1
  obtain ⟨W, hW⟩ : ∃ W, M 179 = W := ⟨_, rfl⟩
  rw [hW] at hX
  have hy := hX.2.2.1
  have hc := hX.1.2.1
  obtain ⟨w1, w2⟩ := hy.1.2.2.1
  have p8 : 2 ^ q_n W 98 ≤ 2 ^ 8 := Nat.pow_le_pow_right (by decide) (by omega)
  have e17 : M 17 0 = nI (q_n W 98) := by rw [hc.1]; exact w1
  have hcf : ∀ M1 : MMw, Fr [23, 24] M M1 → CRhull M1 17 W := fun M1 hf => hc.ch (fun d h1 h2 => hf d (by simp; omega)) sameY.rf (by omega) (by have := hy.1.2.2.2.2.2; omega)
  have hbo := q_both (W := W) (by omega)
  have hle : q_ow W (q_n W 98) 0 < 2 ^ 31 := by
    have h8 := q_ow_le (W := W) (q_n W 98) 0
    have h88 : 8 ^ q_n W 98 ≤ 8 ^ 8 := Nat.pow_le_pow_right (by decide) (by omega)
    have h888 : 8 ^ 8 < 2 ^ 31 := by decide
    omega
  by_cases ok : v = nI 0 ∨ q_in v 10 (9 + q_n W 98) = true
  · obtain ⟨A, hA0, hA1, hA2⟩ : ∃ A : Int32, (v = nI 0 → A = nI (q_ow W (q_n W 98) 0)) ∧ (v ≠ nI 0 → q_ow W (q_n W 98) 0 = 0 → A = nI 4294967295) ∧ (∀ j, v = nI (10 + j) → j < q_n W 98 → q_ow W (q_n W 98) 0 ≠ 0 → A = nI (q_rk W (q_sk W j))) := by
      by_cases v0 : v = nI 0
      · exact ⟨nI (q_ow W (q_n W 98) 0), fun _ => rfl, fun hh => absurd v0 hh, fun j hj hjN _ => by rw [v0, eq_i (by omega) (by omega)] at hj; omega⟩
      · by_cases t0 : q_ow W (q_n W 98) 0 = 0
        · exact ⟨nI 4294967295, fun hh => absurd hh v0, fun _ _ => rfl, fun j hj hjN hh => absurd t0 hh⟩
        · refine ⟨nI (q_rk W (q_sk W (v.toNatClampNeg - 10))), fun hh => absurd hh v0, fun _ hh => absurd hh t0, fun j hj hjN _ => ?_⟩
          rw [hj, nI_clamp (by omega), show 10 + j - 10 = j by omega]
    refine Pr.mk (Q1 := fun x M1 => x = A ∧ Fr [23, 24] M M1) (Sq.mk (k := 4) hD (fun D' hD' => ?_)) ?_
    · refine Lq.of (t_299_0_ok X (callw X D') n tot kn kx _ M) ?_
      unfold t_299_0
      simp only [o_nI, z_nI]
      by_cases v0 : v = nI 0
      · rw [if_pos v0]
        refine Wq.call (c_count (by omega) hc hy) ?_
        rintro x M1 ⟨rfl, f1⟩
        rw [Wq_ret, hbo]
        exact ⟨(hA0 v0).symm, f1⟩
      · rw [if_neg v0]
        rcases ok with ok | ok
        · exact absurd ok v0
        obtain ⟨k, k1, k2, rfl⟩ := q_in_t (by omega) (by decide) ok
        obtain ⟨j, rfl⟩ : ∃ j, k = 10 + j := ⟨k - 10, by omega⟩
        rw [if_neg (by rw [lt_i (by omega) (by omega)]; omega), e17, nI_add, if_pos (by rw [lt_i (by omega) (by omega)]; omega)]
        refine Wq.call (c_count (by omega) hc hy) ?_
        rintro x M1 ⟨rfl, f1⟩
        rw [hbo]
        by_cases t0 : q_ow W (q_n W 98) 0 = 0
        · rw [if_pos (by rw [t0]), Wq_ret]
          exact ⟨(hA1 v0 t0).symm, f1⟩
        · rw [if_neg (by rw [eq_i (by omega) (by omega)]; exact t0), nI_sub (by omega), show 10 + j - 10 = j by omega, c_first (by omega) (show j < q_n W 98 by omega) (hcf M1 f1) hy t0, bnd_some, Wq_ret]
          exact ⟨(hA2 j rfl (by omega) t0).symm, f1⟩
    · rintro x M1 ⟨rfl, f1⟩
      have h1 := h.ask f1 (by decide)
      have e9 : M1 179 = W := by rw [f1 179 (by decide)]; exact hW
      refine Sq.mk (k := 4) hD (fun D' hD' => ?_)
      refine Lq.of (t_303_0_ok X (callw X D') n tot kn kx _ M1) ?_
      unfold t_303_0
      simp only [o_nI, z_nI]
      have b00 : q_bc 0 = 0 := by decide +kernel
      have e0 : ∀ M2 : MMw, OwR W M2 0 → M2 196 0 = nI (q_ow W (q_n W 98) 0) := fun M2 hO => by
        have := hO 0 (Nat.le_refl _) (Nat.two_pow_pos _)
        rw [b00, Nat.sub_zero] at this
        exact this
      by_cases v0 : v = nI 0
      · rw [if_pos v0]
        refine Wq.call (m_lays301 (by omega) e9 hy) ?_
        rintro z M2 ⟨⟨hO, hA⟩, f2⟩
        rw [if_pos v0, e0 M2 hO, Wq_ret]
        exact ⟨(hA0 v0).symm, h1.ask f2 (by decide)⟩
      · rw [if_neg v0, e9, w1, nI_add, m_in (by omega), bnd_some]
        rcases ok with ok | ok
        · exact absurd ok v0
        rw [ok, if_neg (by decide)]
        obtain ⟨k, k1, k2, rfl⟩ := q_in_t (by omega) (by decide) ok
        obtain ⟨j, rfl⟩ : ∃ j, k = 10 + j := ⟨k - 10, by omega⟩
        refine Wq.call (m_lays301 (by omega) e9 hy) ?_
        rintro z M2 ⟨⟨hO, hA⟩, f2⟩
        rw [if_neg v0, e0 M2 hO]
        by_cases t0 : q_ow W (q_n W 98) 0 = 0
        · rw [if_pos (by rw [t0]), Wq_ret]
          exact ⟨(hA1 v0 t0).symm, h1.ask f2 (by decide)⟩
        · rw [if_neg (by rw [eq_i (by omega) (by omega)]; exact t0), Wq_jmp]
          have hne := q_ow_all (W := W) (by omega) hy t0
          have hjN : j < q_n W 98 := by omega
          have loop : ∀ (c k : Nat) (r : Int32), k + c = j + 1 → (k = j + 1 → r = nI (q_rk W (q_sk W j))) → Lq X (callw X D') 303 59 [some (.inr (.inl 178)), some (.inl (nI (10 + j))), some (.inl (nI (q_sk W k))), some (.inl r), some (.inl (nI (10 + k)))] (Gk n tot kn kx) M2 (fun y M3 => y = x ∧ Rl kn len s M3) := by
            intro c
            induction c with
            | zero =>
              intro k r hk hr
              refine Lq.of (t_303_59_ok X (callw X D') n tot kn kx _ _ _ _ M2) ?_
              unfold t_303_59
              rw [if_pos (by rw [lt_i (by omega) (by omega)]; omega), Wq_ret]
              exact ⟨by rw [hr (by omega)]; exact (hA2 j rfl hjN t0).symm, h1.ask f2 (by decide)⟩
            | succ c ih =>
              intro k r hk hr
              refine Lq.of (t_303_59_ok X (callw X D') n tot kn kx _ _ _ _ M2) ?_
              unfold t_303_59
              obtain ⟨s1, s2, s3⟩ := q_sk_ok (by omega) hy t0 k (by omega)
              obtain ⟨g1, g2, g3⟩ := s3 (by omega)
              simp only [o_nI]
              rw [if_neg (by rw [lt_i (by omega) (by omega)]; omega), m_next (by omega) (by omega) s1 hO hA hne g1, bnd_some, nI_shl (by omega), Nat.one_mul, nI_or, Wq_jmp, i1_nI, nI_add]
              exact ih (k + 1) _ (by omega) (fun hh => by rw [show k = j by omega])
          exact loop (j + 1) 0 _ (by omega) (fun hh => by omega)
  · refine Pr.mk (Q1 := fun x M1 => x = nI 4294967295 ∧ M1 = M) (Sq.mk (k := 4) hD (fun D' hD' => ?_)) ?_
    · refine Lq.of (t_299_0_ok X (callw X D') n tot kn kx _ M) ?_
      unfold t_299_0
      simp only [o_nI, z_nI]
      rw [if_neg (fun e => ok (Or.inl e))]
      by_cases g1 : v < nI 10
      · rw [if_pos g1, Wq_ret]; exact ⟨rfl, rfl⟩
      · rw [if_neg g1, e17, nI_add]
        by_cases g2 : v < nI (10 + q_n W 98)
        · refine absurd ?_ ok
          refine Or.inr ?_
          have h0 : ¬ v < 0 := fun h => g1 (neg_lt h 10 (by decide))
          obtain ⟨e, hl⟩ := nI_self h0
          rw [e, lt_i hl (by omega)] at g1 g2
          rw [e]
          unfold q_in
          rw [decide_eq_false (by rw [lt_i hl (by decide)]; exact g1), decide_eq_false (by rw [lt_i (by omega) hl]; omega)]
          rfl
        · rw [if_neg g2, Wq_ret]; exact ⟨rfl, rfl⟩
    · rintro x M1 ⟨rfl, rfl⟩
      refine Sq.mk (k := 4) hD (fun D' hD' => ?_)
      refine Lq.of (t_303_0_ok X (callw X D') n tot kn kx _ M1) ?_
      unfold t_303_0
      simp only [o_nI, z_nI]
      rw [if_neg (fun e => ok (Or.inl e)), hW, w1, nI_add, m_in (by omega), bnd_some, eq_false_of_ne_true (fun e => ok (Or.inr e)), if_pos (by rfl), Wq_ret]
      exact ⟨rfl, h⟩
end
