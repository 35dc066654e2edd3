section
-- needs: work
/-! the fewest -/
def q_key (a : Nat) : Nat := q_bc a * 256 + a
def q_best (S : Nat → Prop) (r : Int32) : Prop := (r = nI 4294967295 ∧ ∀ a, ¬ S a) ∨ ∃ a, a < 256 ∧ r = nI a ∧ S a ∧ ∀ b, S b → q_key a ≤ q_key b
theorem q_key_lt {a b : Nat} (ha : a < 256) (hb : b < 256) : q_key a < q_key b ↔ q_bc a < q_bc b ∨ (q_bc a = q_bc b ∧ a < b) := by
  unfold q_key; omega
theorem q_best.same {S S' : Nat → Prop} {r : Int32} (hS : ∀ a, S' a ↔ S a) (h : q_best S r) : q_best S' r := by
  rcases h with ⟨h1, h2⟩ | ⟨a, h1, h2, h3, h4⟩
  · exact Or.inl ⟨h1, fun a ha => h2 a ((hS a).mp ha)⟩
  · exact Or.inr ⟨a, h1, h2, (hS a).mpr h3, fun b hb => h4 b ((hS b).mp hb)⟩
theorem q_best.first {S S' : Nat → Prop} {c : Nat} (hc : c < 256) (hS : ∀ a, S' a ↔ S a ∨ a = c) (h : ∀ a, ¬ S a) : q_best S' (nI c) :=
  Or.inr ⟨c, hc, rfl, (hS c).mpr (Or.inr rfl), fun b hb => by
    rcases (hS b).mp hb with h1 | h1
    · exact absurd h1 (h b)
    · rw [h1]; exact Nat.le_refl _⟩
theorem q_best.new {S S' : Nat → Prop} {a c : Nat} (hc : c < 256) (hS : ∀ a, S' a ↔ S a ∨ a = c) (h : ∀ b, S b → q_key a ≤ q_key b) (hl : q_key c < q_key a) : q_best S' (nI c) :=
  Or.inr ⟨c, hc, rfl, (hS c).mpr (Or.inr rfl), fun b hb => by
    rcases (hS b).mp hb with h1 | h1
    · have := h b h1; omega
    · rw [h1]; exact Nat.le_refl _⟩
theorem q_best.old {S S' : Nat → Prop} {a c : Nat} (hS : ∀ a, S' a ↔ S a ∨ a = c) (ha : a < 256) (h3 : S a) (h : ∀ b, S b → q_key a ≤ q_key b) (hl : ¬ q_key c < q_key a) : q_best S' (nI a) :=
  Or.inr ⟨a, ha, rfl, (hS a).mpr (Or.inl h3), fun b hb => by
    rcases (hS b).mp hb with h1 | h1
    · exact h b h1
    · rw [h1]; omega⟩
theorem q_best.uniq {S : Nat → Prop} {r r' : Int32} (h : q_best S r) (h' : q_best S r') : r = r' := by
  rcases h with ⟨h1, h2⟩ | ⟨a, h1, h2, h3, h4⟩
  · rcases h' with ⟨g1, g2⟩ | ⟨b, g1, g2, g3, g4⟩
    · rw [h1, g1]
    · exact absurd g3 (h2 b)
  · rcases h' with ⟨g1, g2⟩ | ⟨b, g1, g2, g3, g4⟩
    · exact absurd h3 (g2 a)
    · have k1 := h4 b g3
      have k2 := g4 a h3
      unfold q_key at k1 k2
      rw [h2, g2, show a = b by omega]
theorem q_best.lt {S : Nat → Prop} {r : Int32} (h : q_best S r) : r = nI 4294967295 ∨ ∃ a, a < 256 ∧ r = nI a := by
  rcases h with ⟨h1, h2⟩ | ⟨a, h1, h2, h3, h4⟩
  · exact Or.inl h1
  · exact Or.inr ⟨a, h1, h2⟩
/-! sums -/
theorem q_sum_ge {f : Nat → Nat} : ∀ {n i : Nat}, i < n → f i ≤ q_sum f n
  | 0, _, h => absurd h (Nat.not_lt_zero _)
  | n + 1, i, h => by
    show f i ≤ q_sum f n + f n
    rcases Nat.lt_or_ge i n with hl | hl
    · have := q_sum_ge (f := f) hl; omega
    · rw [show i = n by omega]; omega
theorem q_sum_le {f g : Nat → Nat} : ∀ {n : Nat}, (∀ i, i < n → f i ≤ g i) → q_sum f n ≤ q_sum g n
  | 0, _ => Nat.le_refl _
  | n + 1, h => by
    show q_sum f n + f n ≤ q_sum g n + g n
    have h1 := q_sum_le (f := f) (g := g) (n := n) (fun i hi => h i (by omega))
    have h2 := h n (Nat.lt_succ_self n)
    omega
theorem q_sum_z {f : Nat → Nat} {n : Nat} (h : ∀ t, t < n → f t = 0) : q_sum f n = 0 := by
  rw [q_sum_cong (g := fun _ => 0) h]; exact q_sum_0 n
theorem q_sum_one {f : Nat → Nat} {i : Nat} : ∀ {n : Nat}, (∀ t, t < n → t ≠ i → f t = 0) → q_sum f n ≤ f i
  | 0, _ => Nat.zero_le _
  | n + 1, h => by
    show q_sum f n + f n ≤ f i
    by_cases e : n = i
    · subst e
      rw [q_sum_z (fun t ht => h t (by omega) (by omega))]; omega
    · rw [h n (Nat.lt_succ_self n) e]
      exact q_sum_one (fun t ht hne => h t (by omega) hne)
theorem q_sum_part {f kd : Nat → Nat} {n : Nat} (h : ∀ t, t < n → kd t < 4) : q_sum f n = q_sum (fun k => q_sum (fun t => if kd t = k then f t else 0) n) 4 := by
  rw [← q_sum_swap]
  refine q_sum_cong (fun t ht => ?_)
  have := h t ht
  unfold q_sum q_sum q_sum q_sum q_sum
  rcases (show kd t = 0 ∨ kd t = 1 ∨ kd t = 2 ∨ kd t = 3 by omega) with e | e | e | e <;> simp [e]
theorem sto_sum {p : Nat → Bool} : ∀ T, sto p T = q_sum (fun t => if p t then 2 ^ t else 0) T
  | 0 => rfl
  | T + 1 => by
    show sto p T ||| (if p T then 2 ^ T else 0) = q_sum (fun t => if p t then 2 ^ t else 0) T + (if p T then 2 ^ T else 0)
    rw [← sto_sum T]
    cases p T with
    | false => exact Nat.or_zero _
    | true =>
      have h1 := Nat.two_pow_add_eq_or_of_lt (sto_lt p T) 1
      rw [Nat.mul_one] at h1
      show sto p T ||| 2 ^ T = sto p T + 2 ^ T
      rw [Nat.or_comm, ← h1, Nat.add_comm]
theorem cnt_sum1 {p : Nat → Bool} (T : Nat) : cnt p T = q_sum (fun t => if p t then 1 else 0) T := by
  rw [cnt_sum]
  refine q_sum_cong (fun t _ => ?_)
  cases p t <;> rfl
theorem sto_or1 {p : Nat → Bool} {T i : Nat} (hi : i < T) : sto p T ||| 2 ^ i = sto (fun t => p t || decide (t = i)) T := by
  apply Nat.eq_of_testBit_eq
  intro j
  rw [Nat.testBit_or, sto_tb, sto_tb, pow_tb]
  by_cases e : j = i
  · subst e; simp [hi]
  · simp [e]
theorem q_tF_es {W : Nat → Int32} {k : Nat} : q_th2 W &&& q_tk W (2 ^ k) = q_tF W k := by
  unfold q_th2 q_tk q_tF
  rw [sto_and]
  refine sto_cong (fun t _ => ?_)
  rw [pow_tb, Bool.and_comm]
theorem q_tF_lt {W : Nat → Int32} {k : Nat} (hT : q_n W 96 ≤ 8) : q_tF W k < 256 := sto_le (m := 8) hT
/-- the first of each kind that is needed -/
def q_pL (W : Nat → Int32) (kl k t : Nat) : Bool := q_any (fun j => kl.testBit j && decide (q_ft W j = some t)) k
theorem q_keep_w {W : Nat → Int32} {kl a : Nat} {w : Nat → Nat} (hw : ∀ i j, i ≤ j → w i ≤ w j) (hk : ∀ t, t < q_n W 96 → q_kd W t < 4) (ha : ∀ j, j < 4 → kl.testBit j = true → q_tF W j &&& a ≠ 0) :
    q_sum (fun t => if q_pL W kl 4 t then w t else 0) (q_n W 96) ≤ q_sum (fun t => if a.testBit t then w t else 0) (q_n W 96) := by
  rw [q_sum_part (f := fun t => if q_pL W kl 4 t then w t else 0) hk, q_sum_part (f := fun t => if a.testBit t then w t else 0) hk]
  refine q_sum_le (fun k hk4 => ?_)
  have key : ∀ t, q_pL W kl 4 t = true → q_kd W t = k → kl.testBit k = true ∧ q_ft W k = some t := by
    intro t h1 h2
    obtain ⟨j, hj, hh⟩ := q_any_iff.mp h1
    rw [Bool.and_eq_true, decide_eq_true_eq] at hh
    obtain ⟨hh1, hh2⟩ := hh
    obtain ⟨_, g, _⟩ := q_find_some hh2
    rw [Bool.and_eq_true, decide_eq_true_eq] at g
    rw [show k = j by rw [← h2, g.1]]
    exact ⟨hh1, hh2⟩
  by_cases hb : kl.testBit k = true
  · have hne := ha k hk4 hb
    obtain ⟨t2, h2⟩ := Nat.exists_testBit_of_ne_zero hne
    rw [Nat.testBit_and] at h2
    unfold q_tF at h2
    rw [sto_tb, Bool.and_eq_true, Bool.and_eq_true, decide_eq_true_eq] at h2
    obtain ⟨⟨g1, g2⟩, g3⟩ := h2
    cases hq : q_ft W k with
    | none => rw [q_find_none.mp hq t2 g1] at g2; cases g2
    | some i =>
      obtain ⟨_, _, i3⟩ := q_find_some hq
      have hi : i ≤ t2 := by
        rcases Nat.lt_or_ge t2 i with hl | hl
        · rw [i3 t2 hl] at g2; cases g2
        · exact hl
      have l1 := q_sum_one (f := fun t => if q_kd W t = k then (if q_pL W kl 4 t then w t else 0) else 0) (i := i) (n := q_n W 96) (fun t ht hne => by
        by_cases e : q_kd W t = k
        · rw [if_pos e]
          by_cases e2 : q_pL W kl 4 t = true
          · have := (key t e2 e).2
            rw [hq] at this
            exact absurd (Option.some.inj this).symm hne
          · rw [if_neg e2]
        · rw [if_neg e])
      have l2 : (if q_kd W i = k then (if q_pL W kl 4 i then w i else 0) else 0) ≤ w i := by
        split
        · split
          · exact Nat.le_refl _
          · exact Nat.zero_le _
        · exact Nat.zero_le _
      have l3 := q_sum_ge (f := fun t => if q_kd W t = k then (if a.testBit t then w t else 0) else 0) g1
      rw [Bool.and_eq_true, decide_eq_true_eq] at g2
      rw [if_pos g2.1, if_pos g3] at l3
      exact Nat.le_trans l1 (Nat.le_trans l2 (Nat.le_trans (hw i t2 hi) l3))
  · rw [q_sum_z (fun t ht => by
      by_cases e : q_kd W t = k
      · rw [if_pos e, if_neg (fun e2 => hb (key t e2 e).1)]
      · rw [if_neg e])]
    exact Nat.zero_le _
theorem q_keep_key {W : Nat → Int32} {kl a : Nat} (hT : q_n W 96 ≤ 8) (ha2 : a < 2 ^ q_n W 96) (hk : ∀ t, t < q_n W 96 → q_kd W t < 4) (ha : ∀ j, j < 4 → kl.testBit j = true → q_tF W j &&& a ≠ 0) : q_key (sto (q_pL W kl 4) (q_n W 96)) ≤ q_key a := by
  have h1 := q_keep_w (w := fun _ => 1) (fun _ _ _ => Nat.le_refl _) hk ha
  have h2 := q_keep_w (w := fun t => 2 ^ t) (fun _ _ h => Nat.pow_le_pow_right (by decide) h) hk ha
  rw [← cnt_sum1, ← cnt_sum1 (p := fun t => a.testBit t)] at h1
  rw [← sto_sum, ← sto_sum (p := fun t => a.testBit t), sto_self ha2] at h2
  unfold q_key
  rw [q_bc_sto hT]
  have h3 : q_bc a = cnt (fun t => a.testBit t) (q_n W 96) := by
    conv => lhs; rw [← sto_self ha2]
    rw [q_bc_sto hT]
  rw [h3]
  omega
variable {X : KXw} {n tot kn D : Nat} {kx : Nat → Nat × Nat} {M : MMw}
theorem c_isLess (hD : 2 ≤ D) {a b : Nat} (ha : a < 256) (hb : b < 256) : callw X D 257 [.inl (nI a), .inl (nI b)] (Gk n tot kn kx) M = some (b2i (decide (q_key a < q_key b)), Gk n tot kn kx, M) :=
  exk (k := 1) hD (fun D' hD' => t_257_0_ok X (callw X D') n tot kn kx _ _ M) (fun D' hD' => by
    have l1 : q_bc a < 2 ^ 31 := by have := cnt_le (p := fun i => a.testBit i) (n := 8); unfold q_bc; omega
    have l2 : q_bc b < 2 ^ 31 := by have := cnt_le (p := fun i => b.testBit i) (n := 8); unfold q_bc; omega
    unfold t_257_0
    simp only [o_nI]
    rw [c_bits hD' ha, bnd_some, c_bits hD' hb, bnd_some]
    simp (disch := omega) only [lt_i, eq_i]
    have e := q_key_lt ha hb
    by_cases h1 : q_bc a < q_bc b
    · rw [if_pos h1, decide_eq_true (e.mpr (Or.inl h1))]; rfl
    · rw [if_neg h1]
      by_cases h2 : q_bc a = q_bc b
      · rw [if_pos h2]
        by_cases h3 : a < b
        · rw [if_pos h3, decide_eq_true (e.mpr (Or.inr ⟨h2, h3⟩))]; rfl
        · rw [if_neg h3, decide_eq_false (fun h => by rcases e.mp h with h | h <;> omega)]; rfl
      · rw [if_neg h2, decide_eq_false (fun h => by rcases e.mp h with h | h <;> omega)]; rfl)
def q_sN (W : Nat → Int32) (kl k : Nat) (a : Nat) : Prop := ∃ j, j < k ∧ kl.testBit j = true ∧ a = q_tF W j
theorem c_stop (hD : 4 ≤ D) {W : Nat → Int32} {kl : Nat} (hkl : kl < 16) (h : CX M 10 W) : Sq X D 258 [.inr (.inl 0), .inl (nI kl), .inl (nI (q_th2 W))] (Gk n tot kn kx) M (fun x M' => q_best (q_sN W kl 4) x ∧ M' = M) :=
  Sq.mk (k := 3) hD (fun D' hD' => by
    refine Lq.of (t_258_0_ok X (callw X D') n tot kn kx _ _ M) ?_
    unfold t_258_0
    simp only [o_nI]
    rw [Wq_jmp]
    have w3 := h.2.2.1.1.1.2
    have loop : ∀ (c k : Nat) (r : Int32), k + c = 4 → q_best (q_sN W kl k) r → Lq X (callw X D') 258 5 [some (.inr (.inl 0)), some (.inl (nI kl)), some (.inl (nI (q_th2 W))), some (.inl r), some (.inl (nI k)), none] (Gk n tot kn kx) M (fun x M' => q_best (q_sN W kl 4) x ∧ M' = M) := by
      intro c
      induction c with
      | zero =>
        intro k r hk hb
        refine Lq.of (t_258_5_ok X (callw X D') n tot kn kx _ _ _ _ M) ?_
        unfold t_258_5
        simp only [o_nI]
        rw [if_neg (by rw [lt_i (by omega) (by omega)]; omega), Wq_ret]
        rw [show k = 4 by omega] at hb
        exact ⟨hb, rfl⟩
      | succ c ih =>
        intro k r hk hb
        refine Lq.of (t_258_5_ok X (callw X D') n tot kn kx _ _ _ _ M) ?_
        unfold t_258_5
        have p4 : 2 ^ k < 2 ^ 4 := Nat.pow_lt_pow_right (by decide) (by omega)
        have hlt := q_tF_lt (W := W) (k := k) (by omega)
        simp only [o_nI]
        rw [if_pos (by rw [lt_i (by omega) (by omega)]; omega), c_isIn (by omega), bnd_some, q_bit_nI (by omega) (by omega)]
        cases ht : kl.testBit k with
        | false =>
          rw [if_pos (by rfl), Wq_jmp, i1_nI, nI_add]
          refine ih (k + 1) r (by omega) (hb.same (fun a => ⟨fun ⟨j, h1, h2, h3⟩ => ?_, fun ⟨j, h1, h2, h3⟩ => ⟨j, by omega, h2, h3⟩⟩))
          rcases Nat.lt_or_ge j k with hl | hl
          · exact ⟨j, hl, h2, h3⟩
          · rw [show j = k by omega, ht] at h2; cases h2
        | true =>
          have hS : ∀ a, q_sN W kl (k + 1) a ↔ q_sN W kl k a ∨ a = q_tF W k := by
            intro a
            constructor
            · rintro ⟨j, h1, h2, h3⟩
              rcases Nat.lt_or_ge j k with hl | hl
              · exact Or.inl ⟨j, hl, h2, h3⟩
              · rw [show j = k by omega] at h3; exact Or.inr h3
            · rintro (⟨j, h1, h2, h3⟩ | h1)
              · exact ⟨j, by omega, h2, h3⟩
              · exact ⟨k, by omega, ht, h1⟩
          rw [if_neg (by decide +kernel), nI_shl (by omega), Nat.one_mul, c_toolsOf (by omega) (by omega) h.1.1 h.2.2.1, bnd_some, nI_and, q_tF_es]
          rcases hb with ⟨h1, h2⟩ | ⟨a, h1, h2, h3, h4⟩
          · rw [if_pos h1, Wq_jmp, i1_nI, nI_add]
            exact ih (k + 1) _ (by omega) (q_best.first hlt hS h2)
          · rw [h2, if_neg (by rw [m1n, nI_nm1 (by omega)]; exact id), c_isLess (by omega) hlt h1, bnd_some]
            by_cases hlk : q_key (q_tF W k) < q_key a
            · rw [decide_eq_true hlk, if_neg (by decide +kernel), Wq_jmp, i1_nI, nI_add]
              exact ih (k + 1) _ (by omega) (q_best.new hlt hS h4 hlk)
            · rw [decide_eq_false hlk, if_pos (by rfl), Wq_jmp, i1_nI, nI_add]
              exact ih (k + 1) _ (by omega) (q_best.old hS h1 h3 h4 hlk)
    exact loop 4 0 _ (by omega) (Or.inl ⟨rfl, fun a ⟨j, hj, _⟩ => absurd hj (Nat.not_lt_zero j)⟩))
/-- what a set must have -/
def q_hv (W : Nat → Int32) (a n : Nat) : Prop := ∀ i, i < n → q_doneB W i = false → q_tF W (q_n W (142 + 3 * i)) &&& a ≠ 0
theorem c_low (hD : 1 ≤ D) {a : Nat} (ha : a < 256) (h0 : a ≠ 0) : callw X D 259 [.inl (nI a)] (Gk n tot kn kx) M = some (nI (2 ^ q_tz a), Gk n tot kn kx, M) :=
  ex1 hD (fun cl => t_259_0_ok X cl n tot kn kx _ M) (fun cl => by
    unfold t_259_0
    rw [q_low_ok a ha h0])
theorem c_keepset (hD : 4 ≤ D) {W : Nat → Int32} {N : Nat} (hN : N ≤ q_n W 98) (h : CX M 10 W) : Sq X D 260 [.inr (.inl 0), .inl (nI (q_kl W N)), .inl (nI (q_th2 W))] (Gk n tot kn kx) M (fun x M' => q_best (fun a => a < 2 ^ q_n W 96 ∧ q_hv W a N) x ∧ M' = M) :=
  Sq.mk (k := 3) hD (fun D' hD' => by
    refine Lq.of (t_260_0_ok X (callw X D') n tot kn kx _ _ M) ?_
    unfold t_260_0
    simp only [o_nI]
    rw [Wq_jmp]
    have w3 := h.2.2.1.1.1.2
    have hkl : q_kl W N < 16 := q_kl_lt (fun i hi => (h.2.2.1.2.2.2.2.2.1 i (by omega)).1.2)
    have hkd : ∀ t, t < q_n W 96 → q_kd W t < 4 := fun t ht => (h.2.2.1.2.2.2.1 t (by omega)).1.2.2.2
    have hx0 : (0 : Nat) = sto (q_pL W (q_kl W N) 0) (q_n W 96) := (sto_0.mpr (fun i hi => rfl)).symm
    have loop : ∀ (c k : Nat), k + c = 4 → (∀ j, j < k → (q_kl W N).testBit j = true → ∃ i, q_ft W j = some i) → Lq X (callw X D') 260 5 [some (.inr (.inl 0)), some (.inl (nI (q_kl W N))), some (.inl (nI (q_th2 W))), some (.inl (nI (sto (q_pL W (q_kl W N) k) (q_n W 96)))), some (.inl (nI k)), none] (Gk n tot kn kx) M (fun x M' => q_best (fun a => a < 2 ^ q_n W 96 ∧ q_hv W a N) x ∧ M' = M) := by
      intro c
      induction c with
      | zero =>
        intro k hk hall
        refine Lq.of (t_260_5_ok X (callw X D') n tot kn kx _ _ _ _ M) ?_
        unfold t_260_5
        simp only [o_nI]
        rw [if_neg (by rw [lt_i (by omega) (by omega)]; omega), Wq_ret]
        have e4 : k = 4 := by omega
        subst e4
        refine ⟨Or.inr ⟨_, sto_le (m := 8) (by omega), rfl, ⟨sto_lt _ _, ?_⟩, ?_⟩, rfl⟩
        · intro i hi hd
          have hk4 := (h.2.2.1.2.2.2.2.2.1 i (by omega)).1.2
          have htb := q_kl_tb.mpr ⟨i, hi, hd, rfl⟩
          obtain ⟨t, ht⟩ := hall _ hk4 htb
          obtain ⟨t1, t2, _⟩ := q_find_some ht
          intro e
          have e2 := congrArg (fun x => x.testBit t) e
          unfold q_tF at e2
          simp only [Nat.testBit_and, sto_tb, Nat.zero_testBit, decide_eq_true t1, Bool.true_and] at e2
          rw [t2, Bool.true_and] at e2
          have e3 : q_pL W (q_kl W N) 4 t = true := q_any_iff.mpr ⟨_, hk4, by rw [htb, decide_eq_true ht]; rfl⟩
          rw [e3] at e2; cases e2
        · rintro b ⟨b1, b2⟩
          refine q_keep_key (by omega) b1 hkd (fun j hj hb => ?_)
          obtain ⟨i, hi, hd, e⟩ := q_kl_tb.mp hb
          rw [← e]
          exact b2 i hi hd
      | succ c ih =>
        intro k hk hall
        refine Lq.of (t_260_5_ok X (callw X D') n tot kn kx _ _ _ _ M) ?_
        unfold t_260_5
        have p4 : 2 ^ k < 2 ^ 4 := Nat.pow_lt_pow_right (by decide) (by omega)
        have hlt := q_tF_lt (W := W) (k := k) (by omega)
        simp only [o_nI, z_nI]
        rw [if_pos (by rw [lt_i (by omega) (by omega)]; omega), c_isIn (by omega), bnd_some, q_bit_nI (by omega) (by omega)]
        cases ht : (q_kl W N).testBit k with
        | false =>
          rw [if_pos (by rfl), Wq_jmp, i1_nI, nI_add]
          have e : sto (q_pL W (q_kl W N) k) (q_n W 96) = sto (q_pL W (q_kl W N) (k + 1)) (q_n W 96) := sto_cong (fun t _ => by
            show q_pL W (q_kl W N) k t = (q_pL W (q_kl W N) k t || ((q_kl W N).testBit k && decide (q_ft W k = some t)))
            rw [ht, Bool.false_and, Bool.or_false])
          rw [e]
          refine ih (k + 1) (by omega) (fun j hj hb => ?_)
          rcases Nat.lt_or_ge j k with hl | hl
          · exact hall j hl hb
          · rw [show j = k by omega, ht] at hb; cases hb
        | true =>
          rw [if_neg (by decide +kernel), nI_shl (by omega), Nat.one_mul, c_toolsOf (by omega) (by omega) h.1.1 h.2.2.1, bnd_some, nI_and, q_tF_es]
          have htz := q_tz_sto (p := fun t => decide (q_kd W t = k) && q_hand W t) (T := q_n W 96) (by omega)
          cases hq : q_ft W k with
          | none =>
            unfold q_ft at hq
            rw [hq] at htz
            have e0 : q_tF W k = 0 := htz
            rw [e0, if_pos rfl, Wq_ret]
            refine ⟨Or.inl ⟨rfl, ?_⟩, rfl⟩
            rintro a ⟨_, ha⟩
            obtain ⟨i, hi, hd, e⟩ := q_kl_tb.mp ht
            have := ha i hi hd
            rw [e, e0, Nat.zero_and] at this
            exact this rfl
          | some i =>
            have hi := (q_find_some hq).1
            have hq2 := hq
            unfold q_ft at hq2
            rw [hq2] at htz
            have e0 : q_tF W k ≠ 0 := htz.1
            have e1 : q_tz (q_tF W k) = i := htz.2
            rw [if_neg (by rw [eq_i (by omega) (by omega)]; exact e0), c_low (by omega) hlt e0, bnd_some, e1, nI_or, sto_or1 hi, Wq_jmp, i1_nI, nI_add]
            have e : sto (fun t => q_pL W (q_kl W N) k t || decide (t = i)) (q_n W 96) = sto (q_pL W (q_kl W N) (k + 1)) (q_n W 96) := sto_cong (fun t _ => by
              show (q_pL W (q_kl W N) k t || decide (t = i)) = (q_pL W (q_kl W N) k t || ((q_kl W N).testBit k && decide (q_ft W k = some t)))
              rw [ht, hq, Bool.true_and]
              congr 1
              rw [decide_eq_decide, Option.some.injEq, eq_comm])
            rw [e]
            refine ih (k + 1) (by omega) (fun j hj hb => ?_)
            rcases Nat.lt_or_ge j k with hl | hl
            · exact hall j hl hb
            · rw [show j = k by omega]; exact ⟨i, hq⟩
    have hl := loop 4 0 (by omega) (fun j hj => absurd hj (Nat.not_lt_zero j))
    rw [← hx0] at hl
    exact hl)

/-! the reference's -/
theorem m_stop (hD : 8 ≤ D) {W C : Nat → Int32} (hW : M 179 = W) (hl : q_law W 0 C) (hy : q_invY W) : Sq X D 263 [.inr (.inl 178)] (Gk n tot kn kx) M (fun x M' => q_best (q_sN W (q_kl W (q_n W 98)) 4) x ∧ Fr [187, 188] M M') :=
  Sq.mk (k := 7) hD (fun D' hD' => by
    refine Lq.of (t_263_0_ok X (callw X D') n tot kn kx M) ?_
    unfold t_263_0
    simp only [o_nI]
    rw [Wq_jmp]
    have w3 := hy.1.1.2
    obtain ⟨w1, w2⟩ := hy.1.2.2.1
    have hw : ∀ M1 : MMw, Fr [187, 188] M M1 → M1 179 = W := fun M1 hf => by rw [hf 179 (by decide)]; exact hW
    have loop : ∀ (c i : Nat) (r : Int32) (M1 : MMw), i + c = q_n W 98 → Fr [187, 188] M M1 → q_best (fun a => ∃ j, j < i ∧ q_doneB W j = false ∧ a = q_tF W (q_n W (142 + 3 * j))) r → Lq X (callw X D') 263 4 [some (.inr (.inl 178)), some (.inl r), some (.inl (nI i)), none] (Gk n tot kn kx) M1 (fun x M' => q_best (q_sN W (q_kl W (q_n W 98)) 4) x ∧ Fr [187, 188] M M') := by
      intro c
      induction c with
      | zero =>
        intro i r M1 hi hf hb
        refine Lq.of (t_263_4_ok X (callw X D') n tot kn kx _ _ M1) ?_
        unfold t_263_4
        rw [hw M1 hf, w1, if_neg (by rw [lt_i (by omega) (by omega)]; omega), Wq_ret]
        refine ⟨hb.same (fun a => ⟨?_, ?_⟩), hf⟩
        · rintro ⟨j, _, h2, h3⟩
          obtain ⟨i2, hi2, hd, e⟩ := q_kl_tb.mp h2
          exact ⟨i2, by omega, hd, by rw [e]; exact h3⟩
        · rintro ⟨j, hj, hd, e⟩
          exact ⟨_, (hy.2.2.2.2.2.1 j (by omega)).1.2, q_kl_tb.mpr ⟨j, by omega, hd, rfl⟩, e⟩
      | succ c ih =>
        intro i r M1 hi hf hb
        refine Lq.of (t_263_4_ok X (callw X D') n tot kn kx _ _ M1) ?_
        unfold t_263_4
        obtain ⟨k1, k2⟩ := (hy.2.2.2.2.2.1 i (by omega)).1
        obtain ⟨k, hk⟩ : ∃ k, q_n W (142 + 3 * i) = k := ⟨_, rfl⟩
        rw [hk] at k1 k2
        have hlt := q_tF_lt (W := W) (k := k) (by omega)
        simp only [o_nI]
        rw [hw M1 hf, w1, if_pos (by rw [lt_i (by omega) (by omega)]; omega), m_isDone (by omega) (by omega), bnd_some, hw M1 hf]
        cases hd : q_doneB W i with
        | true =>
          rw [if_neg (by decide +kernel), Wq_jmp, i1_nI, nI_add]
          refine ih (i + 1) r M1 (by omega) hf (hb.same (fun a => ⟨fun ⟨j, h1, h2, h3⟩ => ?_, fun ⟨j, h1, h2, h3⟩ => ⟨j, by omega, h2, h3⟩⟩))
          rcases Nat.lt_or_ge j i with hl | hl
          · exact ⟨j, hl, h2, h3⟩
          · rw [show j = i by omega, hd] at h2; cases h2
        | false =>
          have hS : ∀ a, (∃ j, j < i + 1 ∧ q_doneB W j = false ∧ a = q_tF W (q_n W (142 + 3 * j))) ↔ (∃ j, j < i ∧ q_doneB W j = false ∧ a = q_tF W (q_n W (142 + 3 * j))) ∨ a = q_tF W k := by
            intro a
            constructor
            · rintro ⟨j, h1, h2, h3⟩
              rcases Nat.lt_or_ge j i with hl | hl
              · exact Or.inl ⟨j, hl, h2, h3⟩
              · rw [show j = i by omega, hk] at h3; exact Or.inr h3
            · rintro (⟨j, h1, h2, h3⟩ | h1)
              · exact ⟨j, by omega, h2, h3⟩
              · exact ⟨i, by omega, hd, by rw [hk]; exact h1⟩
          rw [if_pos (by rfl), m_ofWork (by omega) (by omega), bnd_some, hw M1 hf, Nat.add_zero, k1]
          refine Wq.call (m_toolsFor (by omega) (hw M1 hf) k2 hl hy) ?_
          rintro z M2 ⟨rfl, f2⟩
          have hf2 := hf.tr f2
          rcases hb with ⟨h1, h2⟩ | ⟨a, h1, h2, h3, h4⟩
          · rw [if_pos h1, Wq_jmp, i1_nI, nI_add]
            exact ih (i + 1) _ M2 (by omega) hf2 (q_best.first hlt hS h2)
          · have l1 : q_bc a < 2 ^ 31 := by have := cnt_le (p := fun i => a.testBit i) (n := 8); unfold q_bc; omega
            have l2 : q_bc (q_tF W k) < 2 ^ 31 := by have := cnt_le (p := fun i => (q_tF W k).testBit i) (n := 8); unfold q_bc; omega
            have e := q_key_lt hlt h1
            rw [h2, if_neg (by rw [m1n, nI_nm1 (by omega)]; exact id)]
            simp (disch := omega) only [m_count, bnd_some, lt_i, eq_i]
            by_cases c1 : q_bc (q_tF W k) < q_bc a
            · rw [if_pos c1, Wq_jmp, i1_nI, nI_add]
              exact ih (i + 1) _ M2 (by omega) hf2 (q_best.new hlt hS h4 (e.mpr (Or.inl c1)))
            · rw [if_neg c1]
              by_cases c2 : q_bc (q_tF W k) = q_bc a
              · rw [if_pos c2]
                by_cases c3 : q_tF W k < a
                · rw [if_pos c3, Wq_jmp, i1_nI, nI_add]
                  exact ih (i + 1) _ M2 (by omega) hf2 (q_best.new hlt hS h4 (e.mpr (Or.inr ⟨c2, c3⟩)))
                · rw [if_neg c3, Wq_jmp, i1_nI, nI_add]
                  exact ih (i + 1) _ M2 (by omega) hf2 (q_best.old hS h1 h3 h4 (fun h => by rcases e.mp h with h | h <;> omega))
              · rw [if_neg c2, Wq_jmp, i1_nI, nI_add]
                exact ih (i + 1) _ M2 (by omega) hf2 (q_best.old hS h1 h3 h4 (fun h => by rcases e.mp h with h | h <;> omega))
    exact loop (q_n W 98) 0 _ M (by omega) Fr.rf (Or.inl ⟨rfl, fun a ⟨j, hj, _⟩ => absurd hj (Nat.not_lt_zero j)⟩))
theorem m_haveAll (hD : 8 ≤ D) {W C : Nat → Int32} {a : Nat} (ha : a < 2 ^ 31) (hW : M 179 = W) (hl : q_law W 0 C) (hy : q_invY W) : Sq X D 264 [.inr (.inl 178), .inl (nI a)] (Gk n tot kn kx) M (fun x M' => (∃ b, x = b2i b ∧ (b = true ↔ q_hv W a (q_n W 98))) ∧ Fr [187, 188] M M') :=
  Sq.mk (k := 7) hD (fun D' hD' => by
    refine Lq.of (t_264_0_ok X (callw X D') n tot kn kx _ M) ?_
    unfold t_264_0
    simp only [o_nI]
    rw [Wq_jmp]
    have w3 := hy.1.1.2
    obtain ⟨w1, w2⟩ := hy.1.2.2.1
    have hw : ∀ M1 : MMw, Fr [187, 188] M M1 → M1 179 = W := fun M1 hf => by rw [hf 179 (by decide)]; exact hW
    have loop : ∀ (c i : Nat) (M1 : MMw), i + c = q_n W 98 → Fr [187, 188] M M1 → q_hv W a i → Lq X (callw X D') 264 2 [some (.inr (.inl 178)), some (.inl (nI a)), some (.inl (nI i))] (Gk n tot kn kx) M1 (fun x M' => (∃ b, x = b2i b ∧ (b = true ↔ q_hv W a (q_n W 98))) ∧ Fr [187, 188] M M') := by
      intro c
      induction c with
      | zero =>
        intro i M1 hi hf hb
        refine Lq.of (t_264_2_ok X (callw X D') n tot kn kx _ _ M1) ?_
        unfold t_264_2
        simp only [o_nI]
        rw [hw M1 hf, w1, if_neg (by rw [lt_i (by omega) (by omega)]; omega), Wq_ret]
        rw [show i = q_n W 98 by omega] at hb
        exact ⟨⟨true, rfl, fun _ => hb, fun _ => rfl⟩, hf⟩
      | succ c ih =>
        intro i M1 hi hf hb
        refine Lq.of (t_264_2_ok X (callw X D') n tot kn kx _ _ M1) ?_
        unfold t_264_2
        obtain ⟨k1, k2⟩ := (hy.2.2.2.2.2.1 i (by omega)).1
        obtain ⟨k, hk⟩ : ∃ k, q_n W (142 + 3 * i) = k := ⟨_, rfl⟩
        rw [hk] at k1 k2
        have hlt := q_tF_lt (W := W) (k := k) (by omega)
        have step : ∀ {P : Prop}, (q_doneB W i = false → q_tF W k &&& a ≠ 0) → q_hv W a (i + 1) := by
          intro P hp j hj hd
          rcases Nat.lt_or_ge j i with hl | hl
          · exact hb j hl hd
          · have e : j = i := by omega
            subst e
            rw [hk]; exact hp hd
        simp only [o_nI, z_nI]
        rw [hw M1 hf, w1, if_pos (by rw [lt_i (by omega) (by omega)]; omega), m_isDone (by omega) (by omega), bnd_some, hw M1 hf]
        cases hd : q_doneB W i with
        | true =>
          rw [if_neg (by decide +kernel), Wq_jmp, i1_nI, nI_add]
          exact ih (i + 1) M1 (by omega) hf (step (P := True) (fun h => by rw [hd] at h; cases h))
        | false =>
          rw [if_pos (by rfl), m_ofWork (by omega) (by omega), bnd_some, hw M1 hf, Nat.add_zero, k1]
          refine Wq.call (m_toolsFor (by omega) (hw M1 hf) k2 hl hy) ?_
          rintro z M2 ⟨rfl, f2⟩
          have hle : q_tF W k &&& a ≤ q_tF W k := Nat.and_le_left
          rw [nI_and]
          by_cases e0 : q_tF W k &&& a = 0
          · rw [if_pos (by rw [e0]), Wq_ret]
            refine ⟨⟨false, rfl, fun h => (by cases h), fun h => ?_⟩, hf.tr f2⟩
            have := h i (by omega) hd
            rw [hk] at this
            exact absurd e0 this
          · rw [if_neg (by rw [eq_i (by omega) (by omega)]; exact e0), Wq_jmp, i1_nI, nI_add]
            exact ih (i + 1) M2 (by omega) (hf.tr f2) (step (P := True) (fun _ => e0))
    exact loop (q_n W 98) 0 M (by omega) Fr.rf (fun j hj => absurd hj (Nat.not_lt_zero j)))
theorem m_keepset (hD : 9 ≤ D) {W C : Nat → Int32} (hW : M 179 = W) (hl : q_law W 0 C) (hy : q_invY W) : Sq X D 265 [.inr (.inl 178)] (Gk n tot kn kx) M (fun x M' => q_best (fun a => a < 2 ^ q_n W 96 ∧ q_hv W a (q_n W 98)) x ∧ Fr [187, 188] M M') :=
  Sq.mk (k := 8) hD (fun D' hD' => by
    refine Lq.of (t_265_0_ok X (callw X D') n tot kn kx M) ?_
    unfold t_265_0
    simp only [o_nI]
    rw [Wq_jmp]
    obtain ⟨w1, w3⟩ := hy.1.1
    have hw : ∀ M1 : MMw, Fr [187, 188] M M1 → M1 179 = W := fun M1 hf => by rw [hf 179 (by decide)]; exact hW
    have p8 : 2 ^ q_n W 96 ≤ 2 ^ 8 := Nat.pow_le_pow_right (by decide) (by omega)
    have loop : ∀ (c s : Nat) (r : Int32) (M1 : MMw), s + c = 2 ^ q_n W 96 → Fr [187, 188] M M1 → q_best (fun a => a < s ∧ q_hv W a (q_n W 98)) r → Lq X (callw X D') 265 4 [some (.inr (.inl 178)), some (.inl r), some (.inl (nI s))] (Gk n tot kn kx) M1 (fun x M' => q_best (fun a => a < 2 ^ q_n W 96 ∧ q_hv W a (q_n W 98)) x ∧ Fr [187, 188] M M') := by
      intro c
      induction c with
      | zero =>
        intro s r M1 hs hf hb
        refine Lq.of (t_265_4_ok X (callw X D') n tot kn kx _ _ M1) ?_
        unfold t_265_4
        simp only [o_nI]
        rw [hw M1 hf, w1, nI_shl (by omega), Nat.one_mul, if_neg (by rw [lt_i (by omega) (by omega)]; omega), Wq_ret]
        rw [show s = 2 ^ q_n W 96 by omega] at hb
        exact ⟨hb, hf⟩
      | succ c ih =>
        intro s r M1 hs hf hb
        refine Lq.of (t_265_4_ok X (callw X D') n tot kn kx _ _ M1) ?_
        unfold t_265_4
        have hs2 : s < 256 := by omega
        have same : ¬ q_hv W s (q_n W 98) → ∀ a, (a < s + 1 ∧ q_hv W a (q_n W 98)) ↔ (a < s ∧ q_hv W a (q_n W 98)) := by
          intro hn a
          constructor
          · rintro ⟨h1, h2⟩
            rcases Nat.lt_or_ge a s with hl | hl
            · exact ⟨hl, h2⟩
            · rw [show a = s by omega] at h2; exact absurd h2 hn
          · rintro ⟨h1, h2⟩; exact ⟨by omega, h2⟩
        have more : q_hv W s (q_n W 98) → ∀ a, (a < s + 1 ∧ q_hv W a (q_n W 98)) ↔ (a < s ∧ q_hv W a (q_n W 98)) ∨ a = s := by
          intro hn a
          constructor
          · rintro ⟨h1, h2⟩
            rcases Nat.lt_or_ge a s with hl | hl
            · exact Or.inl ⟨hl, h2⟩
            · exact Or.inr (by omega)
          · rintro (⟨h1, h2⟩ | rfl)
            · exact ⟨by omega, h2⟩
            · exact ⟨by omega, hn⟩
        simp only [o_nI]
        rw [hw M1 hf, w1, nI_shl (by omega), Nat.one_mul, if_pos (by rw [lt_i (by omega) (by omega)]; omega)]
        rcases id hb with ⟨h1, h2⟩ | ⟨a, h1, h2, h3, h4⟩
        · rw [if_pos h1]
          refine Wq.call (m_haveAll (by omega) (by omega) (hw M1 hf) hl hy) ?_
          rintro z M2 ⟨⟨b, rfl, hbt⟩, f2⟩
          cases b with
          | false =>
            rw [if_pos (by rfl), Wq_jmp, i1_nI, nI_add]
            exact ih (s + 1) r M2 (by omega) (hf.tr f2) (hb.same (same (fun h => by have := hbt.mpr h; cases this)))
          | true =>
            rw [if_neg (by decide +kernel), Wq_jmp, i1_nI, nI_add]
            exact ih (s + 1) _ M2 (by omega) (hf.tr f2) (q_best.first hs2 (more (hbt.mp rfl)) h2)
        · have l1 : q_bc a < 2 ^ 31 := by have := cnt_le (p := fun i => a.testBit i) (n := 8); unfold q_bc; omega
          have l2 : q_bc s < 2 ^ 31 := by have := cnt_le (p := fun i => s.testBit i) (n := 8); unfold q_bc; omega
          have e := q_key_lt hs2 h1
          rw [h2, if_neg (by rw [m1n, nI_nm1 (by omega)]; exact id)]
          simp (disch := omega) only [m_count, bnd_some, lt_i]
          by_cases c1 : q_bc s < q_bc a
          · rw [if_pos c1]
            refine Wq.call (m_haveAll (by omega) (by omega) (hw M1 hf) hl hy) ?_
            rintro z M2 ⟨⟨b, rfl, hbt⟩, f2⟩
            cases b with
            | false =>
              rw [if_pos (by rfl), Wq_jmp, i1_nI, nI_add]
              rw [h2] at hb
              exact ih (s + 1) _ M2 (by omega) (hf.tr f2) (hb.same (same (fun h => by have := hbt.mpr h; cases this)))
            | true =>
              rw [if_neg (by decide +kernel), Wq_jmp, i1_nI, nI_add]
              exact ih (s + 1) _ M2 (by omega) (hf.tr f2) (q_best.new hs2 (more (hbt.mp rfl)) h4 (e.mpr (Or.inl c1)))
          · rw [if_neg c1, Wq_jmp, i1_nI, nI_add]
            refine ih (s + 1) _ M1 (by omega) hf ?_
            by_cases hv : q_hv W s (q_n W 98)
            · refine q_best.old (more hv) h1 h3 h4 (fun h => ?_)
              rcases e.mp h with h | h
              · omega
              · have := h3.1; omega
            · rw [h2] at hb
              exact hb.same (same hv)
    exact loop (2 ^ q_n W 96) 0 _ M (by omega) Fr.rf (Or.inl ⟨rfl, fun a ⟨hj, _⟩ => absurd hj (Nat.not_lt_zero a)⟩))
def q_fw (j : Nat) (r : Int32) : Int32 := if r = nI 4294967295 then r else if j % 2 = 1 then r else nI (q_bc r.toNatClampNeg)
theorem P_few (hD : 10 ≤ D) {v : Int32} {len s : Nat} (h : Rl kn len s M) : Pr X D 261 266 [.inr (.inl 0), .inl v] [.inr (.inl 178), .inl v] (Gk n tot kn kx) M (Rl kn len s) := by
  have hX := h.1.1
  have hl := hX.1.2.2.2.1.2.2
  have fin : ∀ {M2 : MMw}, Fr [121, 122, 187, 188] M M2 → Rl kn len s M2 := fun f2 => h.ask f2 (by decide)
  by_cases ok : q_in v 0 3 = true
  · obtain ⟨j, -, hj, rfl⟩ := q_in_t (by decide) (by decide) ok
    obtain ⟨S, hs1, hs2⟩ : ∃ S, (j < 2 → S = q_sN (M 179) (q_kl (M 179) (q_n (M 179) 98)) 4) ∧ (¬ j < 2 → S = (fun a => a < 2 ^ q_n (M 179) 96 ∧ q_hv (M 179) a (q_n (M 179) 98))) := ⟨if j < 2 then q_sN (M 179) (q_kl (M 179) (q_n (M 179) 98)) 4 else (fun a => a < 2 ^ q_n (M 179) 96 ∧ q_hv (M 179) a (q_n (M 179) 98)), fun h => if_pos h, fun h => if_neg h⟩
    refine Pr.mk (Q1 := fun x M1 => (∃ r, q_best S r ∧ x = q_fw j r) ∧ Fr [121, 122] M M1) (Sq.mk (k := 9) hD (fun D' hD' => ?_)) ?_
    · refine Lq.of (t_261_0_ok X (callw X D') n tot kn kx _ M) ?_
      unfold t_261_0
      simp only [o_nI]
      rw [c_in (by omega), bnd_some, ok, if_neg (by decide), c_kindsLeft10 (by omega) hX, bnd_some]
      refine Wq.call (c_toolsInHands (by omega) hX) ?_
      rintro z M1 ⟨rfl, f1⟩
      have hX1 := hX.fr f1 (by decide)
      have hb1 : nI j &&& nI 1 = nI (j % 2) := by rw [nI_and, Nat.and_one_is_mod]
      have e1 : (nI (j % 2) = nI 1) = (j % 2 = 1) := by rw [eq_i (by omega) (by omega)]
      have tail : ∀ (S : Nat → Prop) (r : Int32), q_best S r → Wq X (callw X D') 261 (Gk n tot kn kx) (fun x M1 => (∃ r, q_best S r ∧ x = q_fw j r) ∧ Fr [121, 122] M M1) (if r = nI 4294967295 then some (.inl (r, Gk n tot kn kx, M1)) else if nI j &&& nI 1 = nI 1 then some (.inl (r, Gk n tot kn kx, M1)) else bnd (callw X D' 182 [.inl r] (Gk n tot kn kx) M1) fun r9 _ M10 => some (.inl (r9, Gk n tot kn kx, M10))) := by
        intro S r hb
        simp only [hb1, e1]
        by_cases g1 : r = nI 4294967295
        · rw [if_pos g1, Wq_ret]
          exact ⟨⟨r, hb, by unfold q_fw; rw [if_pos g1]⟩, f1⟩
        · rw [if_neg g1]
          by_cases g2 : j % 2 = 1
          · rw [if_pos g2, Wq_ret]
            exact ⟨⟨r, hb, by unfold q_fw; rw [if_neg g1, if_pos g2]⟩, f1⟩
          · rw [if_neg g2]
            rcases hb.lt with g3 | ⟨a, ha, rfl⟩
            · exact absurd g3 g1
            · rw [c_bits (by omega) ha, bnd_some, Wq_ret]
              exact ⟨⟨_, hb, by unfold q_fw; rw [if_neg g1, if_neg g2, nI_clamp (by omega)]⟩, f1⟩
      by_cases j2 : j < 2
      · rw [if_pos (by rw [lt_i (by omega) (by omega)]; exact j2)]
        rw [hs1 j2]
        refine Wq.call (c_stop (by omega) (q_kl_lt (fun i hi => (hX.2.2.1.2.2.2.2.2.1 i hi).1.2)) hX1) ?_
        rintro r M2 ⟨hb, rfl⟩
        exact tail _ r hb
      · rw [if_neg (by rw [lt_i (by omega) (by omega)]; exact j2)]
        rw [hs2 j2]
        refine Wq.call (c_keepset (by omega) (Nat.le_refl _) hX1) ?_
        rintro r M2 ⟨hb, rfl⟩
        exact tail _ r hb
    · rintro x M1 ⟨⟨r, hb, rfl⟩, f1⟩
      have e9 : M1 179 = M 179 := f1 179 (by decide)
      refine Sq.mk (k := 9) hD (fun D' hD' => ?_)
      refine Lq.of (t_266_0_ok X (callw X D') n tot kn kx _ M1) ?_
      unfold t_266_0
      simp only [o_nI]
      rw [m_in (by omega), bnd_some, ok, if_neg (by decide)]
      have hb1 : nI j - nI j / nI 2 * nI 2 = nI (j % 2) := by rw [nI_div (by omega) (by omega), nI_mul, nI_sub (by omega), show j - j / 2 * 2 = j % 2 by omega]
      have e1 : (nI (j % 2) = nI 1) = (j % 2 = 1) := by rw [eq_i (by omega) (by omega)]
      have tail : ∀ M2, Fr [187, 188] M1 M2 → Wq X (callw X D') 266 (Gk n tot kn kx) (fun y M2 => y = q_fw j r ∧ Rl kn len s M2) (if r = nI 4294967295 then some (.inl (r, Gk n tot kn kx, M2)) else if nI j - nI j / nI 2 * nI 2 = nI 1 then some (.inl (r, Gk n tot kn kx, M2)) else bnd (callw X D' 196 [.inl r] (Gk n tot kn kx) M2) fun r9 _ M10 => some (.inl (r9, Gk n tot kn kx, M10))) := by
        intro M2 f2
        have hR := fin ((f1.mono (by decide)).tr (f2.mono (by decide)))
        simp only [hb1, e1]
        by_cases g1 : r = nI 4294967295
        · rw [if_pos g1, Wq_ret]
          exact ⟨by unfold q_fw; rw [if_pos g1], hR⟩
        · rw [if_neg g1]
          by_cases g2 : j % 2 = 1
          · rw [if_pos g2, Wq_ret]
            exact ⟨by unfold q_fw; rw [if_neg g1, if_pos g2], hR⟩
          · rw [if_neg g2]
            rcases hb.lt with g3 | ⟨a, ha, rfl⟩
            · exact absurd g3 g1
            · rw [m_count (by omega) (by omega), bnd_some, Wq_ret]
              exact ⟨by unfold q_fw; rw [if_neg g1, if_neg g2, nI_clamp (by omega)], hR⟩
      by_cases j2 : j < 2
      · rw [if_pos (by rw [lt_i (by omega) (by omega)]; exact j2)]
        rw [hs1 j2] at hb
        refine Wq.call (m_stop (by omega) e9 hl hX.2.2.1) ?_
        rintro r2 M2 ⟨hb2, f2⟩
        rw [hb2.uniq hb]
        exact tail M2 f2
      · rw [if_neg (by rw [lt_i (by omega) (by omega)]; exact j2)]
        rw [hs2 j2] at hb
        refine Wq.call (m_keepset (by omega) e9 hl hX.2.2.1) ?_
        rintro r2 M2 ⟨hb2, f2⟩
        rw [hb2.uniq hb]
        exact tail M2 f2
  · have ok2 := eq_false_of_ne_true ok
    refine Pr.mk (Q1 := fun x M1 => x = nI 4294967295 ∧ M1 = M) (Sq.mk (k := 9) hD (fun D' hD' => ?_)) ?_
    · refine Lq.of (t_261_0_ok X (callw X D') n tot kn kx _ M) ?_
      unfold t_261_0
      simp only [o_nI]
      rw [c_in (by omega), bnd_some, ok2, if_pos (by rfl), Wq_ret]
      exact ⟨rfl, rfl⟩
    · rintro x M1 ⟨rfl, rfl⟩
      refine Sq.mk (k := 9) hD (fun D' hD' => ?_)
      refine Lq.of (t_266_0_ok X (callw X D') n tot kn kx _ M1) ?_
      unfold t_266_0
      simp only [o_nI]
      rw [m_in (by omega), bnd_some, ok2, if_pos (by rfl), Wq_ret]
      exact ⟨rfl, h⟩
end
