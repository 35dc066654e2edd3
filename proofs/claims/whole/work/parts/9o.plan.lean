section
-- needs: bound
/-! the planner's tables -/
theorem nI_min {a b : Nat} (ha : a < 2 ^ 31) (hb : b < 2 ^ 31) : (if nI a < nI b then nI a else nI b) = nI (if b < a then b else a) := by
  by_cases h : a < b
  · rw [if_pos (by rw [lt_i ha hb]; exact h), if_neg (by omega)]
  · rw [if_neg (by rw [lt_i ha hb]; exact h)]
    by_cases h2 : b < a
    · rw [if_pos h2]
    · rw [if_neg h2, show a = b by omega]
theorem nI_max {a b : Nat} (ha : a < 2 ^ 31) (hb : b < 2 ^ 31) : (if nI b < nI a then nI a else nI b) = nI (if a < b then b else a) := by
  by_cases h : b < a
  · rw [if_pos (by rw [lt_i hb ha]; exact h), if_neg (by omega)]
  · rw [if_neg (by rw [lt_i hb ha]; exact h)]
    by_cases h2 : a < b
    · rw [if_pos h2]
    · rw [if_neg h2, show a = b by omega]
def q_tsm (W : Nat → Int32) (m : Nat) : Nat := if m < q_n W 97 then q_ts W m else 0
def q_wks (W : Nat → Int32) (x : Nat) : Nat := sto (fun i => x.testBit (q_n W (142 + 3 * i))) (q_n W 98)
def q_cpl (W : Nat → Int32) (x : Nat) : Nat := q_rank (q_tsm W) (q_tk W x)
theorem q_tsm_lt {W : Nat → Int32} {m : Nat} (hT : q_n W 96 ≤ 8) : q_tsm W m < 256 := by
  unfold q_tsm
  split
  · exact q_ts_lt hT
  · decide
theorem q_wks_lt {W : Nat → Int32} {x : Nat} (h : q_n W 98 ≤ 8) : q_wks W x < 256 := sto_le (m := 8) h
variable {X : KXw} {n tot kn D : Nat} {kx : Nat → Nat × Nat} {M : MMw}
theorem c_worksOf (hD : 2 ≤ D) {W : Nat → Int32} {x : Nat} (hx : x < 16) (hc : CRhull M 17 W) (hy : q_invY W) : callw X D 229 [.inr (.inl 17), .inl (nI x)] (Gk n tot kn kx) M = some (nI (q_wks W x), Gk n tot kn kx, M) :=
  Sq.eq (Sq.mk (k := 1) hD (fun D' hD' => by
    obtain ⟨w1, w2⟩ := hy.1.2.2.1
    have e0 : M 17 0 = nI (q_n W 98) := by rw [hc.1]; exact w1
    have loop : ∀ (c i : Nat), i + c = q_n W 98 → Lq X (callw X D') 229 4 [some (.inr (.inl 17)), some (.inl (nI x)), some (.inl (nI (sto (fun i => x.testBit (q_n W (142 + 3 * i))) i))), some (.inl (nI i))] (Gk n tot kn kx) M (fun y M' => y = nI (q_wks W x) ∧ M' = M) := by
      intro c
      induction c with
      | zero =>
        intro i hi
        refine Lq.of (t_229_p17_4_ok X (callw X D') n tot kn kx _ _ _ M) ?_
        unfold t_229_p17_4
        rw [e0, if_neg (by rw [lt_i (by omega) (by omega)]; omega), Wq_ret, show i = q_n W 98 by omega]
        exact ⟨rfl, rfl⟩
      | succ c ih =>
        intro i hi
        refine Lq.of (t_229_p17_4_ok X (callw X D') n tot kn kx _ _ _ M) ?_
        unfold t_229_p17_4
        obtain ⟨k1, k2⟩ := (hy.2.2.2.2.2.1 i (by omega)).1
        have e18 : M 18 i = nI (q_n W (142 + 3 * i)) := by rw [hc.2.2.1 i (by omega)]; exact k1
        have hn := ih (i + 1) (by omega)
        simp only [o_nI]
        rw [e0, if_pos (by rw [lt_i (by omega) (by omega)]; omega), if_pos (by rw [lt_i (by omega) (by omega)]; omega), inb_nI (show i < 8 by omega) (by decide), if_pos rfl, nI_clamp (by omega), e18, c_isIn (by omega), bnd_some, q_bit_nI (by omega) (by omega)]
        cases hb : x.testBit (q_n W (142 + 3 * i)) with
        | false =>
          rw [sto_sf (p := fun i => x.testBit (q_n W (142 + 3 * i))) hb] at hn
          rw [if_pos (by rfl), Wq_jmp, i1_nI, nI_add]
          exact hn
        | true =>
          rw [sto_st (p := fun i => x.testBit (q_n W (142 + 3 * i))) hb] at hn
          rw [if_neg (by decide +kernel), Wq_jmp, i1_nI, nI_add, nI_shl (by omega), nI_or, Nat.one_mul]
          exact hn
    refine Lq.of (t_229_p17_0_ok X (callw X D') n tot kn kx _ M) ?_
    unfold t_229_p17_0
    simp only [o_nI]
    rw [Wq_jmp]
    exact loop (q_n W 98) 0 (by omega)))
def q_ua (ts : Nat → Nat) (T Y : Nat) : Nat → Nat
  | 0 => 0
  | m + 1 => if Y.testBit m = true then q_ua ts T Y m ||| (ts m &&& T) else q_ua ts T Y m
theorem q_ua_tb {ts : Nat → Nat} {T Y e : Nat} : ∀ {n}, (q_ua ts T Y n).testBit e = true ↔ ∃ m, m < n ∧ Y.testBit m = true ∧ (ts m).testBit e = true ∧ T.testBit e = true
  | 0 => by rw [q_ua, Nat.zero_testBit]; exact ⟨fun h => (by cases h), fun ⟨m, hm, _⟩ => absurd hm (Nat.not_lt_zero m)⟩
  | n + 1 => by
    rw [q_ua]
    by_cases hb : Y.testBit n = true
    · rw [if_pos hb, Nat.testBit_or, Bool.or_eq_true, q_ua_tb, Nat.testBit_and, Bool.and_eq_true]
      constructor
      · rintro (⟨m, h1, h2⟩ | h)
        · exact ⟨m, by omega, h2⟩
        · exact ⟨n, by omega, hb, h⟩
      · rintro ⟨m, h1, h2, h3⟩
        rcases Nat.lt_or_ge m n with hl | hl
        · exact Or.inl ⟨m, hl, h2, h3⟩
        · rw [show m = n by omega] at h3; exact Or.inr h3
    · rw [if_neg hb, q_ua_tb]
      constructor
      · rintro ⟨m, h1, h2⟩; exact ⟨m, by omega, h2⟩
      · rintro ⟨m, h1, h2, h3⟩
        rcases Nat.lt_or_ge m n with hl | hl
        · exact ⟨m, hl, h2, h3⟩
        · rw [show m = n by omega] at h2; exact absurd h2 hb
theorem q_ua_eq {ts : Nat → Nat} {T Y : Nat} (hts : ∀ m, ts m < 256) (hY : Y < 16) : q_ua ts T Y 4 = q_un ts Y &&& T := by
  apply Nat.eq_of_testBit_eq
  intro e
  rw [Bool.eq_iff_iff, q_ua_tb, Nat.testBit_and, Bool.and_eq_true, q_un_tb]
  constructor
  · rintro ⟨m, h1, h2, h3, h4⟩
    exact ⟨⟨q_bit8 (hts m) h3, m, by omega, h2, h3⟩, h4⟩
  · rintro ⟨⟨h0, m, h1, h2, h3⟩, h4⟩
    refine ⟨m, ?_, h2, h3, h4⟩
    rcases Nat.lt_or_ge m 4 with hl | hl
    · exact hl
    · rw [Nat.testBit_lt_two_pow (Nat.lt_of_lt_of_le hY (show 2 ^ 4 ≤ 2 ^ m from Nat.pow_le_pow_right (by decide) hl))] at h2; cases h2
theorem q_ua_lt {ts : Nat → Nat} {T Y : Nat} (hT : T < 256) : ∀ n, q_ua ts T Y n < 256
  | 0 => by rw [q_ua]; decide
  | n + 1 => by
    rw [q_ua]
    split
    · exact Nat.or_lt_two_pow (n := 8) (q_ua_lt hT n) (Nat.lt_of_le_of_lt Nat.and_le_right hT)
    · exact q_ua_lt hT n
theorem c_couples (hD : 2 ≤ D) {ts : Nat → Nat} {T : Nat} (hT : T < 256) (hts : ∀ m, ts m < 256) (hM : ∀ m, m < 4 → M 125 m = nI (ts m)) : callw X D 230 [.inr (.inl 124), .inl (nI T)] (Gk n tot kn kx) M = some (nI (q_rank ts T), Gk n tot kn kx, M) :=
  Sq.eq (Sq.mk (k := 1) hD (fun D' hD' => by
    have f4 : ∀ Y, Y < 16 → 4 - q_bc Y + q_bc (q_un ts Y &&& T) ≤ 12 := fun Y hY => by
      have : q_bc (q_un ts Y &&& T) ≤ 8 := cnt_le _ _
      omega
    have mle : ∀ n, n < 16 → q_mn (fun Y => 4 - q_bc Y + q_bc (q_un ts Y &&& T)) n ≤ 12 := fun n hn => by
      obtain ⟨i, h1, h2⟩ := q_mn_at (f := fun Y => 4 - q_bc Y + q_bc (q_un ts Y &&& T)) n
      rw [h2]; exact f4 i (by omega)
    have inner : ∀ (Y : Nat) (a : Nat), Y < 16 → a ≤ 12 → ∀ Q : Int32 → MMw → Prop, Lq X (callw X D') 230 4 [some (.inr (.inl 124)), some (.inl (nI T)), some (.inl (nI (if 4 - q_bc Y + q_bc (q_un ts Y &&& T) < a then 4 - q_bc Y + q_bc (q_un ts Y &&& T) else a))), some (.inl (nI (Y + 1))), none, none] (Gk n tot kn kx) M Q →
        ∀ (c m : Nat), m + c = 4 → Lq X (callw X D') 230 16 [some (.inr (.inl 124)), some (.inl (nI T)), some (.inl (nI a)), some (.inl (nI Y)), some (.inl (nI (q_ua ts T Y m))), some (.inl (nI m))] (Gk n tot kn kx) M Q := by
      intro Y a hY ha Q hend c
      induction c with
      | zero =>
        intro m hm
        refine Lq.of (t_230_p124_16_ok X (callw X D') n tot kn kx _ _ _ _ _ M) ?_
        unfold t_230_p124_16
        have lua := q_ua_lt (ts := ts) (Y := Y) hT m
        have b4 := q_bc_16 Y hY
        have l2 : q_bc (q_un ts Y &&& T) ≤ 8 := cnt_le _ _
        simp only [o_nI]
        rw [if_neg (by rw [lt_i (by omega) (by omega)]; omega), c_bits (by omega) (by omega), bnd_some, c_bits (by omega) lua, bnd_some, show m = 4 by omega, q_ua_eq hts hY, nI_sub b4, nI_add, c_min (by omega), bnd_some, nI_min (by omega) (by omega), Wq_jmp, i1_nI, nI_add]
        exact hend
      | succ c ih =>
        intro m hm
        refine Lq.of (t_230_p124_16_ok X (callw X D') n tot kn kx _ _ _ _ _ M) ?_
        unfold t_230_p124_16
        have hn := ih (m + 1) (by omega)
        rw [q_ua] at hn
        simp only [o_nI]
        rw [if_pos (by rw [lt_i (by omega) (by omega)]; omega), c_isIn (by omega), bnd_some, q_bit_nI (by omega) (by omega)]
        cases hb : Y.testBit m with
        | false =>
          rw [hb, if_neg (by decide)] at hn
          rw [if_pos (by rfl), Wq_jmp, i1_nI, nI_add]
          exact hn
        | true =>
          rw [hb, if_pos rfl] at hn
          rw [if_neg (by decide +kernel), inb_nI (show m < 4 by omega) (by decide), if_pos rfl, nI_clamp (by omega), hM m (by omega), nI_and, nI_or, Wq_jmp, i1_nI, nI_add]
          exact hn
    have loop : ∀ (c Y : Nat), Y + c = 15 → Lq X (callw X D') 230 4 [some (.inr (.inl 124)), some (.inl (nI T)), some (.inl (nI (q_mn (fun Y => 4 - q_bc Y + q_bc (q_un ts Y &&& T)) Y))), some (.inl (nI (Y + 1))), none, none] (Gk n tot kn kx) M (fun y M' => y = nI (q_rank ts T) ∧ M' = M) := by
      intro c
      induction c with
      | zero =>
        intro Y hY
        refine Lq.of (t_230_p124_4_ok X (callw X D') n tot kn kx _ _ _ M) ?_
        unfold t_230_p124_4
        simp only [o_nI]
        rw [if_neg (by rw [lt_i (by omega) (by omega)]; omega), Wq_ret, show Y = 15 by omega]
        exact ⟨rfl, rfl⟩
      | succ c ih =>
        intro Y hY
        refine Lq.of (t_230_p124_4_ok X (callw X D') n tot kn kx _ _ _ M) ?_
        unfold t_230_p124_4
        simp only [o_nI]
        rw [if_pos (by rw [lt_i (by omega) (by omega)]; omega), Wq_jmp]
        exact inner (Y + 1) _ (by omega) (mle Y (by omega)) _ (ih (Y + 1) (by omega)) 4 0 (by omega)
    have e0 : q_mn (fun Y => 4 - q_bc Y + q_bc (q_un ts Y &&& T)) 0 = 4 := by
      show 4 - q_bc 0 + q_bc (q_un ts 0 &&& T) = 4
      have z : q_un ts 0 = 0 := sto_0.mpr (fun e _ => by
        cases h : q_any (fun w => (0 : Nat).testBit w && (ts w).testBit e) 8 with
        | false => rfl
        | true =>
          obtain ⟨w, _, hw⟩ := q_any_iff.mp h
          rw [Nat.zero_testBit] at hw; cases hw)
      rw [z, Nat.zero_and]
      decide +kernel
    have hl := loop 15 0 (by omega)
    rw [e0] at hl
    refine Lq.of (t_230_p124_0_ok X (callw X D') n tot kn kx _ M) ?_
    unfold t_230_p124_0
    simp only [o_nI]
    rw [Wq_jmp]
    exact hl))
/-- the tables as prepare leaves them -/
def PlP (W : Nat → Int32) (M : MMw) : Prop := (∀ m, m < 4 → M 125 m = nI (q_tsm W m)) ∧ ∀ x, x < 16 → M 127 x = nI (q_wks W x) ∧ M 126 x = nI (q_cpl W x)
end
