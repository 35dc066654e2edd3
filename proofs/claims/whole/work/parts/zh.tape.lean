section
-- needs: tokens
/-! the class splits the tape -/
variable {X : KXw} {n tot kn D : Nat} {kx : Nat → Nat × Nat} {M : MMw}
/-- the class's tape -/
def TpC (M : MMw) (tp : Nat → Nat) (L : Nat) : Prop := M 95 1 = nI L ∧ ∀ i, i < L → M 96 i = nI (tp i)
def k_ab (tp : Nat → Nat) (L i : Nat) : Nat := k_go (fun j => k_blk (tp j)) L i
def k_st (tp : Nat → Nat) (L p : Nat) : Nat := if k_let (tp p) = true then k_go (fun j => k_let (tp j)) L (p + 1) else if k_dig (tp p) = true then k_go (fun j => k_dig (tp j)) L (p + 1) else p + 1
theorem c_isLet (hD : 1 ≤ D) {c : Nat} (hc : c < 256) : callw X D 104 [.inl (nI c)] (Gk n tot kn kx) M = some (b2i (k_let c), Gk n tot kn kx, M) :=
  ex1 hD (fun cl => t_104_0_ok X cl n tot kn kx _ M) (fun cl => by
    unfold t_104_0 k_let
    simp only [o_nI]
    simp (disch := omega) only [lt_i, eq_i]
    by_cases h1 : c < 97
    · rw [if_pos h1, decide_eq_false (by omega), Bool.false_and, Bool.false_or]
      by_cases h2 : c < 65
      · rw [if_pos h2, decide_eq_false (by omega), Bool.false_and]; rfl
      · rw [if_neg h2, decide_eq_true (by omega), Bool.true_and]
        by_cases h3 : 90 < c
        · rw [if_pos h3, decide_eq_false (by omega)]; rfl
        · rw [if_neg h3, decide_eq_true (by omega)]; rfl
    · rw [if_neg h1, decide_eq_true (by omega), Bool.true_and]
      by_cases h2 : 122 < c
      · rw [if_pos h2, decide_eq_false (by omega), Bool.false_or, if_neg (by omega), if_pos (by omega), decide_eq_true (by omega), decide_eq_false (by omega)]; rfl
      · rw [if_neg h2, decide_eq_true (by omega), Bool.true_or]; rfl)
theorem c_isDig (hD : 1 ≤ D) {c : Nat} (hc : c < 256) : callw X D 105 [.inl (nI c)] (Gk n tot kn kx) M = some (b2i (k_dig c), Gk n tot kn kx, M) :=
  ex1 hD (fun cl => t_105_0_ok X cl n tot kn kx _ M) (fun cl => by
    unfold t_105_0 k_dig
    simp only [o_nI]
    simp (disch := omega) only [lt_i, eq_i]
    by_cases h1 : c < 48
    · rw [if_pos h1, decide_eq_false (by omega), Bool.false_and]; rfl
    · rw [if_neg h1, decide_eq_true (by omega), Bool.true_and]
      by_cases h2 : 57 < c
      · rw [if_pos h2, decide_eq_false (by omega)]; rfl
      · rw [if_neg h2, decide_eq_true (by omega)]; rfl)
theorem c_blanks (hD : 1 ≤ D) {tp : Nat → Nat} {L : Nat} (hL : L ≤ 400) (ht : ∀ i, i < L → tp i < 256) (hT : TpC M tp L) {i0 : Nat} (hi0 : i0 ≤ L) : callw X D 103 [.inr (.inl 95), .inl (nI i0)] (Gk n tot kn kx) M = some (nI (k_ab tp L i0), Gk n tot kn kx, M) :=
  Sq.eq (Sq.mk (k := 0) hD (fun D' hD' => by
    obtain ⟨t1, t2⟩ := hT
    have loop : ∀ (c i : Nat), i + c = L → Lq X (callw X D') 103 2 [some (.inr (.inl 95)), none, some (.inl (nI i))] (Gk n tot kn kx) M (fun x M1 => x = nI (k_ab tp L i) ∧ M1 = M) := by
      intro c
      induction c with
      | zero =>
        intro i hi
        refine Lq.of (t_103_p95_2_ok X (callw X D') n tot kn kx _ M) ?_
        unfold t_103_p95_2
        rw [t1, if_neg (by rw [lt_i (by omega) (by omega)]; omega), Wq_ret]
        unfold k_ab
        rw [k_go_e (fun hh => by omega)]
        exact ⟨rfl, rfl⟩
      | succ c ih =>
        intro i hi
        refine Lq.of (t_103_p95_2_ok X (callw X D') n tot kn kx _ M) ?_
        unfold t_103_p95_2
        have hb := ht i (by omega)
        have hn := ih (i + 1) (by omega)
        simp only [o_nI]
        rw [t1, if_pos (by rw [lt_i (by omega) (by omega)]; omega), inb_nI (show i < 400 by omega) (by decide)]
        simp only [if_true]
        rw [nI_clamp (by omega), t2 i (by omega)]
        simp (disch := omega) only [lt_i, eq_i]
        by_cases h1 : tp i = 32
        · rw [if_pos h1, Wq_jmp, i1_nI, nI_add]
          have e : k_ab tp L i = k_ab tp L (i + 1) := k_go_s (by omega) (by unfold k_blk; rw [decide_eq_true h1]; rfl)
          rw [e]; exact hn
        · rw [if_neg h1]
          by_cases h2 : tp i = 10
          · rw [if_pos h2, Wq_jmp, i1_nI, nI_add]
            have e : k_ab tp L i = k_ab tp L (i + 1) := k_go_s (by omega) (by unfold k_blk; rw [decide_eq_true h2, Bool.or_true])
            rw [e]; exact hn
          · rw [if_neg h2, Wq_ret]
            have e : k_ab tp L i = i := k_go_e (fun hh => by
              have := hh.2
              unfold k_blk at this
              rw [decide_eq_false h1, decide_eq_false h2] at this
              cases this)
            rw [e]; exact ⟨rfl, rfl⟩
    refine Lq.of (t_103_p95_0_ok X (callw X D') n tot kn kx _ M) ?_
    unfold t_103_p95_0
    rw [Wq_jmp]
    exact loop (L - i0) i0 (by omega)))
theorem c_afterToken (hD : 2 ≤ D) {tp : Nat → Nat} {L : Nat} (hL : L ≤ 400) (ht : ∀ i, i < L → tp i < 256) (hT : TpC M tp L) {p : Nat} (hp : p < L) : callw X D 106 [.inr (.inl 95), .inl (nI p)] (Gk n tot kn kx) M = some (nI (k_st tp L p), Gk n tot kn kx, M) :=
  Sq.eq (Sq.mk (k := 1) hD (fun D' hD' => by
    obtain ⟨t1, t2⟩ := hT
    have hb := ht p hp
    have lets : ∀ (c i : Nat), i + c = L → Lq X (callw X D') 106 16 [some (.inr (.inl 95)), none, some (.inl (nI i))] (Gk n tot kn kx) M (fun x M1 => x = nI (k_go (fun j => k_let (tp j)) L i) ∧ M1 = M) := by
      intro c
      induction c with
      | zero =>
        intro i hi
        refine Lq.of (t_106_p95_16_ok X (callw X D') n tot kn kx _ M) ?_
        unfold t_106_p95_16
        rw [t1, if_neg (by rw [lt_i (by omega) (by omega)]; omega), Wq_ret, k_go_e (fun hh => by omega)]
        exact ⟨rfl, rfl⟩
      | succ c ih =>
        intro i hi
        refine Lq.of (t_106_p95_16_ok X (callw X D') n tot kn kx _ M) ?_
        unfold t_106_p95_16
        have hbi := ht i (by omega)
        have hn := ih (i + 1) (by omega)
        rw [t1, if_pos (by rw [lt_i (by omega) (by omega)]; omega), inb_nI (show i < 400 by omega) (by decide), if_pos rfl, nI_clamp (by omega), t2 i (by omega), c_isLet hD' hbi, bnd_some]
        cases hl : k_let (tp i) with
        | false =>
          rw [if_pos (by rfl), Wq_ret, k_go_e (fun hh => by have := hh.2; rw [hl] at this; cases this)]
          exact ⟨rfl, rfl⟩
        | true =>
          rw [if_neg (by decide +kernel), Wq_jmp, i1_nI, nI_add, k_go_s (p := fun j => k_let (tp j)) (by omega) hl]
          exact hn
    have digs : ∀ (c i : Nat), i + c = L → Lq X (callw X D') 106 54 [some (.inr (.inl 95)), none, some (.inl (nI i))] (Gk n tot kn kx) M (fun x M1 => x = nI (k_go (fun j => k_dig (tp j)) L i) ∧ M1 = M) := by
      intro c
      induction c with
      | zero =>
        intro i hi
        refine Lq.of (t_106_p95_54_ok X (callw X D') n tot kn kx _ M) ?_
        unfold t_106_p95_54
        rw [t1, if_neg (by rw [lt_i (by omega) (by omega)]; omega), Wq_ret, k_go_e (fun hh => by omega)]
        exact ⟨rfl, rfl⟩
      | succ c ih =>
        intro i hi
        refine Lq.of (t_106_p95_54_ok X (callw X D') n tot kn kx _ M) ?_
        unfold t_106_p95_54
        have hbi := ht i (by omega)
        have hn := ih (i + 1) (by omega)
        rw [t1, if_pos (by rw [lt_i (by omega) (by omega)]; omega), inb_nI (show i < 400 by omega) (by decide), if_pos rfl, nI_clamp (by omega), t2 i (by omega), c_isDig hD' hbi, bnd_some]
        cases hl : k_dig (tp i) with
        | false =>
          rw [if_pos (by rfl), Wq_ret, k_go_e (fun hh => by have := hh.2; rw [hl] at this; cases this)]
          exact ⟨rfl, rfl⟩
        | true =>
          rw [if_neg (by decide +kernel), Wq_jmp, i1_nI, nI_add, k_go_s (p := fun j => k_dig (tp j)) (by omega) hl]
          exact hn
    have e1 : k_let (tp p) = true → k_st tp L p = k_go (fun j => k_let (tp j)) L (p + 1) := fun h => by unfold k_st; rw [if_pos h]
    have e2 : k_let (tp p) = false → k_dig (tp p) = true → k_st tp L p = k_go (fun j => k_dig (tp j)) L (p + 1) := fun h g => by unfold k_st; rw [if_neg (by rw [h]; decide), if_pos g]
    have e3 : k_let (tp p) = false → k_dig (tp p) = false → k_st tp L p = p + 1 := fun h g => by unfold k_st; rw [if_neg (by rw [h]; decide), if_neg (by rw [g]; decide)]
    refine Lq.of (t_106_p95_0_ok X (callw X D') n tot kn kx _ M) ?_
    unfold t_106_p95_0
    simp only [o_nI]
    rw [inb_nI (show p < 400 by omega) (by decide)]
    simp only [if_true]
    rw [nI_clamp (by omega), t2 p hp, c_isLet hD' hb, bnd_some]
    cases hl : k_let (tp p) with
    | true =>
      rw [if_neg (by decide +kernel), Wq_jmp, nI_add, e1 hl]
      exact lets (L - (p + 1)) (p + 1) (by omega)
    | false =>
      rw [if_pos (by rfl), t2 p hp, c_isDig hD' hb, bnd_some]
      cases hd : k_dig (tp p) with
      | true =>
        rw [if_neg (by decide +kernel), Wq_jmp, nI_add, e2 hl hd]
        exact digs (L - (p + 1)) (p + 1) (by omega)
      | false =>
        rw [if_pos (by rfl), Wq_ret, nI_add, e3 hl hd]
        exact ⟨rfl, rfl⟩))
def k_n4 (x : Nat) : Nat := if x ≤ 4 then x else 4
theorem k_n4_b (x : Nat) : k_n4 x ≤ 4 ∧ k_n4 x ≤ x ∧ (k_n4 x = x ∨ (4 < x ∧ k_n4 x = 4)) := by unfold k_n4; split <;> omega
/-- the first c digits from p on, as a number -/
def k_vI (tp : Nat → Nat) (p : Nat) : Nat → Int32
  | 0 => nI 0
  | c + 1 => nI 10 * k_vI tp p c + nI (tp (p + c)) - nI 48
def k_vn (tp : Nat → Nat) (p : Nat) : Nat → Nat
  | 0 => 0
  | c + 1 => 10 * k_vn tp p c + (tp (p + c) - 48)
theorem k_vn_lt {tp : Nat → Nat} {p : Nat} : ∀ {c : Nat}, (∀ j, j < c → k_dig (tp (p + j)) = true) → k_vn tp p c < 10 ^ c
  | 0, _ => by rw [k_vn]; decide
  | c + 1, h => by
    have h1 := k_vn_lt (tp := tp) (p := p) (c := c) (fun j hj => h j (by omega))
    have h2 := h c (Nat.lt_succ_self c)
    unfold k_dig at h2
    rw [Bool.and_eq_true, decide_eq_true_eq, decide_eq_true_eq] at h2
    rw [k_vn, Nat.pow_succ]
    omega
theorem k_vI_eq {tp : Nat → Nat} {p : Nat} : ∀ {c : Nat}, (∀ j, j < c → k_dig (tp (p + j)) = true) → k_vI tp p c = nI (k_vn tp p c)
  | 0, _ => rfl
  | c + 1, h => by
    have h2 := h c (Nat.lt_succ_self c)
    unfold k_dig at h2
    rw [Bool.and_eq_true, decide_eq_true_eq, decide_eq_true_eq] at h2
    rw [k_vI, k_vn, k_vI_eq (fun j hj => h j (by omega)), nI_mul, nI_add, nI_sub (by omega)]
    congr 1
    omega
theorem c_valueOf (hD : 1 ≤ D) {tp : Nat → Nat} {L : Nat} (hL : L ≤ 400) (hT : TpC M tp L) {p e : Nat} (he : e ≤ L) (hp : p ≤ e) : callw X D 122 [.inr (.inl 95), .inl (nI p), .inl (nI e)] (Gk n tot kn kx) M = some (k_vI tp p (k_n4 (e - p)), Gk n tot kn kx, M) :=
  Sq.eq (Sq.mk (k := 0) hD (fun D' hD' => by
    obtain ⟨t1, t2⟩ := hT
    have h4 := k_n4_b (e - p)
    have loop : ∀ (c a : Nat), a + c = (k_n4 (e - p)) → Lq X (callw X D') 122 5 [some (.inr (.inl 95)), some (.inl (nI p)), some (.inl (nI e)), some (.inl (k_vI tp p a)), some (.inl (nI (p + a)))] (Gk n tot kn kx) M (fun x M1 => x = k_vI tp p (k_n4 (e - p)) ∧ M1 = M) := by
      intro c
      induction c with
      | zero =>
        intro a ha
        refine Lq.of (t_122_p95_5_ok X (callw X D') n tot kn kx _ _ _ _ M) ?_
        unfold t_122_p95_5
        rw [o_nI, nI_add]
        simp (disch := omega) only [lt_i, eq_i]
        rw [← ha]
        by_cases h1 : p + a < e
        · rw [if_pos h1, if_neg (by omega), Wq_ret]
          exact ⟨rfl, rfl⟩
        · rw [if_neg h1, Wq_ret]
          exact ⟨rfl, rfl⟩
      | succ c ih =>
        intro a ha
        refine Lq.of (t_122_p95_5_ok X (callw X D') n tot kn kx _ _ _ _ M) ?_
        unfold t_122_p95_5
        have h1 : p + a < e ∧ a < 4 := by omega
        simp only [o_nI]
        rw [nI_add]
        simp (disch := omega) only [lt_i, eq_i]
        rw [if_pos h1.1, if_pos (by omega), inb_nI (show p + a < 400 by omega) (by decide), if_pos rfl, nI_clamp (by omega), t2 (p + a) (by omega), Wq_jmp, i1_nI, nI_add]
        exact ih (a + 1) (by omega)
    refine Lq.of (t_122_p95_0_ok X (callw X D') n tot kn kx _ _ M) ?_
    unfold t_122_p95_0
    rw [Wq_jmp]
    exact loop _ 0 (Nat.zero_add _)))
/-! words -/
/-- is the word from p to e the constant j -/
def k_is (tp : Nat → Nat) (p e j : Nat) : Bool := decide (e - p = k_ln j) && !q_any (fun i => !decide (tp (p + i) = k_ch j i)) (k_ln j)
/-- where the word w begins in the list of words, and which constant it is -/
def k_ws (w : Nat) : Nat := [0, 5, 10, 15, 20, 25, 30, 33, 37, 41, 47, 52, 58, 64, 69, 74, 81, 86, 94, 101, 106, 112, 118, 123, 127, 132].getD w 136
def k_wj (w : Nat) : Nat := [6, 7, 8, 9, 10, 2, 3, 4, 5, 11, 12, 13, 14, 15, 16, 17, 18, 19, 20, 21, 22, 23, 24, 25, 26, 27].getD w 0
theorem k_ws_ok : ∀ w, w < 26 → k_wj w < 28 ∧ k_ws (w + 1) = k_ws w + k_ln (k_wj w) + 1 ∧ k_ws w + k_ln (k_wj w) < k_ln 0 ∧ k_ch 0 (k_ws w + k_ln (k_wj w)) = 32 ∧ 1 ≤ k_ln (k_wj w) ∧ ∀ i, i < k_ln (k_wj w) → k_ch 0 (k_ws w + i) = k_ch (k_wj w) i ∧ k_ch 0 (k_ws w + i) ≠ 32 := by decide +kernel
theorem k_ws_26 : k_ws 26 = k_ln 0 := by decide +kernel
theorem k_ln0 : k_ln 0 = 136 := by decide +kernel
/-- the word's number in the list -/
def k_wd (tp : Nat → Nat) (p e : Nat) : Option Nat := q_find (fun w => k_is tp p e (k_wj w)) 26
theorem c_isSpelled (hD : 5 ≤ D) {tp : Nat → Nat} {L w : Nat} (hL : L ≤ 400) (hw : w < 26) (ht : ∀ i, i < L → tp i < 256) (hT : TpC M tp L) {p e : Nat} (he : e ≤ L) (hp : p ≤ e) (hl : e - p = k_ln (k_wj w)) : callw X D 114 [.inr (.inl 95), .inl (nI p), .inl (nI e), .inl (nI (k_ws w))] (Gk n tot kn kx) M = some (b2i (k_is tp p e (k_wj w)), Gk n tot kn kx, M) :=
  Sq.eq (Sq.mk (k := 4) hD (fun D' hD' => by
    obtain ⟨t1, t2⟩ := hT
    obtain ⟨g1, g2, g3, g4, g5, g6⟩ := k_ws_ok w hw
    have h0 := k_ln0
    have loop : ∀ (c a : Nat), a + c = e - p → (∀ i, i < a → tp (p + i) = k_ch (k_wj w) i) → Lq X (callw X D') 114 3 [some (.inr (.inl 95)), some (.inl (nI p)), some (.inl (nI e)), some (.inl (nI (k_ws w))), some (.inl (nI (p + a)))] (Gk n tot kn kx) M (fun x M1 => x = b2i (k_is tp p e (k_wj w)) ∧ M1 = M) := by
      intro c
      induction c with
      | zero =>
        intro a ha hs
        refine Lq.of (t_114_p95_3_ok X (callw X D') n tot kn kx _ _ _ _ M) ?_
        unfold t_114_p95_3
        rw [if_neg (by rw [lt_i (by omega) (by omega)]; omega), Wq_ret]
        refine ⟨?_, rfl⟩
        have : k_is tp p e (k_wj w) = true := by
          unfold k_is
          rw [decide_eq_true hl, Bool.true_and, Bool.not_eq_true']
          cases hq : q_any (fun i => !decide (tp (p + i) = k_ch (k_wj w) i)) (k_ln (k_wj w)) with
          | false => rfl
          | true =>
            obtain ⟨i, i1, i2⟩ := q_any_iff.mp hq
            rw [decide_eq_true (hs i (by omega))] at i2
            cases i2
        rw [this]
        rfl
      | succ c ih =>
        intro a ha hs
        refine Lq.of (t_114_p95_3_ok X (callw X D') n tot kn kx _ _ _ _ M) ?_
        unfold t_114_p95_3
        have hb := ht (p + a) (by omega)
        obtain ⟨g7, g8⟩ := g6 a (by omega)
        obtain ⟨_, _, _, hch⟩ := k_ch_ok _ g1 a (by omega)
        rw [if_pos (by rw [lt_i (by omega) (by omega)]; omega), inb_nI (show p + a < 400 by omega) (by decide), if_pos rfl, nI_add, nI_sub (by omega), show k_ws w + (p + a) - p = k_ws w + a by omega, c_charAt (by omega) (by decide) (by omega), bnd_some, nI_clamp (by omega), t2 (p + a) (by omega), g7]
        simp (disch := omega) only [lt_i, eq_i]
        by_cases h1 : tp (p + a) = k_ch (k_wj w) a
        · rw [if_pos h1, Wq_jmp, i1_nI, nI_add]
          refine ih (a + 1) (by omega) (fun i hi => ?_)
          by_cases e1 : i = a
          · rw [e1]; exact h1
          · exact hs i (by omega)
        · rw [if_neg h1, Wq_ret]
          refine ⟨?_, rfl⟩
          have : k_is tp p e (k_wj w) = false := by
            unfold k_is
            rw [q_any_iff.mpr ⟨a, by omega, by rw [decide_eq_false h1]; rfl⟩]
            exact Bool.and_false _
          rw [this]
          rfl
    refine Lq.of (t_114_p95_0_ok X (callw X D') n tot kn kx _ _ _ M) ?_
    unfold t_114_p95_0
    rw [Wq_jmp]
    exact loop (e - p) 0 (by omega) (fun i hi => absurd hi (Nat.not_lt_zero i))))
theorem c_wordOf (hD : 6 ≤ D) {tp : Nat → Nat} {L : Nat} (hL : L ≤ 400) (ht : ∀ i, i < L → tp i < 256) (hT : TpC M tp L) {p e : Nat} (he : e ≤ L) (hp : p ≤ e) : callw X D 115 [.inr (.inl 95), .inl (nI p), .inl (nI e)] (Gk n tot kn kx) M = some (nI (match k_wd tp p e with | none => 1 | some w => 100 + w), Gk n tot kn kx, M) :=
  Sq.eq (Sq.mk (k := 5) hD (fun D' hD' => by
    have h0 := k_ln0
    have loop : ∀ (c i w : Nat), i + c = 136 → w ≤ 26 → k_ws w ≤ i → (w < 26 → i ≤ k_ws w + k_ln (k_wj w)) → (∀ v, v < w → k_is tp p e (k_wj v) = false) → Lq X (callw X D') 115 9 [some (.inr (.inl 95)), some (.inl (nI p)), some (.inl (nI e)), some (.inl (nI (100 + w))), some (.inl (nI (k_ws w))), some (.inl (nI i))] (Gk n tot kn kx) M (fun x M1 => x = nI (match k_wd tp p e with | none => 1 | some w => 100 + w) ∧ M1 = M) := by
      intro c
      induction c with
      | zero =>
        intro i w hi hw hs hs2 hno
        refine Lq.of (t_115_p95_9_ok X (callw X D') n tot kn kx _ _ _ _ _ M) ?_
        unfold t_115_p95_9
        rw [c_length (by omega) (by decide), bnd_some, h0, if_neg (by rw [lt_i (by omega) (by omega)]; omega), Wq_ret]
        have hw26 : w = 26 := by
          by_cases hl : w < 26
          · have := (k_ws_ok w hl).2.2.1
            have := hs2 hl
            omega
          · omega
        subst hw26
        have : k_wd tp p e = none := q_find_none.mpr hno
        rw [this]
        exact ⟨rfl, rfl⟩
      | succ c ih =>
        intro i w hi hw hs hs2 hno
        refine Lq.of (t_115_p95_9_ok X (callw X D') n tot kn kx _ _ _ _ _ M) ?_
        unfold t_115_p95_9
        have hw26 : w < 26 := by
          by_cases hl : w < 26
          · exact hl
          · have e1 : w = 26 := by omega
            rw [e1, k_ws_26] at hs
            omega
        obtain ⟨g1, g2, g3, g4, g5, g6⟩ := k_ws_ok w hw26
        obtain ⟨_, _, _, hch⟩ := k_ch_ok 0 (by decide) i (by omega)
        have hs3 := hs2 hw26
        have nextw : k_is tp p e (k_wj w) = false → i = k_ws w + k_ln (k_wj w) → Lq X (callw X D') 115 9 [some (.inr (.inl 95)), some (.inl (nI p)), some (.inl (nI e)), some (.inl (nI (100 + w + 1))), some (.inl (nI (i + 1))), some (.inl (nI (i + 1)))] (Gk n tot kn kx) M (fun x M1 => x = nI (match k_wd tp p e with | none => 1 | some w => 100 + w) ∧ M1 = M) := fun hno2 hi2 => by
          have h := ih (i + 1) (w + 1) (by omega) (by omega) (by omega) (fun _ => by omega) (fun v hv => by
            by_cases e1 : v = w
            · rw [e1]; exact hno2
            · exact hno v (by omega))
          rw [g2, ← hi2] at h
          exact h
        simp only [o_nI]
        rw [c_length (by omega) (by decide), bnd_some, h0, if_pos (by rw [lt_i (by omega) (by omega)]; omega), c_charAt (by omega) (by decide) (by omega), bnd_some]
        simp (disch := omega) only [lt_i, eq_i]
        by_cases h1 : k_ch 0 i = 32
        · have hi2 : i = k_ws w + k_ln (k_wj w) := by
            by_cases hl : i = k_ws w + k_ln (k_wj w)
            · exact hl
            · have h5 := (g6 (i - k_ws w) (by omega)).2
              rw [show k_ws w + (i - k_ws w) = i by omega] at h5
              exact absurd h1 h5
          rw [if_pos h1, nI_sub (by omega), nI_sub hp]
          simp (disch := omega) only [lt_i, eq_i]
          by_cases h2 : i - k_ws w = e - p
          · rw [if_pos h2, c_isSpelled hD' hL hw26 ht hT he hp (by omega), bnd_some]
            cases hk : k_is tp p e (k_wj w) with
            | false =>
              rw [if_pos (by rfl), Wq_jmp, i1_nI, nI_add, nI_add]
              exact nextw hk hi2
            | true =>
              rw [if_neg (by decide +kernel), Wq_ret]
              have : k_wd tp p e = some w := q_find_at hno hk hw26
              rw [this]
              exact ⟨rfl, rfl⟩
          · rw [if_neg h2, Wq_jmp, i1_nI, nI_add, nI_add]
            refine nextw ?_ hi2
            unfold k_is
            rw [decide_eq_false (by omega), Bool.false_and]
        · rw [if_neg h1, Wq_jmp, i1_nI, nI_add]
          exact ih (i + 1) w (by omega) hw (by omega) (fun _ => by
            by_cases hl : i = k_ws w + k_ln (k_wj w)
            · rw [hl] at h1; exact absurd g4 h1
            · omega) hno
    refine Lq.of (t_115_p95_0_ok X (callw X D') n tot kn kx _ _ M) ?_
    unfold t_115_p95_0
    rw [Wq_jmp]
    exact loop 136 0 0 (by omega) (by decide) (by decide) (fun _ => Nat.zero_le _) (fun v hv => absurd hv (Nat.not_lt_zero v))))
end
