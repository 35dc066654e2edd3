section
-- needs: split
/-! the reference's tokens -/
variable {X : KXw} {n tot kn D : Nat} {kx : Nat → Nat × Nat} {M : MMw}
/-- the reference's tape -/
def TpM (M : MMw) (tp : Nat → Nat) (L : Nat) : Prop := M 178 16 = nI L ∧ ∀ i, i < L → M 186 i = nI (tp i)
/-- of the reference's own cells only these change -/
def F8 (fs : List Nat) (M M' : MMw) : Prop := Fr [178] M M' ∧ ∀ k, k ∉ fs → M' 178 k = M 178 k
theorem F8.rf {fs : List Nat} {M : MMw} : F8 fs M M := ⟨Fr.rf, fun _ _ => rfl⟩
theorem F8.tr {fs : List Nat} {M M1 M2 : MMw} (h : F8 fs M M1) (g : F8 fs M1 M2) : F8 fs M M2 := ⟨h.1.tr g.1, fun k hk => (g.2 k hk).trans (h.2 k hk)⟩
theorem F8.up {fs : List Nat} {M M' : MMw} {k : Nat} {v : Int32} (h : F8 fs M M') (hk : k ∈ fs) : F8 fs M (up M' 178 k v) := ⟨h.1.up (by decide), fun j hj => by
  rw [up_at, upW_n (fun e => hj (by rw [e]; exact hk))]
  exact h.2 j hj⟩
theorem F8.mono {fs gs : List Nat} {M M' : MMw} (h : F8 fs M M') (hs : ∀ k, k ∈ fs → k ∈ gs) : F8 gs M M' := ⟨h.1, fun k hk => h.2 k (fun hh => hk (hs k hh))⟩
theorem TpM.f8 {fs : List Nat} {M M' : MMw} {tp : Nat → Nat} {L : Nat} (h : F8 fs M M') (hs : 16 ∉ fs) (hT : TpM M tp L) : TpM M' tp L := ⟨by rw [h.2 16 hs]; exact hT.1, fun i hi => by rw [h.1 186 (by decide)]; exact hT.2 i hi⟩
def k_see (tp : Nat → Nat) (L i : Nat) : Int32 := if i < L then nI (tp i) else -1
theorem m_see (hD : 1 ≤ D) {tp : Nat → Nat} {L i : Nat} (hL : L ≤ 400) (hi : i ≤ L) (hT : TpM M tp L) : callw X D 147 [.inr (.inl 178), .inl (nI i)] (Gk n tot kn kx) M = some (k_see tp L i, Gk n tot kn kx, M) :=
  ex1 hD (fun cl => t_147_0_ok X cl n tot kn kx _ M) (fun cl => by
    unfold t_147_0 k_see
    rw [hT.1]
    simp (disch := omega) only [lt_i, eq_i]
    by_cases h : i < L
    · rw [if_pos h, if_pos h, inb_nI (show i < 400 by omega) (by decide), if_pos rfl, nI_clamp (by omega), hT.2 i h]
    · rw [if_neg h, if_neg h, o_nI, m1n])
theorem m_isLet (hD : 2 ≤ D) {tp : Nat → Nat} {L i : Nat} (ht : ∀ i, i < L → tp i < 256) : callw X D 148 [.inl (k_see tp L i)] (Gk n tot kn kx) M = some (b2i (decide (i < L) && k_let (tp i)), Gk n tot kn kx, M) :=
  exk (k := 1) hD (fun D' _ => t_148_0_ok X (callw X D') n tot kn kx _ M) (fun D' hD' => by
    unfold t_148_0 k_see k_let
    simp only [o_nI, z_nI]
    by_cases h : i < L
    · have hb := ht i h
      rw [if_pos h, m_isIn hD', bnd_some, decide_eq_true h, Bool.true_and]
      simp (disch := omega) only [lt_i, eq_i]
      by_cases h1 : tp i < 97
      · rw [if_pos h1, if_pos rfl, m_isIn hD', bnd_some]
        simp (disch := omega) only [lt_i, eq_i]
        rw [decide_eq_false (show ¬ 97 ≤ tp i by omega), Bool.false_and, Bool.false_or]
        by_cases h2 : tp i < 65
        · rw [if_pos h2, if_pos rfl, decide_eq_false (by omega), Bool.false_and]; rfl
        · rw [if_neg h2, decide_eq_true (by omega), Bool.true_and]
          by_cases h3 : 90 < tp i
          · rw [if_pos h3, if_pos rfl, decide_eq_false (by omega)]; rfl
          · rw [if_neg h3, if_neg (by decide +kernel), decide_eq_true (by omega)]; rfl
      · rw [if_neg h1]
        by_cases h4 : 122 < tp i
        · rw [if_pos h4, if_pos rfl, m_isIn hD', bnd_some]
          simp (disch := omega) only [lt_i]
          rw [if_neg (show ¬ tp i < 65 by omega), if_pos (show 90 < tp i by omega), if_pos rfl, decide_eq_false (show ¬ tp i ≤ 122 by omega), decide_eq_false (show ¬ tp i ≤ 90 by omega), Bool.and_false, Bool.and_false]; rfl
        · rw [if_neg h4, if_neg (by decide +kernel), decide_eq_true (show 97 ≤ tp i by omega), decide_eq_true (show tp i ≤ 122 by omega)]; rfl
    · rw [if_neg h, m_isIn hD', bnd_some, if_pos (show (-1 : Int32) < nI 97 by rw [m1_lt (by omega)]; trivial), if_pos rfl, m_isIn hD', bnd_some, if_pos (show (-1 : Int32) < nI 65 by rw [m1_lt (by omega)]; trivial), if_pos rfl, decide_eq_false h]; rfl)
theorem m_isDig (hD : 2 ≤ D) {tp : Nat → Nat} {L i : Nat} (ht : ∀ i, i < L → tp i < 256) : callw X D 155 [.inl (k_see tp L i)] (Gk n tot kn kx) M = some (b2i (decide (i < L) && k_dig (tp i)), Gk n tot kn kx, M) :=
  exk (k := 1) hD (fun D' _ => t_155_0_ok X (callw X D') n tot kn kx _ M) (fun D' hD' => by
    have e : (if k_see tp L i < nI 48 then nI 0 else if nI 57 < k_see tp L i then nI 0 else nI 1) = b2i (decide (i < L) && k_dig (tp i)) := by
      unfold k_see k_dig
      by_cases h : i < L
      · have hb := ht i h
        rw [if_pos h, decide_eq_true h, Bool.true_and]
        simp (disch := omega) only [lt_i, eq_i]
        by_cases h1 : tp i < 48
        · rw [if_pos h1, decide_eq_false (by omega), Bool.false_and]; rfl
        · rw [if_neg h1, decide_eq_true (by omega), Bool.true_and]
          by_cases h2 : 57 < tp i
          · rw [if_pos h2, decide_eq_false (by omega)]; rfl
          · rw [if_neg h2, decide_eq_true (by omega)]; rfl
      · rw [if_neg h, if_pos (show (-1 : Int32) < nI 48 by rw [m1_lt (by omega)]; trivial), decide_eq_false h]; rfl
    unfold t_155_0
    simp only [o_nI]
    rw [m_isIn hD', bnd_some, e, b2i_nrw, if_pos rfl])
theorem m_isw (hD : 5 ≤ D) {tp : Nat → Nat} {L p e j : Nat} (hj : j < 28) (hL : L ≤ 400) (ht : ∀ i, i < L → tp i < 256) (hT : TpM M tp L) (hp : p ≤ e) (he : e ≤ L) (h17 : M 178 17 = nI e) (h19 : M 178 19 = nI p) : callw X D 149 [.inr (.inl 178), .inr (.inr j)] (Gk n tot kn kx) M = some (b2i (k_is tp p e j), Gk n tot kn kx, M) :=
  Sq.eq (Sq.mk (k := 4) hD (fun D' hD' => by
    have hln := k_ln_lt j hj
    have done : ∀ k, k ≤ k_ln j → k_is tp p e j = false → Lq X (callw X D') 149 24 [some (.inr (.inl 178)), some (.inr (.inr j)), some (.inl (nI 0)), some (.inl (nI k))] (Gk n tot kn kx) M (fun x M1 => x = b2i (k_is tp p e j) ∧ M1 = M) := fun k hk hf => by
      refine Lq.of (t_149_cj_24_ok X (callw X D') n tot kn kx j _ _ M) ?_
      unfold t_149_cj_24
      rw [if_pos (by omega), if_pos ⟨by decide, by unfold rcv; simp [hj]⟩, c_length (by omega) hj, bnd_some]
      simp (disch := omega) only [lt_i, eq_i]
      by_cases h : k < k_ln j
      · rw [if_pos h, if_pos (by rfl), if_pos (by decide +kernel), Wq_ret, hf]
        exact ⟨rfl, rfl⟩
      · rw [if_neg h, if_pos (by decide +kernel), Wq_ret, hf]
        exact ⟨rfl, rfl⟩
    have loop : ∀ (c k : Nat), k + c = k_ln j → e - p = k_ln j → (∀ i, i < k → tp (p + i) = k_ch j i) → Lq X (callw X D') 149 24 [some (.inr (.inl 178)), some (.inr (.inr j)), some (.inl (nI 1)), some (.inl (nI k))] (Gk n tot kn kx) M (fun x M1 => x = b2i (k_is tp p e j) ∧ M1 = M) := by
      intro c
      induction c with
      | zero =>
        intro k hk hl hs
        refine Lq.of (t_149_cj_24_ok X (callw X D') n tot kn kx j _ _ M) ?_
        unfold t_149_cj_24
        rw [if_pos (by omega), if_pos ⟨by decide, by unfold rcv; simp [hj]⟩, c_length (by omega) hj, bnd_some]
        simp (disch := omega) only [lt_i, eq_i]
        rw [if_neg (by omega), if_pos (by decide +kernel), Wq_ret]
        refine ⟨?_, rfl⟩
        have : k_is tp p e j = true := by
          unfold k_is
          rw [decide_eq_true hl, Bool.true_and, Bool.not_eq_true']
          cases hq : q_any (fun i => !decide (tp (p + i) = k_ch j i)) (k_ln j) with
          | false => rfl
          | true =>
            obtain ⟨i, i1, i2⟩ := q_any_iff.mp hq
            rw [decide_eq_true (hs i (by omega))] at i2
            cases i2
        rw [this]
        rfl
      | succ c ih =>
        intro k hk hl hs
        refine Lq.of (t_149_cj_24_ok X (callw X D') n tot kn kx j _ _ M) ?_
        unfold t_149_cj_24
        have hb := ht (p + k) (by omega)
        obtain ⟨_, _, _, hch⟩ := k_ch_ok j hj k (by omega)
        rw [if_pos (by omega), if_pos ⟨by decide, by unfold rcv; simp [hj]⟩, c_length (by omega) hj, bnd_some]
        simp (disch := omega) only [lt_i, eq_i]
        rw [if_pos (by omega), if_neg (by decide +kernel), h19, nI_add, inb_nI (show p + k < 400 by omega) (by decide), if_pos rfl, if_pos (by omega), if_pos ⟨by decide, by unfold rcv; simp [hj]⟩, c_charAt hD' hj (by omega), bnd_some, nI_clamp (by omega), hT.2 (p + k) (by omega)]
        simp (disch := omega) only [lt_i, eq_i]
        by_cases h1 : tp (p + k) = k_ch j k
        · rw [if_pos h1, Wq_jmp, i1_nI, nI_add]
          refine ih (k + 1) (by omega) hl (fun i hi => ?_)
          by_cases e1 : i = k
          · rw [e1]; exact h1
          · exact hs i (by omega)
        · rw [if_neg h1, Wq_jmp, i1_nI, nI_add]
          refine done (k + 1) (by omega) ?_
          unfold k_is
          rw [q_any_iff.mpr ⟨k, by omega, by rw [decide_eq_false h1]; rfl⟩]
          exact Bool.and_false _
    refine Lq.of (t_149_cj_0_ok X (callw X D') n tot kn kx j M) ?_
    unfold t_149_cj_0
    rw [if_pos (by omega), if_pos ⟨by decide, by unfold rcv; simp [hj]⟩, c_length (by omega) hj, bnd_some, h17, h19, nI_sub hp]
    simp (disch := omega) only [lt_i, eq_i]
    by_cases hl : e - p = k_ln j
    · rw [if_pos hl, Wq_jmp]
      exact loop (k_ln j) 0 (Nat.zero_add _) hl (fun i hi => absurd hi (Nat.not_lt_zero i))
    · rw [if_neg hl, Wq_jmp]
      exact done 0 (Nat.zero_le _) (by unfold k_is; rw [decide_eq_false hl, Bool.false_and])))
/-! words -/
theorem k_two : ∀ w, w < 26 → ∀ v, v < 26 → k_ln (k_wj w) = k_ln (k_wj v) → (∀ i, i < k_ln (k_wj w) → k_ch (k_wj w) i = k_ch (k_wj v) i) → w = v := by decide +kernel
/-- the word's number, 26: none -/
def k_wq (tp : Nat → Nat) (p e : Nat) : Nat := match k_wd tp p e with | none => 26 | some w => w
theorem k_is_t {tp : Nat → Nat} {p e j : Nat} (h : k_is tp p e j = true) : e - p = k_ln j ∧ ∀ i, i < k_ln j → tp (p + i) = k_ch j i := by
  unfold k_is at h
  rw [Bool.and_eq_true, decide_eq_true_eq, Bool.not_eq_true'] at h
  refine ⟨h.1, fun i hi => Classical.byContradiction (fun hn => ?_)⟩
  rw [q_any_iff.mpr ⟨i, hi, by rw [decide_eq_false hn]; rfl⟩] at h
  cases h.2
theorem k_wq_is {tp : Nat → Nat} {p e : Nat} : k_wq tp p e ≤ 26 ∧ ∀ w, w < 26 → k_is tp p e (k_wj w) = decide (k_wq tp p e = w) := by
  unfold k_wq
  cases ho : k_wd tp p e with
  | none =>
    refine ⟨Nat.le_refl _, fun w hw => ?_⟩
    rw [q_find_none.mp ho w hw, decide_eq_false (show ¬ (26 = w) by omega)]
  | some v =>
    obtain ⟨v1, v2, v3⟩ := q_find_some ho
    refine ⟨Nat.le_of_lt v1, fun w hw => ?_⟩
    by_cases e1 : v = w
    · subst e1
      rw [v2, decide_eq_true rfl]
    · rw [decide_eq_false e1]
      cases hk : k_is tp p e (k_wj w) with
      | false => rfl
      | true =>
        obtain ⟨a1, a2⟩ := k_is_t hk
        obtain ⟨b1, b2⟩ := k_is_t v2
        exact absurd (k_two v v1 w hw (by omega) (fun i hi => by rw [← b2 i hi, ← a2 i (by omega)])) e1
/-- the reference's number of a token that the class has as c -/
def k_mt (rd c : Nat) : Nat :=
  if c ≤ 2 then c else if c < 100 then 100 + c
  else if rd < 2 then (if c = 100 then (if rd = 0 then 20 else 1) else if c = 101 then (if rd = 0 then 21 else 1) else if c = 102 then (if rd = 1 then 22 else 1) else if c = 103 then (if rd = 1 then 23 else 1) else if c = 104 then (if rd = 1 then 24 else 1) else if c = 105 then 3 else if c = 106 then 4 else if c = 107 then 5 else if c = 108 then 6 else if c ≤ 118 then c - 68 else 1)
  else if rd = 2 then (if c = 119 then 7 else if c = 120 then 8 else if c = 121 then 9 else 1)
  else (if c = 122 then 10 else if c = 123 then 11 else if c = 119 then 7 else if c = 124 then 12 else if c = 125 then 13 else 1)
def k_cw (q : Nat) : Nat := if q < 26 then 100 + q else 1
theorem k_cw_eq {tp : Nat → Nat} {p e : Nat} : (match k_wd tp p e with | none => 1 | some w => 100 + w) = k_cw (k_wq tp p e) := by
  unfold k_wq k_cw
  cases ho : k_wd tp p e with
  | none => rfl
  | some w => exact (if_pos (q_find_some ho).1).symm
def k_iw (j : Nat) : Nat := if j < 6 then j + 3 else if j < 11 then j - 6 else j - 2
theorem k_iw_ok : ∀ j, j < 28 → 2 ≤ j → k_iw j < 26 ∧ k_wj (k_iw j) = j := by decide +kernel
/-- what a word is asked for -/
abbrev IsQ (X : KXw) (D : Nat) (G : GGw) (M : MMw) (q : Nat) : Prop := ∀ j, j < 28 → 2 ≤ j → callw X D 149 [.inr (.inl 178), .inr (.inr j)] G M = some (b2i (decide (q = k_iw j)), G, M)
theorem m_isQ (hD : 5 ≤ D) {tp : Nat → Nat} {L p e : Nat} (hL : L ≤ 400) (ht : ∀ i, i < L → tp i < 256) (hT : TpM M tp L) (hp : p ≤ e) (he : e ≤ L) (h17 : M 178 17 = nI e) (h19 : M 178 19 = nI p) : IsQ X D (Gk n tot kn kx) M (k_wq tp p e) := fun j hj hj2 => by
  obtain ⟨g1, g2⟩ := k_iw_ok j hj hj2
  have h := k_wq_is (tp := tp) (p := p) (e := e)
  rw [m_isw hD hj hL ht hT hp he h17 h19, ← h.2 _ g1, g2]
def k_asked (q : Nat) : Nat := if 9 ≤ q ∧ q ≤ 18 then q + 32 else 1
theorem m_asked (hD : 6 ≤ D) {q : Nat} (h : ∀ D', 5 ≤ D' → IsQ X D' (Gk n tot kn kx) M q) : callw X D 150 [.inr (.inl 178)] (Gk n tot kn kx) M = some (nI (k_asked q), Gk n tot kn kx, M) :=
  exk (k := 5) hD (fun D' _ => t_150_0_ok X (callw X D') n tot kn kx M) (fun D' hD' => by
    have his := h D' hD'
    unfold t_150_0
    rw [his 11 (by decide) (by decide), bnd_some]
    by_cases h11 : q = 9
    · rw [decide_eq_true (show q = k_iw 11 from h11), if_neg (by decide +kernel), h11]; rfl
    rw [decide_eq_false (show ¬ q = k_iw 11 from h11), if_pos (by rfl)]
    rw [his 12 (by decide) (by decide), bnd_some]
    by_cases h12 : q = 10
    · rw [decide_eq_true (show q = k_iw 12 from h12), if_neg (by decide +kernel), h12]; rfl
    rw [decide_eq_false (show ¬ q = k_iw 12 from h12), if_pos (by rfl)]
    rw [his 13 (by decide) (by decide), bnd_some]
    by_cases h13 : q = 11
    · rw [decide_eq_true (show q = k_iw 13 from h13), if_neg (by decide +kernel), h13]; rfl
    rw [decide_eq_false (show ¬ q = k_iw 13 from h13), if_pos (by rfl)]
    rw [his 14 (by decide) (by decide), bnd_some]
    by_cases h14 : q = 12
    · rw [decide_eq_true (show q = k_iw 14 from h14), if_neg (by decide +kernel), h14]; rfl
    rw [decide_eq_false (show ¬ q = k_iw 14 from h14), if_pos (by rfl)]
    rw [his 15 (by decide) (by decide), bnd_some]
    by_cases h15 : q = 13
    · rw [decide_eq_true (show q = k_iw 15 from h15), if_neg (by decide +kernel), h15]; rfl
    rw [decide_eq_false (show ¬ q = k_iw 15 from h15), if_pos (by rfl)]
    rw [his 16 (by decide) (by decide), bnd_some]
    by_cases h16 : q = 14
    · rw [decide_eq_true (show q = k_iw 16 from h16), if_neg (by decide +kernel), h16]; rfl
    rw [decide_eq_false (show ¬ q = k_iw 16 from h16), if_pos (by rfl)]
    rw [his 17 (by decide) (by decide), bnd_some]
    by_cases h17 : q = 15
    · rw [decide_eq_true (show q = k_iw 17 from h17), if_neg (by decide +kernel), h17]; rfl
    rw [decide_eq_false (show ¬ q = k_iw 17 from h17), if_pos (by rfl)]
    rw [his 18 (by decide) (by decide), bnd_some]
    by_cases h18 : q = 16
    · rw [decide_eq_true (show q = k_iw 18 from h18), if_neg (by decide +kernel), h18]; rfl
    rw [decide_eq_false (show ¬ q = k_iw 18 from h18), if_pos (by rfl)]
    rw [his 19 (by decide) (by decide), bnd_some]
    by_cases h19 : q = 17
    · rw [decide_eq_true (show q = k_iw 19 from h19), if_neg (by decide +kernel), h19]; rfl
    rw [decide_eq_false (show ¬ q = k_iw 19 from h19), if_pos (by rfl)]
    rw [his 20 (by decide) (by decide), bnd_some]
    by_cases h20 : q = 18
    · rw [decide_eq_true (show q = k_iw 20 from h20), if_neg (by decide +kernel), h20]; rfl
    rw [decide_eq_false (show ¬ q = k_iw 20 from h20), if_pos (by rfl)]
    rw [show k_asked q = 1 by
      unfold k_asked
      rw [if_neg (by omega)]]
    rfl)
def k_w3 (rd q : Nat) : Nat := if rd = 1 ∧ q = 3 then 23 else if rd = 1 ∧ q = 4 then 24 else k_asked q
def k_w2 (rd q : Nat) : Nat := if rd = 0 ∧ q = 1 then 21 else if rd = 1 ∧ q = 2 then 22 else k_w3 rd q
def k_w1 (rd q : Nat) : Nat := if q = 5 then 3 else if q = 6 then 4 else if q = 7 then 5 else if q = 8 then 6 else if rd = 0 ∧ q = 0 then 20 else k_w2 rd q
theorem k_w1_mt : ∀ rd, rd < 2 → ∀ q, q < 27 → k_w1 rd q = k_mt rd (k_cw q) := by decide +kernel
theorem m_lawWord (hD : 7 ≤ D) {q rd : Nat} (hrd : rd < 2) (h12 : M 178 12 = nI rd) (h : ∀ D', 5 ≤ D' → IsQ X D' (Gk n tot kn kx) M q) : callw X D 151 [.inr (.inl 178)] (Gk n tot kn kx) M = some (nI (k_w1 rd q), Gk n tot kn kx, M) :=
  Sq.eq (Sq.mk (k := 6) hD (fun D' hD' => by
    have his := h D' (by omega)
    have e0 : (nI rd = (0 : Int32)) = (rd = 0) := by rw [z_nI, eq_i (by omega) (by omega)]
    have e1 : (nI rd = nI 1) = (rd = 1) := eq_i (by omega) (by omega)
    have s3 : Lq X (callw X D') 151 103 [some (.inr (.inl 178))] (Gk n tot kn kx) M (fun x M1 => x = nI (k_w3 rd q) ∧ M1 = M) := by
      refine Lq.of (t_151_103_ok X (callw X D') n tot kn kx M) ?_
      unfold t_151_103
      simp only [o_nI, h12, e1]
      by_cases r1 : rd = 1
      · rw [if_pos r1, his 9 (by decide) (by decide), bnd_some]
        by_cases q3 : q = 3
        · rw [decide_eq_true (show q = k_iw 9 from q3), if_neg (by decide +kernel), Wq_ret]
          exact ⟨by unfold k_w3; rw [if_pos ⟨r1, q3⟩], rfl⟩
        · rw [decide_eq_false (show ¬ q = k_iw 9 from q3), if_pos (by rfl), if_pos (show M 178 12 = nI 1 by rw [h12, r1]), his 10 (by decide) (by decide), bnd_some]
          by_cases q4 : q = 4
          · rw [decide_eq_true (show q = k_iw 10 from q4), if_neg (by decide +kernel), Wq_ret]
            exact ⟨by unfold k_w3; rw [if_neg (fun hh => q3 hh.2), if_pos ⟨r1, q4⟩], rfl⟩
          · rw [decide_eq_false (show ¬ q = k_iw 10 from q4), if_pos (by rfl), m_asked hD' h, bnd_some, Wq_ret]
            exact ⟨by unfold k_w3; rw [if_neg (fun hh => q3 hh.2), if_neg (fun hh => q4 hh.2)], rfl⟩
      · rw [if_neg r1, if_neg r1, m_asked hD' h, bnd_some, Wq_ret]
        exact ⟨by unfold k_w3; rw [if_neg (fun hh => r1 hh.1), if_neg (fun hh => r1 hh.1)], rfl⟩
    have s2 : Lq X (callw X D') 151 64 [some (.inr (.inl 178))] (Gk n tot kn kx) M (fun x M1 => x = nI (k_w2 rd q) ∧ M1 = M) := by
      refine Lq.of (t_151_64_ok X (callw X D') n tot kn kx M) ?_
      unfold t_151_64
      simp only [o_nI, h12, e1, e0]
      by_cases r0 : rd = 0
      · rw [if_pos r0, his 7 (by decide) (by decide), bnd_some]
        by_cases q1 : q = 1
        · rw [decide_eq_true (show q = k_iw 7 from q1), if_neg (by decide +kernel), Wq_ret]
          exact ⟨by unfold k_w2; rw [if_pos ⟨r0, q1⟩], rfl⟩
        · rw [decide_eq_false (show ¬ q = k_iw 7 from q1), if_pos (by rfl), if_neg (show ¬ M 178 12 = nI 1 by rw [h12, e1]; omega), Wq_jmp, show k_w2 rd q = k_w3 rd q by unfold k_w2; rw [if_neg (fun hh => q1 hh.2), if_neg (fun hh => by omega)]]
          exact s3
      · rw [if_neg r0, if_pos (show rd = 1 by omega), his 8 (by decide) (by decide), bnd_some]
        by_cases q2 : q = 2
        · rw [decide_eq_true (show q = k_iw 8 from q2), if_neg (by decide +kernel), Wq_ret]
          exact ⟨by unfold k_w2; rw [if_neg (fun hh => r0 hh.1), if_pos ⟨by omega, q2⟩], rfl⟩
        · rw [decide_eq_false (show ¬ q = k_iw 8 from q2), if_pos (by rfl), Wq_jmp, show k_w2 rd q = k_w3 rd q by unfold k_w2; rw [if_neg (fun hh => r0 hh.1), if_neg (fun hh => q2 hh.2)]]
          exact s3
    refine Lq.of (t_151_0_ok X (callw X D') n tot kn kx M) ?_
    unfold t_151_0
    rw [his 2 (by decide) (by decide), bnd_some]
    by_cases q5 : q = 5
    · rw [decide_eq_true (show q = k_iw 2 from q5), if_neg (by decide +kernel), Wq_ret]
      exact ⟨by rw [q5]; rfl, rfl⟩
    rw [decide_eq_false (show ¬ q = k_iw 2 from q5), if_pos (by rfl)]
    rw [his 3 (by decide) (by decide), bnd_some]
    by_cases q6 : q = 6
    · rw [decide_eq_true (show q = k_iw 3 from q6), if_neg (by decide +kernel), Wq_ret]
      exact ⟨by rw [q6]; rfl, rfl⟩
    rw [decide_eq_false (show ¬ q = k_iw 3 from q6), if_pos (by rfl)]
    rw [his 4 (by decide) (by decide), bnd_some]
    by_cases q7 : q = 7
    · rw [decide_eq_true (show q = k_iw 4 from q7), if_neg (by decide +kernel), Wq_ret]
      exact ⟨by rw [q7]; rfl, rfl⟩
    rw [decide_eq_false (show ¬ q = k_iw 4 from q7), if_pos (by rfl)]
    rw [his 5 (by decide) (by decide), bnd_some]
    by_cases q8 : q = 8
    · rw [decide_eq_true (show q = k_iw 5 from q8), if_neg (by decide +kernel), Wq_ret]
      exact ⟨by rw [q8]; rfl, rfl⟩
    rw [decide_eq_false (show ¬ q = k_iw 5 from q8), if_pos (by rfl)]
    by_cases r0 : rd = 0
    · rw [if_pos (show M 178 12 = (0 : Int32) by rw [h12, r0]; rfl), his 6 (by decide) (by decide), bnd_some]
      by_cases q0 : q = 0
      · rw [decide_eq_true (show q = k_iw 6 from q0), if_neg (by decide +kernel), Wq_ret]
        exact ⟨by rw [q0, r0]; rfl, rfl⟩
      · rw [decide_eq_false (show ¬ q = k_iw 6 from q0), if_pos (by rfl), Wq_jmp, show k_w1 rd q = k_w2 rd q by unfold k_w1; rw [if_neg q5, if_neg q6, if_neg q7, if_neg q8, if_neg (fun hh => q0 hh.2)]]
        exact s2
    · rw [if_neg (show ¬ M 178 12 = (0 : Int32) by rw [h12, e0]; exact r0), Wq_jmp, show k_w1 rd q = k_w2 rd q by unfold k_w1; rw [if_neg q5, if_neg q6, if_neg q7, if_neg q8, if_neg (fun hh => r0 hh.1)]]
      exact s2))
theorem k_h_mt : ∀ q, q < 27 → (if q = 19 then 7 else if q = 20 then 8 else if q = 21 then 9 else 1) = k_mt 2 (k_cw q) := by decide +kernel
theorem k_r_mt : ∀ q, q < 27 → (if q = 22 then 10 else if q = 23 then 11 else if q = 19 then 7 else if q = 24 then 12 else if q = 25 then 13 else 1) = k_mt 3 (k_cw q) := by decide +kernel
theorem m_word (hD : 8 ≤ D) {q rd : Nat} (hrd : rd < 4) (hq : q < 27) (h12 : M 178 12 = nI rd) (h : ∀ D', 5 ≤ D' → IsQ X D' (Gk n tot kn kx) M q) : callw X D 154 [.inr (.inl 178)] (Gk n tot kn kx) M = some (nI (k_mt rd (k_cw q)), Gk n tot kn kx, M) :=
  exk (k := 7) hD (fun D' _ => t_154_0_ok X (callw X D') n tot kn kx M) (fun D' hD' => by
    unfold t_154_0
    simp only [o_nI, h12]
    simp (disch := omega) only [lt_i, eq_i]
    by_cases r2 : rd < 2
    · rw [if_pos r2, m_lawWord hD' r2 h12 h, bnd_some, k_w1_mt rd r2 q hq]
    · rw [if_neg r2]
      by_cases r3 : rd = 2
      · have hw : callw X D' 152 [.inr (.inl 178)] (Gk n tot kn kx) M = some (nI (k_mt 2 (k_cw q)), Gk n tot kn kx, M) := exk (k := 6) hD' (fun D2 _ => t_152_0_ok X (callw X D2) n tot kn kx M) (fun D2 hD2 => by
          have his := h D2 (by omega)
          unfold t_152_0
          rw [← k_h_mt q hq]
          rw [his 21 (by decide) (by decide), bnd_some]
          by_cases q19 : q = 19
          · rw [decide_eq_true (show q = k_iw 21 from q19), if_neg (by decide +kernel), if_pos q19]; rfl
          rw [decide_eq_false (show ¬ q = k_iw 21 from q19), if_pos (by rfl), if_neg q19]
          rw [his 22 (by decide) (by decide), bnd_some]
          by_cases q20 : q = 20
          · rw [decide_eq_true (show q = k_iw 22 from q20), if_neg (by decide +kernel), if_pos q20]; rfl
          rw [decide_eq_false (show ¬ q = k_iw 22 from q20), if_pos (by rfl), if_neg q20]
          rw [his 23 (by decide) (by decide), bnd_some]
          by_cases q21 : q = 21
          · rw [decide_eq_true (show q = k_iw 23 from q21), if_neg (by decide +kernel), if_pos q21]; rfl
          rw [decide_eq_false (show ¬ q = k_iw 23 from q21), if_pos (by rfl), if_neg q21]
          rfl)
        rw [if_pos r3, hw, bnd_some, r3]
      · have hw : callw X D' 153 [.inr (.inl 178)] (Gk n tot kn kx) M = some (nI (k_mt 3 (k_cw q)), Gk n tot kn kx, M) := exk (k := 6) hD' (fun D2 _ => t_153_0_ok X (callw X D2) n tot kn kx M) (fun D2 hD2 => by
          have his := h D2 (by omega)
          unfold t_153_0
          rw [← k_r_mt q hq]
          rw [his 24 (by decide) (by decide), bnd_some]
          by_cases q22 : q = 22
          · rw [decide_eq_true (show q = k_iw 24 from q22), if_neg (by decide +kernel), if_pos q22]; rfl
          rw [decide_eq_false (show ¬ q = k_iw 24 from q22), if_pos (by rfl), if_neg q22]
          rw [his 25 (by decide) (by decide), bnd_some]
          by_cases q23 : q = 23
          · rw [decide_eq_true (show q = k_iw 25 from q23), if_neg (by decide +kernel), if_pos q23]; rfl
          rw [decide_eq_false (show ¬ q = k_iw 25 from q23), if_pos (by rfl), if_neg q23]
          rw [his 21 (by decide) (by decide), bnd_some]
          by_cases q19 : q = 19
          · rw [decide_eq_true (show q = k_iw 21 from q19), if_neg (by decide +kernel), if_pos q19]; rfl
          rw [decide_eq_false (show ¬ q = k_iw 21 from q19), if_pos (by rfl), if_neg q19]
          rw [his 26 (by decide) (by decide), bnd_some]
          by_cases q24 : q = 24
          · rw [decide_eq_true (show q = k_iw 26 from q24), if_neg (by decide +kernel), if_pos q24]; rfl
          rw [decide_eq_false (show ¬ q = k_iw 26 from q24), if_pos (by rfl), if_neg q24]
          rw [his 27 (by decide) (by decide), bnd_some]
          by_cases q25 : q = 25
          · rw [decide_eq_true (show q = k_iw 27 from q25), if_neg (by decide +kernel), if_pos q25]; rfl
          rw [decide_eq_false (show ¬ q = k_iw 27 from q25), if_pos (by rfl), if_neg q25]
          rfl)
        rw [if_neg r3, hw, bnd_some, show rd = 3 by omega])
end
