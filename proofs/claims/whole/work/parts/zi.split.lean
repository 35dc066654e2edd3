section
-- needs: tape
/-! the class's tokens -/
variable {X : KXw} {n tot kn D : Nat} {kx : Nat → Nat × Nat} {M : MMw}
theorem k_u16 : ∀ c, c < 256 → ((nI c).toUInt32 % 65536).toInt32 = nI c := by decide +kernel
theorem k_ln1 : k_ln 1 = 10 := by decide +kernel
theorem k_s8 : ∀ c, c < 256 → ∀ i, i < 10 → ((nI (k_ch 1 i) = (nI c).toInt8.toInt32) ↔ k_ch 1 i = c) := by decide +kernel
theorem k_sgn_at : ∀ c, c < 256 → (k_sgn c = true ↔ ∃ i, i < 10 ∧ k_ch 1 i = c) := by decide +kernel
theorem c_indexOf (hD : 6 ≤ D) {c : Nat} (hc : c < 256) : ∃ x, callw X D 120 [.inr (.inr 1), .inl (nI c)] (Gk n tot kn kx) M = some (x, Gk n tot kn kx, M) ∧ (x < nI 0 ↔ k_sgn c = false) := by
  have h117 : ∀ D, 1 ≤ D → Sq X D 117 [.inr (.inr 29), .inl (nI c), .inl (nI 0), .inl (nI 10)] (Gk n tot kn kx) M (fun x M' => (x < nI 0 ↔ k_sgn c = false) ∧ M' = M) := fun D hD => Sq.mk (k := 0) hD (fun D' _ => by
    have loop : ∀ (k i : Nat), i + k = 10 → (∀ v, v < i → k_ch 1 v ≠ c) → Lq X (callw X D') 117 7 [some (.inr (.inr 29)), none, none, some (.inl (nI 10)), some (.inl ((nI c).toInt8.toInt32)), some (.inl (nI i))] (Gk n tot kn kx) M (fun x M' => (x < nI 0 ↔ k_sgn c = false) ∧ M' = M) := by
      intro k
      induction k with
      | zero =>
        intro i hi hno
        refine Lq.of (t_117_cj_7_ok X (callw X D') n tot kn kx 29 _ _ _ M) ?_
        unfold t_117_cj_7
        rw [if_neg (by rw [lt_i (by omega) (by omega)]; omega), Wq_ret]
        refine ⟨iff_of_true (by decide +kernel) ?_, rfl⟩
        cases hs : k_sgn c with
        | false => rfl
        | true =>
          obtain ⟨v, v1, v2⟩ := (k_sgn_at c hc).mp hs
          exact absurd v2 (hno v (by omega))
      | succ k ih =>
        intro i hi hno
        refine Lq.of (t_117_cj_7_ok X (callw X D') n tot kn kx 29 _ _ _ M) ?_
        unfold t_117_cj_7
        have hl : kLen X 29 = 10 := by rw [show 29 = 1 + 28 from rfl, k_len (by decide), k_ln1]
        have ha : kAt X 29 i = nI (k_ch 1 i) := by
          rw [show 29 = 1 + 28 from rfl, k_at (by decide)]
          exact (k_ch_ok 1 (by decide) i (by rw [k_ln1]; omega)).2.2.1
        rw [if_pos (by rw [lt_i (by omega) (by omega)]; omega), if_pos (by decide), if_pos (k_kind 1 (by decide)), hl, inb_nI (show i < 10 by omega) (by decide), if_pos rfl, nI_clamp (by omega), ha]
        by_cases h1 : k_ch 1 i = c
        · rw [if_pos ((k_s8 c hc i (by omega)).mpr h1), Wq_ret]
          refine ⟨iff_of_false (by rw [lt_i (by omega) (by omega)]; omega) ?_, rfl⟩
          rw [(k_sgn_at c hc).mpr ⟨i, by omega, h1⟩]
          decide
        · rw [if_neg (fun h => h1 ((k_s8 c hc i (by omega)).mp h)), Wq_jmp, i1_nI, nI_add]
          refine ih (i + 1) (by omega) (fun v hv => ?_)
          by_cases e : v = i
          · rw [e]; exact h1
          · exact hno v (by omega)
    refine Lq.of (t_117_cj_0_ok X (callw X D') n tot kn kx 29 _ _ _ M) ?_
    unfold t_117_cj_0
    rw [Wq_jmp]
    exact loop 10 0 (by decide) (fun v hv => absurd hv (Nat.not_lt_zero v)))
  have h116 : ∀ D, 1 ≤ D → callw X D 116 [.inl (nI c)] (Gk n tot kn kx) M = some (nI 1, Gk n tot kn kx, M) := fun D hD => ex1 hD (fun cl => t_116_0_ok X cl n tot kn kx _ M) (fun cl => by
    unfold t_116_0
    simp only [o_nI, z_nI]
    rw [if_neg (by rw [lt_i (by omega) (by omega)]; omega), if_neg (by rw [lt_i (by omega) (by omega)]; omega)])
  have h118 : ∀ D, 2 ≤ D → Sq X D 118 [.inr (.inr 29), .inl (nI c), .inl (nI 0), .inl (nI 10)] (Gk n tot kn kx) M (fun x M' => (x < nI 0 ↔ k_sgn c = false) ∧ M' = M) := fun D hD => Sq.mk (k := 1) hD (fun D' hD' => by
    refine Lq.of (t_118_cj_0_ok X (callw X D') n tot kn kx 29 _ _ _ M) ?_
    unfold t_118_cj_0
    have hl : kLen X 29 = 10 := by rw [show 29 = 1 + 28 from rfl, k_len (by decide), k_ln1]
    rw [h116 D' hD', bnd_some, if_neg (by decide +kernel), o_nI, c_max hD', bnd_some, if_pos (by decide), if_pos (Or.inr (k_kind 1 (by decide))), hl, o_nI, c_min hD', bnd_some]
    simp only [show ¬ (nI 0 < nI 0) by decide +kernel, show ¬ (nI 10 < nI 10) by decide +kernel, show nI 0 < nI 10 by decide +kernel, if_true, if_false]
    rw [if_pos (by decide)]
    refine Wq.call (h117 D' hD') ?_
    rintro x M' ⟨h, rfl⟩
    rw [Wq_ret]
    exact ⟨h, rfl⟩)
  have h119 : ∀ D, 3 ≤ D → Sq X D 119 [.inr (.inr 1), .inl (nI c), .inl (nI 0)] (Gk n tot kn kx) M (fun x M' => (x < nI 0 ↔ k_sgn c = false) ∧ M' = M) := fun D hD => Sq.mk (k := 2) hD (fun D' hD' => by
    refine Lq.of (t_119_cj_0_ok X (callw X D') n tot kn kx 1 _ _ M) ?_
    unfold t_119_cj_0
    rw [if_pos (by decide), if_pos ⟨by decide, rfl⟩, c_lat (by omega) (by decide), bnd_some, if_neg (by decide +kernel), if_pos (by decide), if_pos (by decide), if_pos (by decide), if_pos ⟨by decide, rfl⟩, c_length hD' (by decide), bnd_some, k_ln1]
    refine Wq.call (h118 D' hD') ?_
    rintro x M' ⟨h, rfl⟩
    rw [Wq_ret]
    exact ⟨h, rfl⟩)
  have h120 : Sq X D 120 [.inr (.inr 1), .inl (nI c)] (Gk n tot kn kx) M (fun x M' => (x < nI 0 ↔ k_sgn c = false) ∧ M' = M) := Sq.mk (k := 5) hD (fun D' hD' => by
    refine Lq.of (t_120_cj_0_ok X (callw X D') n tot kn kx 1 _ M) ?_
    unfold t_120_cj_0
    rw [if_pos (by decide), if_pos ⟨by decide, rfl⟩]
    refine Wq.call (h119 D' (by omega)) ?_
    rintro x M' ⟨h, rfl⟩
    rw [Wq_ret]
    exact ⟨h, rfl⟩)
  obtain ⟨x, M', h1, h2, rfl⟩ := h120
  exact ⟨x, h1, h2⟩
/-- the token at p, as the class has it -/
def k_tok (tp : Nat → Nat) (L p : Nat) : Nat :=
  if p < L then (if k_let (tp p) = true then (match k_wd tp p (k_st tp L p) with | none => 1 | some w => 100 + w)
    else if k_dig (tp p) = true then (if k_st tp L p - p ≤ 4 then 2 else 1) else if k_sgn (tp p) = true then tp p else 1) else 0
theorem k_st_b {tp : Nat → Nat} {L p : Nat} (h : p < L) : p < k_st tp L p ∧ k_st tp L p ≤ L := by
  unfold k_st
  have h1 := k_go_b (p := fun j => k_let (tp j)) (L := L) (L - (p + 1)) (p + 1) (by omega)
  have h2 := k_go_b (p := fun j => k_dig (tp j)) (L := L) (L - (p + 1)) (p + 1) (by omega)
  split
  · omega
  · split <;> omega
theorem k_ab_b {tp : Nat → Nat} {L p : Nat} (h : p ≤ L) : p ≤ k_ab tp L p ∧ k_ab tp L p ≤ L := by
  have h1 := k_go_b (p := fun j => k_blk (tp j)) (L := L) (L - p) p (by omega)
  exact ⟨h1.1, h1.2.1⟩
theorem k_sgn_r : ∀ c, c < 256 → k_sgn c = true → 40 ≤ c ∧ c ≤ 62 := by decide +kernel
theorem k_tok_b {tp : Nat → Nat} {L p : Nat} (ht : ∀ i, i < L → tp i < 256) : k_tok tp L p < 126 ∧ (p < L → k_tok tp L p ≠ 0) := by
  unfold k_tok
  by_cases h : p < L
  · rw [if_pos h]
    split
    · cases hw : k_wd tp p (k_st tp L p) with
      | none => exact ⟨by decide, fun _ => by decide⟩
      | some w =>
        have := (q_find_some hw).1
        exact ⟨show 100 + w < 126 by omega, fun _ => show 100 + w ≠ 0 by omega⟩
    · split
      · split <;> exact ⟨by decide, fun _ => by decide⟩
      · split
        · rename_i hs
          have := k_sgn_r _ (ht p h) hs
          exact ⟨by omega, fun _ => by omega⟩
        · exact ⟨by decide, fun _ => by decide⟩
  · rw [if_neg h]
    exact ⟨by decide, fun hh => absurd hh h⟩
theorem c_tokenOf (hD : 7 ≤ D) {tp : Nat → Nat} {L : Nat} (hL : L ≤ 400) (ht : ∀ i, i < L → tp i < 256) (hT : TpC M tp L) {p : Nat} (hp : p < L) : callw X D 121 [.inr (.inl 95), .inl (nI p), .inl (nI (k_st tp L p))] (Gk n tot kn kx) M = some (nI (k_tok tp L p), Gk n tot kn kx, M) :=
  Sq.eq (Sq.mk (k := 6) hD (fun D' hD' => by
    obtain ⟨t1, t2⟩ := id hT
    have hb := ht p hp
    obtain ⟨s1, s2⟩ := k_st_b (tp := tp) hp
    have e1 : k_let (tp p) = true → k_tok tp L p = (match k_wd tp p (k_st tp L p) with | none => 1 | some w => 100 + w) := fun h => by unfold k_tok; rw [if_pos hp, if_pos h]
    have e2 : k_let (tp p) = false → k_dig (tp p) = true → k_tok tp L p = if k_st tp L p - p ≤ 4 then 2 else 1 := fun h g => by unfold k_tok; rw [if_pos hp, if_neg (by rw [h]; decide), if_pos g]
    have e3 : k_let (tp p) = false → k_dig (tp p) = false → k_tok tp L p = if k_sgn (tp p) = true then tp p else 1 := fun h g => by unfold k_tok; rw [if_pos hp, if_neg (by rw [h]; decide), if_neg (by rw [g]; decide)]
    refine Lq.of (t_121_p95_0_ok X (callw X D') n tot kn kx _ _ M) ?_
    unfold t_121_p95_0
    simp only [o_nI, z_nI]
    rw [inb_nI (show p < 400 by omega) (by decide), if_pos rfl, nI_clamp (by omega), t2 p hp, c_isLet (by omega) hb, bnd_some]
    cases hl : k_let (tp p) with
    | true =>
      rw [if_neg (by decide +kernel), c_wordOf hD' hL ht hT s2 (by omega), bnd_some, Wq_ret, e1 hl]
      exact ⟨rfl, rfl⟩
    | false =>
      rw [if_pos (by rfl), c_isDig (by omega) hb, bnd_some]
      cases hd : k_dig (tp p) with
      | true =>
        rw [if_neg (by decide +kernel), nI_sub (by omega)]
        by_cases h4 : k_st tp L p - p ≤ 4
        · rw [if_neg (by rw [lt_i (by omega) (by omega)]; omega), Wq_ret, e2 hl hd, if_pos h4]
          exact ⟨rfl, rfl⟩
        · rw [if_pos (by rw [lt_i (by omega) (by omega)]; omega), Wq_ret, e2 hl hd, if_neg h4]
          exact ⟨rfl, rfl⟩
      | false =>
        obtain ⟨x, x1, x2⟩ := c_indexOf (X := X) (n := n) (tot := tot) (kn := kn) (kx := kx) (M := M) (D := D') (by omega) hb
        rw [if_pos (by rfl), k_u16 _ hb, x1, bnd_some]
        cases hs : k_sgn (tp p) with
        | false =>
          rw [if_pos (x2.mpr hs), Wq_ret, e3 hl hd, hs, if_neg (by decide)]
          exact ⟨rfl, rfl⟩
        | true =>
          rw [if_neg (fun h => by have := x2.mp h; rw [hs] at this; cases this), Wq_ret, e3 hl hd, hs, if_pos rfl]
          exact ⟨rfl, rfl⟩))
/-- where the tokens stand -/
def k_pl (tp : Nat → Nat) (L : Nat) : Nat → Nat
  | 0 => k_ab tp L 0
  | k + 1 => if k_pl tp L k < L then k_ab tp L (k_st tp L (k_pl tp L k)) else k_pl tp L k
def k_tk (tp : Nat → Nat) (L k : Nat) : Nat := k_tok tp L (k_pl tp L k)
def k_vl (tp : Nat → Nat) (L k : Nat) : Nat := k_vn tp (k_pl tp L k) (k_st tp L (k_pl tp L k) - k_pl tp L k)
theorem k_pl_b {tp : Nat → Nat} {L : Nat} : ∀ k, k_pl tp L k ≤ L ∧ (k ≤ k_pl tp L k ∨ k_pl tp L k = L)
  | 0 => ⟨(k_ab_b (Nat.zero_le _)).2, Or.inl (Nat.zero_le _)⟩
  | k + 1 => by
    obtain ⟨h1, h2⟩ := k_pl_b (tp := tp) (L := L) k
    rw [k_pl]
    by_cases h : k_pl tp L k < L
    · rw [if_pos h]
      obtain ⟨s1, s2⟩ := k_st_b (tp := tp) h
      obtain ⟨a1, a2⟩ := k_ab_b (tp := tp) s2
      exact ⟨a2, Or.inl (by omega)⟩
    · rw [if_neg h]
      exact ⟨h1, Or.inr (by omega)⟩
theorem k_tk_n {tp : Nat → Nat} {L k : Nat} (ht : ∀ i, i < L → tp i < 256) : k_tk tp L k = 0 ↔ k_pl tp L k = L := by
  have h1 := (k_pl_b (tp := tp) (L := L) k).1
  unfold k_tk
  constructor
  · intro h
    by_cases hl : k_pl tp L k < L
    · exact absurd h ((k_tok_b ht).2 hl)
    · omega
  · intro h
    unfold k_tok
    rw [if_neg (by omega)]
/-- a token that is a number -/
theorem k_vl_ok {tp : Nat → Nat} {L k : Nat} (ht : ∀ i, i < L → tp i < 256) (h : k_tk tp L k = 2) : k_pl tp L k < L ∧ k_let (tp (k_pl tp L k)) = false ∧ k_dig (tp (k_pl tp L k)) = true ∧ k_st tp L (k_pl tp L k) - k_pl tp L k ≤ 4 ∧ (∀ j, j < k_st tp L (k_pl tp L k) - k_pl tp L k → k_dig (tp (k_pl tp L k + j)) = true) ∧ k_vl tp L k < 10000 := by
  unfold k_tk k_tok at h
  unfold k_vl
  generalize k_pl tp L k = p at h ⊢
  by_cases hp : p < L
  · rw [if_pos hp] at h
    cases hl : k_let (tp p) with
    | true =>
      rw [hl, if_pos rfl] at h
      cases hw : k_wd tp p (k_st tp L p) with
      | none => rw [hw] at h; cases h
      | some w =>
        rw [hw] at h
        have : 100 + w = 2 := h
        omega
    | false =>
      rw [hl, if_neg (by decide)] at h
      cases hd : k_dig (tp p) with
      | true =>
        rw [hd, if_pos rfl] at h
        by_cases h4 : k_st tp L p - p ≤ 4
        · have hall : ∀ j, j < k_st tp L p - p → k_dig (tp (p + j)) = true := fun j hj => by
            have e : k_st tp L p = k_go (fun j => k_dig (tp j)) L (p + 1) := by
              unfold k_st
              rw [hl, if_neg (by decide), hd, if_pos rfl]
            have h1 := k_go_b (p := fun j => k_dig (tp j)) (L := L) (L - (p + 1)) (p + 1) (by omega)
            rw [← e] at h1
            by_cases e0 : j = 0
            · rw [e0]; exact hd
            · exact h1.2.2.1 (p + j) (by omega) (by omega)
          have hv := k_vn_lt hall
          have : 10 ^ (k_st tp L p - p) ≤ 10 ^ 4 := Nat.pow_le_pow_right (by decide) h4
          exact ⟨hp, rfl, rfl, h4, hall, by omega⟩
        · rw [if_neg h4] at h; cases h
      | false =>
        rw [hd, if_neg (by decide)] at h
        by_cases hs : k_sgn (tp p) = true
        · rw [if_pos hs] at h
          have := k_sgn_r _ (ht p hp) hs
          omega
        · rw [if_neg hs] at h; cases h
  · rw [if_neg hp] at h; cases h
/-- the class's tokens stand in their rows -/
def TkC (tp : Nat → Nat) (L ct : Nat) (M : MMw) : Prop := ct ≤ 400 ∧ k_pl tp L ct = L ∧ (∀ k, k < ct → k_pl tp L k < L) ∧ (∀ k, k ≤ ct → M 97 k = nI (k_tk tp L k) ∧ M 99 k = nI (k_pl tp L k)) ∧ ∀ k, k < ct → k_tk tp L k = 2 → M 98 k = nI (k_vl tp L k)
theorem c_split (hD : 8 ≤ D) {tp : Nat → Nat} {L : Nat} (hL : L ≤ 400) (ht : ∀ i, i < L → tp i < 256) (hT : TpC M tp L) : Sq X D 123 [.inr (.inl 95)] (Gk n tot kn kx) M (fun _ M' => Fr [95, 97, 98, 99] M M' ∧ M' 95 2 = nI 0 ∧ M' 95 3 = -1 ∧ M' 95 7 = nI 0 ∧ M' 95 8 = nI (k_tk tp L 0) ∧ ∃ ct, TkC tp L ct M') :=
  Sq.mk (k := 7) hD (fun D' hD' => by
    obtain ⟨t1, t2⟩ := id hT
    have hTf : ∀ M1 : MMw, M1 95 1 = nI L → M1 96 = M 96 → TpC M1 tp L := fun M1 h1 h2 => ⟨h1, fun i hi => by rw [h2]; exact t2 i hi⟩
    have loop : ∀ (c k : Nat) (M1 : MMw), k + c = 401 → k ≤ 400 → (∀ j, j < k → k_pl tp L j < L) → (∀ j, j < k → M1 97 j = nI (k_tk tp L j) ∧ M1 99 j = nI (k_pl tp L j)) → (∀ j, j < k → k_tk tp L j = 2 → M1 98 j = nI (k_vl tp L j)) → Fr [95, 97, 98, 99] M M1 → M1 95 1 = nI L → M1 95 2 = nI 0 → M1 95 3 = -1 → Lq X (callw X D') 123 18 [some (.inr (.inl 95)), some (.inl (nI k)), some (.inl (nI (k_pl tp L k))), none] (Gk n tot kn kx) M1 (fun _ M' => Fr [95, 97, 98, 99] M M' ∧ M' 95 2 = nI 0 ∧ M' 95 3 = -1 ∧ M' 95 7 = nI 0 ∧ M' 95 8 = nI (k_tk tp L 0) ∧ ∃ ct, TkC tp L ct M') := by
      intro c
      induction c with
      | zero => intro k M1 hk hk2; omega
      | succ c ih =>
        intro k M1 hk hk2 hlt h97 h98 hf e1 e2 e3
        refine Lq.of (t_123_p95_18_ok X (callw X D') n tot kn kx _ _ M1) ?_
        unfold t_123_p95_18
        obtain ⟨pb, pb2⟩ := k_pl_b (tp := tp) (L := L) k
        have hT1 : TpC M1 tp L := hTf M1 e1 (hf 96 (by decide))
        by_cases hp : k_pl tp L k < L
        · have hk4 : k < 400 := by omega
          obtain ⟨s1, s2⟩ := k_st_b (tp := tp) hp
          have tkb := (k_tok_b (p := k_pl tp L k) ht).1
          rw [e1, if_pos (by rw [lt_i (by omega) (by omega)]; exact hp), o_nI, if_pos (by rw [lt_i (by omega) (by omega)]; exact hk4), c_afterToken (by omega) hL ht hT1 hp, bnd_some, c_tokenOf hD' hL ht hT1 hp, bnd_some, inb_nI (show k < 401 by omega) (by decide)]
          simp only [if_true]
          rw [nI_clamp (by omega), c_valueOf (by omega) hL (hTf _ (by rw [up_ne (by decide)]; exact e1) (by rw [up_ne (by decide)]; exact hf 96 (by decide))) s2 (by omega), bnd_some, c_blanks (by omega) hL ht (hTf _ (by rw [up_ne (by decide), up_ne (by decide), up_ne (by decide)]; exact e1) (by rw [up_ne (by decide), up_ne (by decide), up_ne (by decide)]; exact hf 96 (by decide))) s2, bnd_some, Wq_jmp, i1_nI, nI_add]
          have epl : k_pl tp L (k + 1) = k_ab tp L (k_st tp L (k_pl tp L k)) := by rw [k_pl, if_pos hp]
          rw [← epl]
          refine ih (k + 1) _ (by omega) (by omega) (fun j hj => ?_) (fun j hj => ?_) (fun j hj hj2 => ?_) (((hf.up (by decide)).up (by decide)).up (by decide)) ?_ ?_ ?_
          · by_cases e : j = k
            · rw [e]; exact hp
            · exact hlt j (by omega)
          · rw [up_ne (by decide), up_ne (by decide), up_at, up_at]
            by_cases e : j = k
            · subst e
              rw [upW_s, upW_s]
              exact ⟨rfl, rfl⟩
            · rw [upW_n e, upW_n e, up_ne (by decide), up_ne (by decide)]
              exact h97 j (by omega)
          · rw [up_ne (by decide), up_at]
            by_cases e : j = k
            · subst e
              obtain ⟨_, _, _, v4, v5, _⟩ := k_vl_ok ht hj2
              rw [upW_s, show k_n4 (k_st tp L (k_pl tp L j) - k_pl tp L j) = k_st tp L (k_pl tp L j) - k_pl tp L j by have := k_n4_b (k_st tp L (k_pl tp L j) - k_pl tp L j); omega, k_vI_eq v5]
              rfl
            · rw [upW_n e, up_ne (by decide)]
              exact h98 j (by omega) hj2
          · rw [up_ne (by decide), up_ne (by decide), up_ne (by decide)]; exact e1
          · rw [up_ne (by decide), up_ne (by decide), up_ne (by decide)]; exact e2
          · rw [up_ne (by decide), up_ne (by decide), up_ne (by decide)]; exact e3
        · have epl : k_pl tp L k = L := by omega
          have etk : k_tk tp L k = 0 := (k_tk_n ht).mpr epl
          rw [e1, if_neg (by rw [lt_i (by omega) (by omega)]; exact hp), inb_nI (show k < 401 by omega) (by decide)]
          simp only [if_true]
          rw [nI_clamp (by omega), Wq_ret]
          have e97 : ∀ j, j ≤ k → up M1 97 k (nI 0) 97 j = nI (k_tk tp L j) := fun j hj => by
            rw [up_at]
            by_cases e : j = k
            · subst e; rw [upW_s, etk]
            · rw [upW_n e]; exact (h97 j (by omega)).1
          refine ⟨(((hf.up (by decide)).up (by decide)).up (by decide)).up (by decide), ?_, ?_, ?_, ?_, k, hk2, epl, hlt, fun j hj => ⟨?_, ?_⟩, fun j hj hj2 => ?_⟩
          · rw [up_at, upW_n (by decide), up_at, upW_n (by decide), up_ne (by decide), up_ne (by decide)]; exact e2
          · rw [up_at, upW_n (by decide), up_at, upW_n (by decide), up_ne (by decide), up_ne (by decide)]; exact e3
          · rw [up_at, upW_n (by decide), up_at, upW_s]; rfl
          · rw [up_at, upW_s]; exact e97 0 (Nat.zero_le _)
          · rw [up_ne (by decide), up_ne (by decide), up_ne (by decide)]; exact e97 j hj
          · rw [up_ne (by decide), up_ne (by decide), up_at]
            by_cases e : j = k
            · subst e; rw [upW_s, epl]
            · rw [upW_n e, up_ne (by decide)]; exact (h97 j (by omega)).2
          · rw [up_ne (by decide), up_ne (by decide), up_ne (by decide), up_ne (by decide)]; exact h98 j hj hj2
    refine Lq.of (t_123_p95_0_ok X (callw X D') n tot kn kx M) ?_
    unfold t_123_p95_0
    simp only [o_nI]
    have hT0 : TpC (up (up M 95 2 (nI 0)) 95 3 (nI 4294967295)) tp L := hTf _ (by rw [up_at, upW_n (by decide), up_at, upW_n (by decide)]; exact t1) (by rw [up_ne (by decide), up_ne (by decide)])
    rw [c_blanks (by omega) hL ht hT0 (Nat.zero_le _), bnd_some, Wq_jmp]
    exact loop 401 0 _ (by decide) (by decide) (fun j hj => absurd hj (Nat.not_lt_zero j)) (fun j hj => absurd hj (Nat.not_lt_zero j)) (fun j hj => absurd hj (Nat.not_lt_zero j)) ((Fr.rf.up (by decide)).up (by decide)) hT0.1 (by rw [up_at, upW_n (by decide), up_at, upW_s]) (by rw [up_at, upW_s, m1n]))
end
