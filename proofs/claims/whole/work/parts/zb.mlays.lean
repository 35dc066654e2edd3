section
-- needs: csearch
/-! the reference: can a set be served together -/
variable {X : KXw} {n tot kn D : Nat} {kx : Nat → Nat × Nat} {M : MMw}
/-- the works of S below k can be served by just the tools and men in u -/
def q_rch (W : Nat → Int32) (S k u : Nat) : Prop := ∃ τ μ : Nat → Nat, (∀ w, w < k → S.testBit w = true → τ w < q_n W 96 ∧ q_kd W (τ w) = q_n W (142 + 3 * w) ∧ μ w < q_n W 97 ∧ q_serve W (τ w) (μ w) = true) ∧ (∀ v w, v < k → w < k → S.testBit v = true → S.testBit w = true → v ≠ w → τ v ≠ τ w ∧ μ v ≠ μ w) ∧ ∀ b, (u.testBit b = true ↔ ∃ w, w < k ∧ S.testBit w = true ∧ (b = τ w ∨ b = 8 + μ w))
theorem q_rch_0 {W : Nat → Int32} {S u : Nat} : q_rch W S 0 u ↔ u = 0 := by
  constructor
  · rintro ⟨τ, μ, _, _, h⟩
    apply Nat.eq_of_testBit_eq
    intro b
    rw [Nat.zero_testBit]
    cases hb : u.testBit b with
    | false => rfl
    | true =>
      obtain ⟨w, hw, _⟩ := (h b).mp hb
      exact absurd hw (Nat.not_lt_zero w)
  · rintro rfl
    exact ⟨fun _ => 0, fun _ => 0, fun w hw => absurd hw (Nat.not_lt_zero w), fun v w hv => absurd hv (Nat.not_lt_zero v), fun b => ⟨fun h => (by rw [Nat.zero_testBit] at h; cases h), fun ⟨w, hw, _⟩ => absurd hw (Nat.not_lt_zero w)⟩⟩
theorem q_rch_n {W : Nat → Int32} {S k u : Nat} (hb : S.testBit k = false) : q_rch W S (k + 1) u ↔ q_rch W S k u := by
  have ne : ∀ w, w < k + 1 → S.testBit w = true → w < k := fun w hw hs => by
    by_cases e : w = k
    · subst e; rw [hb] at hs; cases hs
    · omega
  constructor
  · rintro ⟨τ, μ, h1, h2, h3⟩
    refine ⟨τ, μ, fun w hw => h1 w (by omega), fun v w hv hw => h2 v w (by omega) (by omega), fun b => (h3 b).trans ?_⟩
    exact ⟨fun ⟨w, a, b, c⟩ => ⟨w, ne w a b, b, c⟩, fun ⟨w, a, b, c⟩ => ⟨w, by omega, b, c⟩⟩
  · rintro ⟨τ, μ, h1, h2, h3⟩
    refine ⟨τ, μ, fun w hw hs => h1 w (ne w hw hs) hs, fun v w hv hw hsv hsw => h2 v w (ne v hv hsv) (ne w hw hsw) hsv hsw, fun b => (h3 b).trans ?_⟩
    exact ⟨fun ⟨w, a, b, c⟩ => ⟨w, by omega, b, c⟩, fun ⟨w, a, b, c⟩ => ⟨w, ne w a b, b, c⟩⟩
theorem q_rch_s {W : Nat → Int32} {S k u : Nat} (hT : q_n W 96 ≤ 8) (hM : q_n W 97 ≤ 4) (hb : S.testBit k = true) : q_rch W S (k + 1) u ↔ ∃ v t m, v < 4096 ∧ q_rch W S k v ∧ q_gt W (q_n W (142 + 3 * k)) v t m ∧ u = q_tmx v t m := by
  constructor
  · rintro ⟨τ, μ, h1, h2, h3⟩
    obtain ⟨k1, k2, k3, k4⟩ := h1 k (by omega) hb
    have vb : ∀ b, (sto (fun b => u.testBit b && !decide (b = τ k) && !decide (b = 8 + μ k)) 12).testBit b = true ↔ b < 12 ∧ u.testBit b = true ∧ b ≠ τ k ∧ b ≠ 8 + μ k := fun b => by
      rw [sto_tb, Bool.and_eq_true, Bool.and_eq_true, Bool.and_eq_true, decide_eq_true_eq, Bool.not_eq_true', Bool.not_eq_true', decide_eq_false_iff_not, decide_eq_false_iff_not]
      exact ⟨fun ⟨a, ⟨b, c⟩, d⟩ => ⟨a, b, c, d⟩, fun ⟨a, b, c, d⟩ => ⟨a, ⟨b, c⟩, d⟩⟩
    have vf : ∀ b, ¬ (b < 12 ∧ u.testBit b = true ∧ b ≠ τ k ∧ b ≠ 8 + μ k) → (sto (fun b => u.testBit b && !decide (b = τ k) && !decide (b = 8 + μ k)) 12).testBit b = false := fun b hn => by
      cases e : (sto (fun b => u.testBit b && !decide (b = τ k) && !decide (b = 8 + μ k)) 12).testBit b with
      | false => rfl
      | true => exact absurd ((vb b).mp e) hn
    refine ⟨_, τ k, μ k, sto_lt _ 12, ⟨τ, μ, fun w hw => h1 w (by omega), fun v w hv hw => h2 v w (by omega) (by omega), fun b => (vb b).trans ?_⟩, ⟨k1, k3, vf _ (fun h => h.2.2.1 rfl), vf _ (fun h => h.2.2.2 rfl), k2, k4⟩, ?_⟩
    · constructor
      · rintro ⟨_, g2, g3, g4⟩
        obtain ⟨w, w1, w2, w3⟩ := (h3 b).mp g2
        by_cases e : w = k
        · subst e; rcases w3 with w3 | w3
          · exact absurd w3 g3
          · exact absurd w3 g4
        · exact ⟨w, by omega, w2, w3⟩
      · rintro ⟨w, w1, w2, w3⟩
        obtain ⟨e1, _, e3, _⟩ := h1 w (by omega) w2
        obtain ⟨n1, n2⟩ := h2 w k (by omega) (by omega) w2 hb (by omega)
        refine ⟨by omega, (h3 b).mpr ⟨w, by omega, w2, w3⟩, ?_, ?_⟩ <;> omega
    · apply Nat.eq_of_testBit_eq
      intro b
      unfold q_tmx
      rw [Bool.eq_iff_iff, Nat.testBit_or, Nat.testBit_or, Bool.or_eq_true, Bool.or_eq_true, vb, pow_tb, pow_tb, decide_eq_true_eq, decide_eq_true_eq]
      constructor
      · intro h
        obtain ⟨w, w1, w2, w3⟩ := (h3 b).mp h
        obtain ⟨e1, _, e3, _⟩ := h1 w w1 w2
        by_cases a1 : b = τ k
        · exact Or.inl (Or.inr a1)
        · by_cases a2 : b = 8 + μ k
          · exact Or.inr a2
          · exact Or.inl (Or.inl ⟨by omega, h, a1, a2⟩)
      · rintro ((h | h) | h)
        · exact h.2.1
        · exact (h3 b).mpr ⟨k, by omega, hb, Or.inl h⟩
        · exact (h3 b).mpr ⟨k, by omega, hb, Or.inr h⟩
  · rintro ⟨v, t, m, hv, ⟨τ, μ, h1, h2, h3⟩, ⟨g1, g2, g3, g4, g5, g6⟩, rfl⟩
    have ni : ∀ w, w < k → S.testBit w = true → τ w ≠ t ∧ μ w ≠ m := fun w hw hs => by
      constructor
      · intro e
        have := (h3 t).mpr ⟨w, hw, hs, Or.inl e.symm⟩
        rw [g3] at this; cases this
      · intro e
        have := (h3 (8 + m)).mpr ⟨w, hw, hs, Or.inr (by rw [e])⟩
        rw [g4] at this; cases this
    refine ⟨fun w => if w = k then t else τ w, fun w => if w = k then m else μ w, fun w hw hs => ?_, fun a w ha hw hsa hsw hne => ?_, fun b => ?_⟩
    · by_cases e : w = k
      · subst e
        simp only [if_true]
        exact ⟨g1, g5, g2, g6⟩
      · simp only [if_neg e]
        exact h1 w (by omega) hs
    · by_cases ea : a = k
      · by_cases ew : w = k
        · omega
        · simp only [if_pos ea, if_neg ew]
          have := ni w (by omega) hsw
          exact ⟨fun e => this.1 e.symm, fun e => this.2 e.symm⟩
      · by_cases ew : w = k
        · simp only [if_pos ew, if_neg ea]
          exact ni a (by omega) hsa
        · simp only [if_neg ea, if_neg ew]
          exact h2 a w (by omega) (by omega) hsa hsw hne
    · unfold q_tmx
      rw [Nat.testBit_or, Nat.testBit_or, Bool.or_eq_true, Bool.or_eq_true, pow_tb, pow_tb, decide_eq_true_eq, decide_eq_true_eq]
      constructor
      · rintro ((h | h) | h)
        · obtain ⟨w, w1, w2, w3⟩ := (h3 b).mp h
          refine ⟨w, by omega, w2, ?_⟩
          dsimp only
          rw [if_neg (by omega), if_neg (by omega)]
          exact w3
        · exact ⟨k, by omega, hb, Or.inl (by dsimp only; rw [if_pos rfl]; exact h)⟩
        · exact ⟨k, by omega, hb, Or.inr (by dsimp only; rw [if_pos rfl]; exact h)⟩
      · rintro ⟨w, w1, w2, w3⟩
        dsimp only at w3
        by_cases e : w = k
        · rw [if_pos e, if_pos e] at w3
          rcases w3 with w3 | w3
          · exact Or.inl (Or.inr w3)
          · exact Or.inr w3
        · rw [if_neg e, if_neg e] at w3
          exact Or.inl (Or.inl ((h3 b).mpr ⟨w, by omega, w2, w3⟩))
theorem q_srv_rch {W : Nat → Int32} {S : Nat} (hT : q_n W 96 ≤ 8) (hM : q_n W 97 ≤ 4) (h : q_srv W S) (k : Nat) : ∃ u, q_rch W S k u := by
  obtain ⟨τ, μ, h1, h2⟩ := h
  have hx : ∀ b, (∃ w, w < k ∧ S.testBit w = true ∧ (b = τ w ∨ b = 8 + μ w)) → b < 12 := fun b ⟨w, _, a, c⟩ => by
    obtain ⟨e1, _, e3, _⟩ := h1 w a
    omega
  refine ⟨sto (fun b => q_any (fun w => S.testBit w && (decide (b = τ w) || decide (b = 8 + μ w))) k) 12, τ, μ, fun w _ => h1 w, fun v w _ _ => h2 v w, fun b => ?_⟩
  rw [sto_tb, Bool.and_eq_true, decide_eq_true_eq, q_any_iff]
  constructor
  · rintro ⟨_, w, w1, w2⟩
    rw [Bool.and_eq_true, Bool.or_eq_true, decide_eq_true_eq, decide_eq_true_eq] at w2
    exact ⟨w, w1, w2.1, w2.2⟩
  · intro hb
    refine ⟨hx b hb, ?_⟩
    obtain ⟨w, w1, w2, w3⟩ := hb
    exact ⟨w, w1, by rw [Bool.and_eq_true, Bool.or_eq_true, decide_eq_true_eq, decide_eq_true_eq]; exact ⟨w2, w3⟩⟩
theorem q_rch_srv {W : Nat → Int32} {S k u : Nat} (hS : S < 2 ^ k) (h : q_rch W S k u) : q_srv W S := by
  have lt : ∀ w, S.testBit w = true → w < k := fun w hw => by
    rcases Nat.lt_or_ge w k with hl | hl
    · exact hl
    · rw [Nat.testBit_lt_two_pow (Nat.lt_of_lt_of_le hS (Nat.pow_le_pow_right (by decide) hl))] at hw; cases hw
  obtain ⟨τ, μ, h1, h2, _⟩ := h
  exact ⟨τ, μ, fun w hw => h1 w (lt w hw) hw, fun v w hv hw => h2 v w (lt v hv) (lt w hw) hv hw⟩
theorem m_canTogether (hD : 3 ≤ D) {W : Nat → Int32} {S : Nat} (hS : S < 2 ^ q_n W 98) (hW : M 179 = W) (hy : q_invY W) (hv : SvP W M) : Sq X D 247 [.inr (.inl 178), .inl (nI S)] (Gk n tot kn kx) M (fun x M' => (∃ b, x = b2i b ∧ (b = true ↔ q_srv W S)) ∧ Fr [190] M M') :=
  Sq.mk (k := 2) hD (fun D' hD' => by
    obtain ⟨w1, w2⟩ := hy.1.2.2.1
    have hT : q_n W 96 ≤ 8 := by have := hy.1.1.2; omega
    have hM : q_n W 97 ≤ 4 := by have := hy.1.2.1.2; omega
    have p8 : 2 ^ q_n W 98 ≤ 2 ^ 8 := Nat.pow_le_pow_right (by decide) (by omega)
    have hw : ∀ M1 : MMw, Fr [190] M M1 → M1 179 = W := fun M1 hf => by rw [hf 179 (by decide)]; exact hW
    have loop : ∀ (c i : Nat) (M1 : MMw), i + c = q_n W 98 → Fr [190] M M1 → TbP M1 (q_rch W S i) → (∃ u, q_rch W S i u) → Lq X (callw X D') 247 32 [some (.inr (.inl 178)), some (.inl (nI S)), some (.inl (nI i))] (Gk n tot kn kx) M1 (fun x M' => (∃ b, x = b2i b ∧ (b = true ↔ q_srv W S)) ∧ Fr [190] M M') := by
      intro c
      induction c with
      | zero =>
        intro i M1 hi hf h1 h2
        refine Lq.of (t_247_32_ok X (callw X D') n tot kn kx _ _ M1) ?_
        unfold t_247_32
        simp only [o_nI]
        rw [hw M1 hf, w1, if_neg (by rw [lt_i (by omega) (by omega)]; omega), Wq_ret]
        obtain ⟨u, hu⟩ := h2
        rw [show i = q_n W 98 by omega] at hu
        exact ⟨⟨true, rfl, fun _ => q_rch_srv hS hu, fun _ => rfl⟩, hf⟩
      | succ c ih =>
        intro i M1 hi hf h1 h2
        refine Lq.of (t_247_32_ok X (callw X D') n tot kn kx _ _ M1) ?_
        unfold t_247_32
        simp only [o_nI, z_nI]
        rw [hw M1 hf, w1, if_pos (by rw [lt_i (by omega) (by omega)]; omega), nI_tb (by omega) (by omega)]
        cases hb : S.testBit i with
        | false =>
          rw [if_neg (by decide +kernel), Wq_jmp, i1_nI, nI_add]
          exact ih (i + 1) M1 (by omega) hf (h1.cg (fun u _ => (q_rch_n hb).symm)) (by obtain ⟨u, hu⟩ := h2; exact ⟨u, (q_rch_n hb).mpr hu⟩)
        | true =>
          have kk := (hy.2.2.2.2.2.1 i (by omega)).1
          rw [if_pos (by rfl), m_ofWork (by omega) (by omega), bnd_some, hw M1 hf, Nat.add_zero, kk.1]
          refine Wq.call (m_takesOne (by omega) kk.2 (hw M1 hf) hy (fun t m ht hm => by rw [hf 191 (by decide)]; exact hv t m ht hm) h1) ?_
          rintro x M2 ⟨⟨b, rfl, hb2⟩, h3, f2⟩
          cases b with
          | false =>
            rw [if_pos (by rfl), Wq_ret]
            refine ⟨⟨false, rfl, fun h => (by cases h), fun hs => ?_⟩, hf.tr f2⟩
            obtain ⟨u, hu⟩ := q_srv_rch hT hM hs (i + 1)
            obtain ⟨v, t, m, g1, g2, g3, _⟩ := (q_rch_s hT hM hb).mp hu
            have := hb2.mpr ⟨v, t, m, g1, g2, g3⟩
            cases this
          | true =>
            rw [if_neg (by decide +kernel), Wq_jmp, i1_nI, nI_add]
            refine ih (i + 1) M2 (by omega) (hf.tr f2) (h3.cg (fun u _ => (q_rch_s hT hM hb).symm)) ?_
            obtain ⟨v, t, m, g1, g2, g3⟩ := hb2.mp rfl
            exact ⟨_, (q_rch_s hT hM hb).mpr ⟨v, t, m, g1, g2, g3, rfl⟩⟩
    have fill : ∀ (c x : Nat) (M1 : MMw), x + c = 4096 → Fr [190] M M1 → (∀ u, u < x → M1 190 u = b2i (decide (u = 0))) → Lq X (callw X D') 247 2 [some (.inr (.inl 178)), some (.inl (nI S)), some (.inl (nI x))] (Gk n tot kn kx) M1 (fun x M' => (∃ b, x = b2i b ∧ (b = true ↔ q_srv W S)) ∧ Fr [190] M M') := by
      intro c
      induction c with
      | zero =>
        intro x M1 hx hf h1
        refine Lq.of (t_247_2_ok X (callw X D') n tot kn kx _ _ M1) ?_
        unfold t_247_2
        simp only [o_nI]
        rw [if_neg (by rw [lt_i (by omega) (by omega)]; omega), Wq_jmp]
        refine loop (q_n W 98) 0 M1 (by omega) hf (fun u hu => ⟨_, h1 u (by omega), ?_⟩) ⟨0, q_rch_0.mpr rfl⟩
        rw [decide_eq_true_eq, q_rch_0]
      | succ c ih =>
        intro x M1 hx hf h1
        refine Lq.of (t_247_2_ok X (callw X D') n tot kn kx _ _ M1) ?_
        unfold t_247_2
        simp only [o_nI, z_nI]
        rw [if_pos (by rw [lt_i (by omega) (by omega)]; omega), inb_nI (show x < 4096 by omega) (by decide)]
        simp only [if_true, nI_clamp (show x < 2 ^ 31 by omega)]
        have go : ∀ b, b = decide (x = 0) → Lq X (callw X D') 247 2 [some (.inr (.inl 178)), some (.inl (nI S)), some (.inl (nI (x + 1)))] (Gk n tot kn kx) (up M1 190 x (b2i b)) (fun x M' => (∃ b, x = b2i b ∧ (b = true ↔ q_srv W S)) ∧ Fr [190] M M') := fun b hb => by
          refine ih (x + 1) _ (by omega) (hf.up (by decide)) (fun u hu => ?_)
          rw [up_at]
          by_cases e : u = x
          · subst e; rw [upW_s, hb]
          · rw [upW_n e]; exact h1 u (by omega)
        by_cases e : x = 0
        · rw [if_pos (by rw [e]), Wq_jmp, i1_nI, nI_add]
          exact go true (decide_eq_true e).symm
        · rw [if_neg (by rw [eq_i (by omega) (by omega)]; exact e), Wq_jmp, i1_nI, nI_add]
          exact go false (decide_eq_false e).symm
    refine Lq.of (t_247_0_ok X (callw X D') n tot kn kx _ M) ?_
    unfold t_247_0
    rw [Wq_jmp, o_nI]
    exact fill 4096 0 M (by omega) Fr.rf (fun u hu => absurd hu (Nat.not_lt_zero u)))
theorem m_laysT (hD : 7 ≤ D) {W C : Nat → Int32} (hW : M 179 = W) (hl : q_law W 0 C) (hy : q_invY W) : Sq X D 248 [.inr (.inl 178)] (Gk n tot kn kx) M (fun _ M' => TgP W M' ∧ Fr [187, 188, 189, 190, 191] M M') :=
  Sq.mk (k := 6) hD (fun D' hD' => by
    obtain ⟨w1, w2⟩ := hy.1.2.2.1
    obtain ⟨w3, w4⟩ := hy.1.1
    obtain ⟨w5, w6⟩ := hy.1.2.1
    have p8 : 2 ^ q_n W 98 ≤ 2 ^ 8 := Nat.pow_le_pow_right (by decide) (by omega)
    have pp : 0 < 2 ^ q_n W 98 := Nat.pow_pos (by decide)
    have hw : ∀ M1 : MMw, Fr [187, 188, 189, 190, 191] M M1 → M1 179 = W := fun M1 hf => by rw [hf 179 (by decide)]; exact hW
    have kind4 : ∀ i, i < q_n W 98 → q_n W (142 + 3 * i) < 4 := fun i hi => (hy.2.2.2.2.2.1 i hi).1.2
    have sets : ∀ (c x : Nat) (M1 : MMw), x + c = 2 ^ q_n W 98 → Fr [187, 188, 189, 190, 191] M M1 → SvP W M1 → (∀ S, S < x → ∃ b, M1 189 S = b2i b ∧ (b = true ↔ q_okS (q_wks W) (q_cpl W) S)) → Lq X (callw X D') 248 56 [some (.inr (.inl 178)), some (.inl (nI x)), none] (Gk n tot kn kx) M1 (fun _ M' => TgP W M' ∧ Fr [187, 188, 189, 190, 191] M M') := by
      intro c
      induction c with
      | zero =>
        intro x M1 hx hf hv h1
        refine Lq.of (t_248_56_ok X (callw X D') n tot kn kx _ M1) ?_
        unfold t_248_56
        rw [m_allWorks (by omega) (show M1 179 98 = nI (q_n W 98) by rw [hw M1 hf]; exact w1) (by omega), bnd_some, if_pos (by rw [lt_i (by omega) (by omega)]; omega), Wq_ret]
        exact ⟨fun S hS => h1 S (by omega), hf⟩
      | succ c ih =>
        intro x M1 hx hf hv h1
        refine Lq.of (t_248_56_ok X (callw X D') n tot kn kx _ M1) ?_
        unfold t_248_56
        rw [m_allWorks (by omega) (show M1 179 98 = nI (q_n W 98) by rw [hw M1 hf]; exact w1) (by omega), bnd_some, if_neg (by rw [lt_i (by omega) (by omega)]; omega)]
        refine Wq.call (m_canTogether (by omega) (show x < 2 ^ q_n W 98 by omega) (hw M1 hf) hy hv) ?_
        rintro y M2 ⟨⟨b, rfl, hb⟩, f2⟩
        rw [inb_nI (show x < 256 by omega) (by decide), if_pos rfl, b2i_nrw, if_pos rfl, Wq_jmp, i1_nI, nI_add, nI_clamp (by omega)]
        refine ih (x + 1) _ (by omega) ((hf.tr (f2.mono (by decide))).up (by decide)) (fun t m ht hm => by rw [up_ne (by decide), f2 191 (by decide)]; exact hv t m ht hm) (fun S hS => ?_)
        rw [up_at]
        by_cases e : S = x
        · subst e
          rw [upW_s]
          exact ⟨b, rfl, hb.trans (q_srv_ok (by omega) (by omega) (by omega) (by omega) kind4)⟩
        · rw [upW_n e, f2 189 (by decide)]; exact h1 S (by omega)
    have ms : ∀ (t : Nat), t < q_n W 96 → ∀ Q : Int32 → MMw → Prop, (∀ M1 : MMw, Fr [187, 188, 189, 190, 191] M M1 → (∀ t' m, t' < t + 1 → m < q_n W 97 → M1 191 (4 * t' + m) = b2i (q_serve W t' m)) → Lq X (callw X D') 248 2 [some (.inr (.inl 178)), some (.inl (nI (t + 1))), none] (Gk n tot kn kx) M1 Q) →
        ∀ (c m : Nat) (M1 : MMw), m + c = q_n W 97 → Fr [187, 188, 189, 190, 191] M M1 → (∀ t' m', t' < t → m' < q_n W 97 → M1 191 (4 * t' + m') = b2i (q_serve W t' m')) → (∀ m', m' < m → M1 191 (4 * t + m') = b2i (q_serve W t m')) → Lq X (callw X D') 248 15 [some (.inr (.inl 178)), some (.inl (nI t)), some (.inl (nI m))] (Gk n tot kn kx) M1 Q := by
      intro t ht Q hend c
      induction c with
      | zero =>
        intro m M1 hm hf h1 h2
        refine Lq.of (t_248_15_ok X (callw X D') n tot kn kx _ _ M1) ?_
        unfold t_248_15
        rw [hw M1 hf, w5, if_neg (by rw [lt_i (by omega) (by omega)]; omega), Wq_jmp, i1_nI, nI_add]
        refine hend M1 hf (fun t' m' ht' hm' => ?_)
        by_cases e : t' = t
        · subst e; exact h2 m' (by omega)
        · exact h1 t' m' (by omega) hm'
      | succ c ih =>
        intro m M1 hm hf h1 h2
        refine Lq.of (t_248_15_ok X (callw X D') n tot kn kx _ _ M1) ?_
        unfold t_248_15
        rw [hw M1 hf, w5, if_pos (by rw [lt_i (by omega) (by omega)]; omega)]
        refine Wq.call (m_serve2 (M0 := M1) hD' (hw M1 hf) Fr.rf (by omega) (by omega) hl hy) ?_
        rintro y M2 ⟨rfl, f2⟩
        rw [o_nI, nI_mul, nI_add, inb_nI (show 4 * t + m < 32 by omega) (by decide), if_pos rfl, b2i_nrw, if_pos rfl, Wq_jmp, i1_nI, nI_add, nI_clamp (by omega)]
        refine ih (m + 1) _ (by omega) ((hf.tr (f2.mono (by decide))).up (by decide)) (fun t' m' ht' hm' => ?_) (fun m' hm' => ?_)
        · rw [up_at, upW_n (by omega), f2 191 (by decide)]; exact h1 t' m' ht' hm'
        · rw [up_at]
          by_cases e : m' = m
          · subst e; rw [upW_s]
          · rw [upW_n (by omega), f2 191 (by decide)]; exact h2 m' (by omega)
    have ts : ∀ (c t : Nat) (M1 : MMw), t + c = q_n W 96 → Fr [187, 188, 189, 190, 191] M M1 → (∀ t' m', t' < t → m' < q_n W 97 → M1 191 (4 * t' + m') = b2i (q_serve W t' m')) → Lq X (callw X D') 248 2 [some (.inr (.inl 178)), some (.inl (nI t)), none] (Gk n tot kn kx) M1 (fun _ M' => TgP W M' ∧ Fr [187, 188, 189, 190, 191] M M') := by
      intro c
      induction c with
      | zero =>
        intro t M1 ht hf h1
        refine Lq.of (t_248_2_ok X (callw X D') n tot kn kx _ M1) ?_
        unfold t_248_2
        rw [hw M1 hf, w3, if_neg (by rw [lt_i (by omega) (by omega)]; omega), Wq_jmp, o_nI]
        exact sets (2 ^ q_n W 98) 0 M1 (by omega) hf (fun t' m' ht' hm' => h1 t' m' (by omega) hm') (fun S hS => absurd hS (Nat.not_lt_zero S))
      | succ c ih =>
        intro t M1 ht hf h1
        refine Lq.of (t_248_2_ok X (callw X D') n tot kn kx _ M1) ?_
        unfold t_248_2
        rw [hw M1 hf, w3, if_pos (by rw [lt_i (by omega) (by omega)]; omega), Wq_jmp, o_nI]
        exact ms t (by omega) _ (fun M2 f2 h2 => ih (t + 1) M2 (by omega) f2 h2) (q_n W 97) 0 M1 (by omega) hf h1 (fun m' hm' => absurd hm' (Nat.not_lt_zero m'))
    refine Lq.of (t_248_0_ok X (callw X D') n tot kn kx M) ?_
    unfold t_248_0
    rw [Wq_jmp, o_nI]
    exact ts (q_n W 96) 0 M (by omega) Fr.rf (fun t' m' ht' => absurd ht' (Nat.not_lt_zero t')))
end
