section
-- needs: mfar
/-! the first set; soonest -/
variable {X : KXw} {n tot kn D : Nat} {kx : Nat → Nat × Nat} {M : MMw}
/-- x is the least set that an hour may begin with -/
def LsP (W : Nat → Int32) (r : Nat → Nat) (e : Nat) (x : Int32) : Prop := ∃ S, S < 256 ∧ x = nI S ∧ q_fsP (q_wks W) (q_cpl W) (q_pre W) (q_n W 98) r e S ∧ ∀ S', S' < S → ¬ q_fsP (q_wks W) (q_cpl W) (q_pre W) (q_n W 98) r e S'
theorem LsP.uq {W : Nat → Int32} {r : Nat → Nat} {e : Nat} {x y : Int32} (h : LsP W r e x) (g : LsP W r e y) : x = y := by
  obtain ⟨S, _, rfl, h1, h2⟩ := h
  obtain ⟨S', _, rfl, g1, g2⟩ := g
  rcases Nat.lt_trichotomy S S' with hl | hl | hl
  · exact absurd h1 (g2 S hl)
  · rw [hl]
  · exact absurd g1 (h2 S' hl)
theorem q_not_in {x O : Nat} (hx : x < 2 ^ 31) : (nI x &&& (nI O ^^^ nI 4294967295) = nI 0) = q_le x O := by
  rw [m1n, and_not_0 hx]
  rfl
theorem m_firstSet {W : Nat → Int32} {e : Nat} (hD : 40 ≤ D) (hy : q_invY W) (hm : q_invM W) (hd : q_dW W (q_rd W (fun i => q_n W (8 + i))) (e + 1)) (hW : M 179 = W) (hT : TgP W M) (hM : MmP W M) : Sq X D 255 [.inr (.inl 178), .inl (nI (e + 1))] (Gk n tot kn kx) M (fun x M' => LsP W (q_rd W (fun i => q_n W (8 + i))) e x ∧ Fr [192] M M') := by
  obtain ⟨D', rfl⟩ : ∃ D', D = D' + 1 := ⟨D - 1, by omega⟩
  have w2 := hy.1.2.2.1.2
  have hN : q_n W 98 ≤ 8 := by omega
  have hdT : ∀ i, i < q_n W 98 → q_n W (8 + i) ≤ q_Tk W i := fun i hi => (hm.2.2.2.2 i hi).2.1
  have p8 : 2 ^ q_n W 98 ≤ 2 ^ 8 := Nat.pow_le_pow_right (by decide) hN
  have hOl := q_opn_lt (W := W) (r := q_rd W (fun i => q_n W (8 + i)))
  have hO : q_opn (q_pre W) (q_n W 98) (q_rd W (fun i => q_n W (8 + i))) < 256 := by omega
  obtain ⟨S0, hS0⟩ := q_fs_ex hN hd
  have S0l : S0 ≤ q_opn (q_pre W) (q_n W 98) (q_rd W (fun i => q_n W (8 + i))) := by
    have h1 := q_le_and hS0.2.1
    have h2 : S0 &&& q_opn (q_pre W) (q_n W 98) (q_rd W (fun i => q_n W (8 + i))) ≤ q_opn (q_pre W) (q_n W 98) (q_rd W (fun i => q_n W (8 + i))) := Nat.and_le_right
    omega
  have loop : ∀ (c x : Nat) (M1 : MMw), x + c = 256 → (∀ S', S' < x → ¬ q_fsP (q_wks W) (q_cpl W) (q_pre W) (q_n W 98) (q_rd W (fun i => q_n W (8 + i))) e S') → 0 < x → Fr [192] M M1 → MmP W M1 →
      Lq X (callw X D') 255 11 [some (.inr (.inl 178)), some (.inl (nI (e + 1))), some (.inl (nI (q_opn (q_pre W) (q_n W 98) (q_rd W (fun i => q_n W (8 + i)))))), some (.inl (nI x))] (Gk n tot kn kx) M1 (fun x M' => LsP W (q_rd W (fun i => q_n W (8 + i))) e x ∧ Fr [192] M M') := by
    intro c
    induction c with
    | zero =>
      intro x M1 hx hno h0 hf hm1
      exact absurd hS0 (hno S0 (by omega))
    | succ c ih =>
      intro x M1 hx hno h0 hf hm1
      have hx8 : x < 256 := by omega
      have xle : x ≤ q_opn (q_pre W) (q_n W 98) (q_rd W (fun i => q_n W (8 + i))) := by
        rcases Nat.lt_or_ge S0 x with hl | hl
        · exact absurd hS0 (hno S0 hl)
        · omega
      have next : ∀ M2 : MMw, ¬ q_fsP (q_wks W) (q_cpl W) (q_pre W) (q_n W 98) (q_rd W (fun i => q_n W (8 + i))) e x → Fr [192] M M2 → MmP W M2 → Lq X (callw X D') 255 11 [some (.inr (.inl 178)), some (.inl (nI (e + 1))), some (.inl (nI (q_opn (q_pre W) (q_n W 98) (q_rd W (fun i => q_n W (8 + i)))))), some (.inl (nI (x + 1)))] (Gk n tot kn kx) M2 (fun x M' => LsP W (q_rd W (fun i => q_n W (8 + i))) e x ∧ Fr [192] M M') := fun M2 g1 g2 g3 =>
        ih (x + 1) M2 (by omega) (fun S' hS' => by
          by_cases e : S' = x
          · subst e; exact g1
          · exact hno S' (by omega)) (by omega) g2 g3
      refine Lq.of (t_255_11_ok X (callw X D') n tot kn kx _ _ _ M1) ?_
      unfold t_255_11
      have e9 : M1 179 = W := by rw [hf 179 (by decide)]; exact hW
      have hT1 : TgP W M1 := fun S hS => by rw [hf 189 (by decide)]; exact hT S hS
      simp only [o_nI, z_nI]
      rw [if_neg (by rw [lt_i (by omega) (by omega)]; omega)]
      by_cases hxO : q_le x (q_opn (q_pre W) (q_n W 98) (q_rd W (fun i => q_n W (8 + i))))
      · have hxN : x < 2 ^ q_n W 98 := q_le_sub hxO hOl
        obtain ⟨bt, bt1, bt2⟩ := hT1 x hxN
        rw [if_pos (by rw [q_not_in (by omega)]; exact hxO), inb_nI hx8 (by decide), if_pos rfl, nI_clamp (by omega), bt1]
        cases bt with
        | false =>
          rw [if_pos (by rfl), Wq_jmp, i1_nI, nI_add]
          exact next M1 (fun h => by have := bt2.mpr h.2.2.1; cases this) hf hm1
        | true =>
          have hok := bt2.mp rfl
          have x0 : x ≠ 0 := by omega
          have hd' : ∀ i, i < q_n W 98 → q_n W (8 + i) + (x.testBit i).toNat ≤ q_Tk W i := fun i hi => by
            cases hb : x.testBit i with
            | false => exact hdT i hi
            | true =>
              have h1 := (q_opn_tb.mp (hxO i hb)).2.1
              unfold q_rd at h1
              dsimp only at h1
              show q_n W (8 + i) + 1 ≤ q_Tk W i
              omega
          have hsum := q_sum_stp hxO x0
          rw [← q_rd_stp] at hsum
          have h24 := q_sum_24 (r := q_rd W (fun i => q_n W (8 + i))) hN (fun i hi => by have := (hy.2.2.2.2.2.1 i hi).2.1.2; unfold q_rd q_Tk; omega)
          rw [if_neg (by decide +kernel), m_started (by omega) e9 hy hm, bnd_some, m_step (by omega) hx8 e9 hy, bnd_some, ← q_en_add, m_ended (by omega) e9 hy, bnd_some]
          refine Wq.call (m_farFrom hy 24 D' (fun i => q_n W (8 + i) + (x.testBit i).toNat) M1 (by omega) (by omega) hd' e9 hT1 hm1) ?_
          rintro z M3 ⟨hz, hm3, f3⟩
          rw [q_rd_stp] at hz
          have f3' := hf.tr f3
          rw [nI_sub (by omega), show e + 1 - 1 = e by omega]
          have iff := q_fs_ds hd x0 hxO hok
          have el : e < 24 := by have := q_ds_sum hN hd; omega
          by_cases hz2 : z = nI e
          · rw [if_pos hz2, Wq_ret]
            refine ⟨⟨x, hx8, rfl, ⟨x0, hxO, hok, ?_⟩, hno⟩, f3'⟩
            rcases hz with ⟨h1, _⟩ | ⟨b, b24, h1, hb⟩
            · rw [h1, m1_ne (by omega)] at hz2; cases hz2
            · rw [h1, eq_i (by omega) (by omega)] at hz2
              subst hz2; exact hb.1
          · rw [if_neg hz2, Wq_jmp, i1_nI, nI_add]
            refine next M3 (fun h => hz2 ?_) f3' hm3
            have h5 := iff.mp h.2.2.2
            rcases hz with ⟨_, h2⟩ | ⟨b, b24, h1, hb⟩
            · exact absurd h5.1 (h2 e)
            · rw [h1, hb.uq h5]
      · rw [if_neg (by rw [q_not_in (by omega)]; exact hxO), Wq_jmp, i1_nI, nI_add]
        exact next M1 (fun h => hxO h.2.1) hf hm1
  refine Sq.of ?_
  refine Lq.of (t_255_0_ok X (callw X D') n tot kn kx _ M) ?_
  unfold t_255_0
  rw [m_started (by omega) hW hy hm, bnd_some, m_openIn (d := fun i => q_n W (8 + i)) (by omega) hdT hW hy, bnd_some, Wq_jmp]
  exact loop 255 1 M (by omega) (fun S' hS' h => h.1 (by omega)) (by decide) Fr.rf hM
/-- the answer to soonest j -/
def SoP (W : Nat → Int32) (r : Nat → Nat) (j : Nat) (x : Int32) : Prop := (x = -1 ∧ ∀ k, ¬ q_fW W k r) ∨ ∃ d, d ≤ 24 ∧ q_dW W r d ∧ (j = 0 → x = nI d) ∧ (j ≠ 0 → (d = 0 → x = nI 0) ∧ ∀ e, d = e + 1 → LsP W r e x)
theorem SoP.uq {W : Nat → Int32} {r : Nat → Nat} {j : Nat} {x y : Int32} (h : SoP W r j x) (g : SoP W r j y) : x = y := by
  rcases h with ⟨rfl, h1⟩ | ⟨d, d1, d2, d3, d4⟩
  · rcases g with ⟨rfl, _⟩ | ⟨d, _, d2, _⟩
    · rfl
    · exact absurd d2.1 (h1 d)
  · rcases g with ⟨rfl, g1⟩ | ⟨d', _, g2, g3, g4⟩
    · exact absurd d2.1 (g1 d)
    · have e := d2.uq g2
      subst e
      by_cases hj : j = 0
      · rw [d3 hj, g3 hj]
      · obtain ⟨a1, a2⟩ := d4 hj
        obtain ⟨b1, b2⟩ := g4 hj
        cases d with
        | zero => rw [a1 rfl, b1 rfl]
        | succ e => exact (a2 e rfl).uq (b2 e rfl)
theorem m_soonest {W C : Nat → Int32} {j : Nat} (hj : j < 2) (hD : 60 ≤ D) (hW : M 179 = W) (hl : q_law W 0 C) (hy : q_invY W) (hm : q_invM W) : Sq X D 256 [.inr (.inl 178), .inl (nI j)] (Gk n tot kn kx) M (fun x M' => SoP W (q_rd W (fun i => q_n W (8 + i))) j x ∧ Fr [187, 188, 189, 190, 191, 192] M M') := by
  obtain ⟨D', rfl⟩ : ∃ D', D = D' + 1 := ⟨D - 1, by omega⟩
  have w2 := hy.1.2.2.1.2
  have hN : q_n W 98 ≤ 8 := by omega
  have hdT : ∀ i, i < q_n W 98 → q_n W (8 + i) ≤ q_Tk W i := fun i hi => (hm.2.2.2.2 i hi).2.1
  have en16 : ∀ d : Nat → Nat, (∀ i, i < q_n W 98 → d i ≤ q_Tk W i) → q_en d (q_n W 98) < 65536 := fun d hd => Nat.lt_of_lt_of_le (q_en_lt (fun i hi => by have := hd i hi; have := (hy.2.2.2.2.2.1 i hi).2.1.2; unfold q_Tk at *; omega)) (show 4 ^ q_n W 98 ≤ 4 ^ 8 from Nat.pow_le_pow_right (by decide) hN)
  have fill : ∀ (c x : Nat) (M1 : MMw), x + c = 65536 → Fr [187, 188, 189, 190, 191, 192] M M1 → TgP W M1 → (∀ u, u < x → M1 192 u = nI 4294967294) → Lq X (callw X D') 256 17 [some (.inr (.inl 178)), some (.inl (nI j)), some (.inl (nI x))] (Gk n tot kn kx) M1 (fun x M' => SoP W (q_rd W (fun i => q_n W (8 + i))) j x ∧ Fr [187, 188, 189, 190, 191, 192] M M') := by
    intro c
    induction c with
    | zero =>
      intro x M1 hx hf hT h1
      refine Lq.of (t_256_17_ok X (callw X D') n tot kn kx _ _ M1) ?_
      unfold t_256_17
      have e9 : M1 179 = W := by rw [hf 179 (by decide)]; exact hW
      simp only [o_nI, z_nI]
      rw [if_neg (by rw [lt_i (by omega) (by omega)]; omega), m_started (by omega) e9 hy hm, bnd_some, m_ended (by omega) e9 hy, bnd_some]
      have h24 := q_sum_24 (r := q_rd W (fun i => q_n W (8 + i))) hN (fun i hi => by have := (hy.2.2.2.2.2.1 i hi).2.1.2; unfold q_rd q_Tk; omega)
      refine Wq.call (m_farFrom hy 24 D' (fun i => q_n W (8 + i)) M1 (by omega) h24 hdT e9 hT (fun d hd => Or.inl (h1 _ (by have := en16 d hd; omega)))) ?_
      rintro z M2 ⟨hz, hm2, f2⟩
      have f2' := hf.tr (f2.mono (L' := [187, 188, 189, 190, 191, 192]) (by decide))
      have e92 : M2 179 = W := by rw [f2 179 (by decide)]; exact e9
      have hT2 : TgP W M2 := fun S hS => by rw [f2 189 (by decide)]; exact hT S hS
      by_cases hj0 : j = 0
      · rw [if_pos (by rw [hj0]), Wq_ret]
        rcases hz with h | ⟨d, d1, d2, d3⟩
        · exact ⟨Or.inl h, f2'⟩
        · exact ⟨Or.inr ⟨d, d1, d3, fun _ => d2, fun h => absurd hj0 h⟩, f2'⟩
      · rw [if_neg (by rw [eq_i (by omega) (by omega)]; exact hj0), m1n]
        rcases hz with ⟨rfl, h⟩ | ⟨d, d1, rfl, d3⟩
        · rw [if_pos rfl, Wq_ret]
          exact ⟨Or.inl ⟨rfl, h⟩, f2'⟩
        · rw [if_neg (by rw [nI_nm1 (by omega)]; exact id)]
          cases d with
          | zero =>
            rw [if_pos rfl, Wq_ret]
            exact ⟨Or.inr ⟨0, by decide, d3, fun h => absurd h hj0, fun _ => ⟨fun _ => rfl, fun e he => by cases he⟩⟩, f2'⟩
          | succ e =>
            rw [if_neg (by rw [eq_i (by omega) (by omega)]; omega)]
            refine Wq.call (m_firstSet (by omega) hy hm d3 e92 hT2 hm2) ?_
            rintro z M3 ⟨hz, f3⟩
            rw [Wq_ret]
            exact ⟨Or.inr ⟨e + 1, d1, d3, fun h => absurd h hj0, fun _ => ⟨fun h => (by cases h), fun e' he => by cases he; exact hz⟩⟩, f2'.tr (f3.mono (by decide))⟩
    | succ c ih =>
      intro x M1 hx hf hT h1
      refine Lq.of (t_256_17_ok X (callw X D') n tot kn kx _ _ M1) ?_
      unfold t_256_17
      rw [o_nI, if_pos (by rw [lt_i (by omega) (by omega)]; omega), inb_nI (show x < 65536 by omega) (by decide), if_pos rfl, Wq_jmp, i1_nI, nI_add, nI_clamp (by omega), o_nI]
      refine ih (x + 1) _ (by omega) (hf.up (by decide)) (fun S hS => by rw [up_ne (by decide)]; exact hT S hS) (fun u hu => ?_)
      rw [up_at]
      by_cases e : u = x
      · subst e; rw [upW_s]
      · rw [upW_n e]; exact h1 u (by omega)
  refine Sq.of ?_
  refine Lq.of (t_256_0_ok X (callw X D') n tot kn kx _ M) ?_
  unfold t_256_0
  simp only [o_nI]
  rw [m_in (by omega), bnd_some, show q_in (nI j) 0 1 = true by unfold q_in; rw [decide_eq_false (by rw [lt_i (by omega) (by omega)]; omega), decide_eq_false (by rw [lt_i (by omega) (by omega)]; omega)]; rfl, if_neg (by decide)]
  refine Wq.call (m_laysT (by omega) hW hl hy) ?_
  rintro z M2 ⟨hT2, f2⟩
  rw [Wq_jmp]
  exact fill 65536 0 M2 (by omega) (f2.mono (by decide)) hT2 (fun u hu => absurd hu (Nat.not_lt_zero u))
end
