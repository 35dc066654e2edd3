section
-- needs: mlays
/-! the reference's search -/
variable {X : KXw} {n tot kn D : Nat} {kx : Nat → Nat × Nat} {M : MMw}
def q_Tk (W : Nat → Int32) (i : Nat) : Nat := q_n W (143 + 3 * i)
def q_rd (W : Nat → Int32) (d : Nat → Nat) (i : Nat) : Nat := q_Tk W i - d i
/-- the answer that r hours have -/
def AnP (W : Nat → Int32) (r : Nat → Nat) (x : Int32) : Prop := (x = -1 ∧ ∀ k, ¬ q_fW W k r) ∨ ∃ d, d ≤ 24 ∧ x = nI d ∧ q_dW W r d
theorem AnP.cg {W : Nat → Int32} {r r' : Nat → Nat} {x : Int32} (hy : q_invY W) (h : ∀ i, i < q_n W 98 → r i = r' i) (g : AnP W r x) : AnP W r' x := by
  have w2 := hy.1.2.2.1.2
  rcases g with ⟨g1, g2⟩ | ⟨d, g1, g2, g3⟩
  · exact Or.inl ⟨g1, fun k hk => g2 k (q_fin_cg (by omega) (q_pre_lt hy) (fun i hi => (h i hi).symm) hk)⟩
  · exact Or.inr ⟨d, g1, g2, g3.cg (by omega) (q_pre_lt hy) h⟩
/-- the reference's notes -/
def MmP (W : Nat → Int32) (M : MMw) : Prop := ∀ d, (∀ i, i < q_n W 98 → d i ≤ q_Tk W i) → M 192 (q_en d (q_n W 98)) = nI 4294967294 ∨ AnP W (q_rd W d) (M 192 (q_en d (q_n W 98)))
theorem q_en_add {d : Nat → Nat} {S : Nat} : ∀ n, q_en (fun i => d i + (S.testBit i).toNat) n = q_en d n + q_sp S n
  | 0 => rfl
  | n + 1 => by
    show q_en (fun i => d i + (S.testBit i).toNat) n + (d n + (S.testBit n).toNat) * 4 ^ n = q_en d n + d n * 4 ^ n + (q_sp S n + (S.testBit n).toNat * 4 ^ n)
    rw [q_en_add n, Nat.add_mul]
    omega
theorem q_rd_stp {W : Nat → Int32} {d : Nat → Nat} {S : Nat} : q_rd W (fun i => d i + (S.testBit i).toNat) = q_stp (q_rd W d) S := by
  funext i
  unfold q_rd q_stp
  rw [Nat.sub_add_eq]
/-- the best so far -/
def BsP (W : Nat → Int32) (r : Nat → Nat) (x : Nat) (y : Int32) : Prop := (y = -1 ∧ ∀ S, x < S → q_cand (q_wks W) (q_cpl W) (q_pre W) (q_n W 98) r S → ∀ k, ¬ q_fW W k (q_stp r S)) ∨ ∃ b, b ≤ 25 ∧ y = nI b ∧ q_fW W b r ∧ ∀ S, x < S → q_cand (q_wks W) (q_cpl W) (q_pre W) (q_n W 98) r S → ∀ k, q_fW W k (q_stp r S) → b ≤ k + 1
theorem BsP.an {W : Nat → Int32} {r : Nat → Nat} {y : Int32} (hy : q_invY W) (hr : ∀ i, i < q_n W 98 → r i < 4) (h0 : ¬ ∀ i, i < q_n W 98 → r i = 0) (h : BsP W r 0 y) : AnP W r y := by
  have w2 := hy.1.2.2.1.2
  have hN : q_n W 98 ≤ 8 := by omega
  rcases h with ⟨h1, h2⟩ | ⟨b, h1, h2, h3, h4⟩
  · refine Or.inl ⟨h1, fun k hk => ?_⟩
    obtain ⟨d, _, hd⟩ := q_ds_ex hk
    obtain ⟨e, S, e1, e2, e3⟩ := q_ds_full hN hd h0
    exact h2 S (by have := e2.1; omega) e2 e e3
  · obtain ⟨d, d1, hd⟩ := q_ds_ex h3
    obtain ⟨e, S, e1, e2, e3⟩ := q_ds_full hN hd h0
    have h5 := h4 S (by have := e2.1; omega) e2 e e3
    have h6 := Nat.le_trans (q_ds_sum hN hd) (q_sum_24 hN hr)
    exact Or.inr ⟨d, h6, by rw [h2, show b = d by omega], hd⟩
theorem BsP.next {W : Nat → Int32} {r : Nat → Nat} {x : Nat} {y : Int32} (hy : q_invY W) (hx : q_le x (q_opn (q_pre W) (q_n W 98) r)) (h : BsP W r x y) (hn : q_cand (q_wks W) (q_cpl W) (q_pre W) (q_n W 98) r x → (∀ k, ¬ q_fW W k (q_stp r x)) ∨ ∃ b, y = nI b ∧ b ≤ 25 ∧ ∀ k, q_fW W k (q_stp r x) → b ≤ k + 1) : BsP W r ((x - 1) &&& q_opn (q_pre W) (q_n W 98) r) y := by
  have w2 := hy.1.2.2.1.2
  have p8 : 2 ^ q_n W 98 ≤ 2 ^ 8 := Nat.pow_le_pow_right (by decide) (by omega)
  have hO : q_opn (q_pre W) (q_n W 98) r < 256 := by have := q_opn_lt (W := W) (r := r); omega
  have tri : ∀ S, (x - 1) &&& q_opn (q_pre W) (q_n W 98) r < S → q_cand (q_wks W) (q_cpl W) (q_pre W) (q_n W 98) r S → S = x ∨ x < S := fun S hS hc => by
    rcases Nat.lt_trichotomy S x with hl | hl | hl
    · have := q_sub_next hO hx hc.2.1 hl
      omega
    · exact Or.inl hl
    · exact Or.inr hl
  rcases h with ⟨h1, h2⟩ | ⟨b, h1, h2, h3, h4⟩
  · refine Or.inl ⟨h1, fun S hS hc k hk => ?_⟩
    rcases tri S hS hc with e | e
    · subst e
      rcases hn hc with g | ⟨b, g1, g2, _⟩
      · exact g k hk
      · rw [h1] at g1
        rw [m1_ne (by omega)] at g1
        exact g1
    · exact h2 S e hc k hk
  · refine Or.inr ⟨b, h1, h2, h3, fun S hS hc k hk => ?_⟩
    rcases tri S hS hc with e | e
    · subst e
      rcases hn hc with g | ⟨b2, g1, g2, g3⟩
      · exact absurd hk (g k)
      · rw [h2, eq_i (by omega) (by omega)] at g1
        rw [g1]; exact g3 k hk
    · exact h4 S e hc k hk
theorem BsP.new {W : Nat → Int32} {r : Nat → Nat} {x b : Nat} {y : Int32} (hy : q_invY W) (hx : q_le x (q_opn (q_pre W) (q_n W 98) r)) (h : BsP W r x y) (hb : b ≤ 25) (hf : q_fW W b r) (hle : y = -1 ∨ ∃ b', b' ≤ 25 ∧ y = nI b' ∧ b ≤ b') (hn : ∀ k, q_fW W k (q_stp r x) → b ≤ k + 1) : BsP W r ((x - 1) &&& q_opn (q_pre W) (q_n W 98) r) (nI b) := by
  have h' : BsP W r x (nI b) := by
    rcases h with ⟨h1, h2⟩ | ⟨b1, h1, h2, h3, h4⟩
    · exact Or.inr ⟨b, hb, rfl, hf, fun S hS hc k hk => absurd hk (h2 S hS hc k)⟩
    · refine Or.inr ⟨b, hb, rfl, hf, fun S hS hc k hk => ?_⟩
      have g := h4 S hS hc k hk
      rcases hle with e | ⟨b', e1, e2, e3⟩
      · rw [h2, nI_nm1 (by omega)] at e; cases e
      · rw [h2, eq_i (by omega) (by omega)] at e2
        omega
  exact h'.next hy hx (fun _ => Or.inr ⟨b, rfl, hb, hn⟩)
abbrev FaQ (W : Nat → Int32) (r : Nat → Nat) (M : MMw) (x : Int32) (M' : MMw) : Prop := AnP W r x ∧ MmP W M' ∧ Fr [192] M M'
theorem m_farFrom {W : Nat → Int32} (hy : q_invY W) : ∀ (m D : Nat) (d : Nat → Nat) (M : MMw), m + 4 ≤ D → q_sum (q_rd W d) (q_n W 98) ≤ m → (∀ i, i < q_n W 98 → d i ≤ q_Tk W i) → M 179 = W → TgP W M → MmP W M →
    Sq X D 254 [.inr (.inl 178), .inl (nI (q_en d (q_n W 98))), .inl (nI (q_en (q_Tk W) (q_n W 98)))] (Gk n tot kn kx) M (FaQ W (q_rd W d) M) := by
  have w2 := hy.1.2.2.1.2
  have hN : q_n W 98 ≤ 8 := by omega
  have T4 : ∀ i, i < q_n W 98 → q_Tk W i < 4 := fun i hi => (hy.2.2.2.2.2.1 i hi).2.1.2
  have en16 : ∀ d : Nat → Nat, (∀ i, i < q_n W 98 → d i ≤ q_Tk W i) → q_en d (q_n W 98) < 65536 := fun d hd => Nat.lt_of_lt_of_le (q_en_lt (fun i hi => by have := hd i hi; have := T4 i hi; omega)) (show 4 ^ q_n W 98 ≤ 4 ^ 8 from Nat.pow_le_pow_right (by decide) hN)
  have eqz : ∀ d : Nat → Nat, (∀ i, i < q_n W 98 → d i ≤ q_Tk W i) → (q_en d (q_n W 98) = q_en (q_Tk W) (q_n W 98) ↔ ∀ i, i < q_n W 98 → q_rd W d i = 0) := fun d hd => by
    constructor
    · intro h i hi
      have := q_en_inj (fun i hi => by have := hd i hi; have := T4 i hi; omega) T4 h i hi
      unfold q_rd; omega
    · intro h
      have e : ∀ n, n ≤ q_n W 98 → q_en d n = q_en (q_Tk W) n := fun n => by
        induction n with
        | zero => intro _; rfl
        | succ n ih =>
          intro hn
          have h1 := h n (by omega)
          have h2 := hd n (by omega)
          unfold q_rd at h1
          rw [q_en, q_en, ih (by omega), show d n = q_Tk W n by omega]
      exact e _ (Nat.le_refl _)
  have zcase : ∀ (D : Nat) (d : Nat → Nat) (M : MMw), 1 ≤ D → (∀ i, i < q_n W 98 → d i ≤ q_Tk W i) → (∀ i, i < q_n W 98 → q_rd W d i = 0) → MmP W M → Sq X D 254 [.inr (.inl 178), .inl (nI (q_en d (q_n W 98))), .inl (nI (q_en (q_Tk W) (q_n W 98)))] (Gk n tot kn kx) M (FaQ W (q_rd W d) M) := fun D d M hD hd h0 hm =>
    Sq.mk (k := 0) hD (fun D' _ => by
      refine Lq.of (t_254_0_ok X (callw X D') n tot kn kx _ _ M) ?_
      unfold t_254_0
      rw [if_pos (by rw [(eqz d hd).mpr h0]), Wq_ret]
      exact ⟨Or.inr ⟨0, by decide, rfl, q_ds_0 h0⟩, hm, Fr.rf⟩)
  intro m
  induction m with
  | zero =>
    intro D d M hD hm hd hW hT hM
    exact zcase D d M (by omega) hd (fun i hi => by have := q_sum_ge (f := q_rd W d) hi; omega) hM
  | succ m ih =>
    intro D d M hD hm hd hW hT hM
    by_cases h0 : ∀ i, i < q_n W 98 → q_rd W d i = 0
    · exact zcase D d M (by omega) hd h0 hM
    refine Sq.mk (k := m + 4) (by omega) (fun D' hD' => ?_)
    refine Lq.of (t_254_0_ok X (callw X D') n tot kn kx _ _ M) ?_
    unfold t_254_0
    have elt := en16 d hd
    have e2lt := en16 (q_Tk W) (fun _ _ => Nat.le_refl _)
    have r4 : ∀ i, i < q_n W 98 → q_rd W d i < 4 := fun i hi => by have := T4 i hi; unfold q_rd; omega
    have p8 : 2 ^ q_n W 98 ≤ 2 ^ 8 := Nat.pow_le_pow_right (by decide) hN
    have hOl := q_opn_lt (W := W) (r := q_rd W d)
    have hO : q_opn (q_pre W) (q_n W 98) (q_rd W d) < 256 := by omega
    have loop : ∀ (c x : Nat) (y : Int32) (M1 : MMw), x ≤ c → q_le x (q_opn (q_pre W) (q_n W 98) (q_rd W d)) → BsP W (q_rd W d) x y → Fr [192] M M1 → MmP W M1 →
        Lq X (callw X D') 254 37 [some (.inr (.inl 178)), some (.inl (nI (q_en d (q_n W 98)))), some (.inl (nI (q_en (q_Tk W) (q_n W 98)))), some (.inl (nI (q_opn (q_pre W) (q_n W 98) (q_rd W d)))), some (.inl y), some (.inl (nI x)), none] (Gk n tot kn kx) M1 (FaQ W (q_rd W d) M) := by
      intro c
      induction c with
      | zero =>
        intro x y M1 hx hxO hB hf hm1
        refine Lq.of (t_254_37_ok X (callw X D') n tot kn kx _ _ _ _ _ M1) ?_
        unfold t_254_37
        have x0 : x = 0 := by omega
        subst x0
        simp only [z_nI]
        rw [if_neg (by rw [lt_i (by omega) (by omega)]; omega), inb_nI elt (by decide), if_pos rfl, nI_clamp (by omega), Wq_ret]
        have han := hB.an hy r4 h0
        refine ⟨han, fun d2 hd2 => ?_, hf.up (by decide)⟩
        rw [up_at]
        by_cases e : q_en d2 (q_n W 98) = q_en d (q_n W 98)
        · rw [e, upW_s]
          refine Or.inr (han.cg hy (fun i hi => ?_))
          have := q_en_inj (fun i hi => by have := hd2 i hi; have := T4 i hi; omega) (fun i hi => by have := hd i hi; have := T4 i hi; omega) e i hi
          unfold q_rd; rw [this]
        · rw [upW_n e]; exact hm1 d2 hd2
      | succ c ihc =>
        intro x y M1 hx hxO hB hf hm1
        have hx8 : x < 256 := q_le_lt hxO hO
        by_cases hx0 : x = 0
        · exact ihc x y M1 (by omega) hxO hB hf hm1
        refine Lq.of (t_254_37_ok X (callw X D') n tot kn kx _ _ _ _ _ M1) ?_
        unfold t_254_37
        have hnle : (x - 1) &&& q_opn (q_pre W) (q_n W 98) (q_rd W d) ≤ x - 1 := Nat.and_le_left
        have hdn := nI_dn (x := x) (O := q_opn (q_pre W) (q_n W 98) (q_rd W d)) (by omega)
        have e9 : M1 179 = W := by rw [hf 179 (by decide)]; exact hW
        have hT1 : TgP W M1 := fun S hS => by rw [hf 189 (by decide)]; exact hT S hS
        have hxN : x < 2 ^ q_n W 98 := q_le_sub hxO hOl
        obtain ⟨bt, bt1, bt2⟩ := hT1 x hxN
        have next : ∀ (y' : Int32) (M2 : MMw), BsP W (q_rd W d) ((x - 1) &&& q_opn (q_pre W) (q_n W 98) (q_rd W d)) y' → Fr [192] M M2 → MmP W M2 → Lq X (callw X D') 254 37 [some (.inr (.inl 178)), some (.inl (nI (q_en d (q_n W 98)))), some (.inl (nI (q_en (q_Tk W) (q_n W 98)))), some (.inl (nI (q_opn (q_pre W) (q_n W 98) (q_rd W d)))), some (.inl y'), some (.inl (nI ((x - 1) &&& q_opn (q_pre W) (q_n W 98) (q_rd W d)))), none] (Gk n tot kn kx) M2 (FaQ W (q_rd W d) M) := fun y' M2 g1 g2 g3 => ihc _ y' M2 (by omega) q_le_and2 g1 g2 g3
        simp only [o_nI, z_nI]
        rw [if_pos (by rw [lt_i (by omega) (by omega)]; omega), inb_nI hx8 (by decide), if_pos rfl, nI_clamp (by omega), bt1, hdn]
        cases bt with
        | false =>
          rw [if_pos (by rfl), Wq_jmp]
          exact next y M1 (hB.next hy hxO (fun hc => by have := bt2.mpr hc.2.2.1; cases this)) hf hm1
        | true =>
          have hok := bt2.mp rfl
          rw [if_neg (by decide +kernel)]
          refine Wq.call (m_isFull (by omega) hOl hxO e9 hy hT1) ?_
          rintro z M2 ⟨⟨bf, rfl, hbf⟩, rfl⟩
          cases bf with
          | false =>
            rw [if_pos (by rfl), Wq_jmp]
            exact next y M2 (hB.next hy hxO (fun hc => by have := hbf.mpr hc.2.2.2; cases this)) hf hm1
          | true =>
            have hc : q_cand (q_wks W) (q_cpl W) (q_pre W) (q_n W 98) (q_rd W d) x := ⟨hx0, hxO, hok, hbf.mp rfl⟩
            have hd' : ∀ i, i < q_n W 98 → d i + (x.testBit i).toNat ≤ q_Tk W i := fun i hi => by
              cases hb : x.testBit i with
              | false => exact hd i hi
              | true =>
                have h1 := (q_opn_tb.mp (hxO i hb)).2.1
                unfold q_rd at h1
                show d i + 1 ≤ q_Tk W i
                omega
            rw [if_neg (by decide +kernel), m_step (by omega) hx8 e9 hy, bnd_some, ← q_en_add]
            have hsum := q_sum_stp hxO hx0
            rw [← q_rd_stp] at hsum
            refine Wq.call (ih D' (fun i => d i + (x.testBit i).toNat) M2 (by omega) (by omega) hd' e9 hT1 hm1) ?_
            rintro z M3 ⟨hz, hm3, f3⟩
            rw [q_rd_stp] at hz
            have f3' := hf.tr f3
            rcases hz with ⟨rfl, hz⟩ | ⟨b, b24, rfl, hb⟩
            · rw [m1n, if_pos rfl, Wq_jmp]
              exact next y M3 (hB.next hy hxO (fun _ => Or.inl hz)) f3' hm3
            · rw [m1n, if_neg (by rw [nI_nm1 (by omega)]; exact id), nI_add]
              have hup : q_fW W (b + 1) (q_rd W d) := Or.inr ⟨x, hxO, hok, hb.1⟩
              have hmin : ∀ k, q_fW W k (q_stp (q_rd W d) x) → b + 1 ≤ k + 1 := fun k hk => by have := hb.le hk; omega
              have hB2 := id hB
              rcases hB2 with ⟨rfl, _⟩ | ⟨b1, b1l, rfl, _, _⟩
              · rw [if_pos rfl, Wq_jmp]
                exact next _ M3 (hB.new hy hxO (by omega) hup (Or.inl rfl) hmin) f3' hm3
              · rw [if_neg (by rw [nI_nm1 (by omega)]; exact id)]
                by_cases hl : b + 1 < b1
                · rw [if_pos (by rw [lt_i (by omega) (by omega)]; exact hl), Wq_jmp]
                  exact next _ M3 (hB.new hy hxO (by omega) hup (Or.inr ⟨b1, b1l, rfl, by omega⟩) hmin) f3' hm3
                · rw [if_neg (by rw [lt_i (by omega) (by omega)]; exact hl), Wq_jmp]
                  exact next _ M3 (hB.next hy hxO (fun _ => Or.inr ⟨b1, rfl, b1l, fun k hk => by have := hmin k hk; omega⟩)) f3' hm3
    rw [if_neg (by rw [eq_i (by omega) (by omega)]; exact fun e => h0 ((eqz d hd).mp e)), inb_nI elt (by decide)]
    simp only [if_true, nI_clamp (show q_en d (q_n W 98) < 2 ^ 31 by omega), o_nI]
    by_cases hmm : M 192 (q_en d (q_n W 98)) = nI 4294967294
    · rw [if_pos hmm, m_openIn (d := d) (by omega) hd hW hy, bnd_some, Wq_jmp]
      show Lq X (callw X D') 254 37 [some (.inr (.inl 178)), some (.inl (nI (q_en d (q_n W 98)))), some (.inl (nI (q_en (q_Tk W) (q_n W 98)))), some (.inl (nI (q_opn (q_pre W) (q_n W 98) (q_rd W d)))), some (.inl (nI 4294967295)), some (.inl (nI (q_opn (q_pre W) (q_n W 98) (q_rd W d)))), none] (Gk n tot kn kx) M (FaQ W (q_rd W d) M)
      rw [m1n]
      refine loop _ _ (-1) M (Nat.le_refl _) (fun j hj => hj) (Or.inl ⟨rfl, fun S hS hc => ?_⟩) Fr.rf hM
      have h1 := q_le_and hc.2.1
      have h2 : S &&& q_opn (q_pre W) (q_n W 98) (q_rd W d) ≤ q_opn (q_pre W) (q_n W 98) (q_rd W d) := Nat.and_le_right
      omega
    · rw [if_neg hmm, Wq_ret]
      exact ⟨(hM d hd).resolve_left hmm, hM, Fr.rf⟩
end
