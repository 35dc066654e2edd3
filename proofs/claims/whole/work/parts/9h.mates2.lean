section
-- needs: mates
/-! the reference's mates -/
theorem q_bt_eq {W : Nat → Int32} {A : Nat → Nat} {m : Nat} (hT : q_n W 96 ≤ 8) (hm : m < q_n W 97) : q_bt W A m = q_bs W (fun t => q_serve W t m && !(A m).testBit t) (q_n W 96) := by
  unfold q_bt
  have h1 := q_bs_hi (W := W) (p := fun t => (q_lf W A m).testBit t) (T := q_n W 96) (fun i hi => by rw [q_lf_tb, decide_eq_false (show ¬ i < q_n W 96 by omega), Bool.false_and, Bool.and_false]) (8 - q_n W 96)
  rw [show q_n W 96 + (8 - q_n W 96) = 8 by omega] at h1
  rw [h1]
  exact q_bs_cong (fun i hi => by rw [q_lf_tb, decide_eq_true hm, decide_eq_true hi, Bool.true_and, Bool.true_and])
def MdR (M : MMw) (σ : Mt) : Prop := (∀ t, t < 8 → M 193 t = q_oI (σ.B t)) ∧ ∀ m, m < 4 → M 194 m = nI (σ.A m)
def q_inv (W : Nat → Int32) (F : Mt) (f : Nat) (σ : Mt) (x : Nat) (c : Option Nat) : Prop :=
  q_mw W σ ∧ q_mu W σ.A ≤ f ∧ q_mr W f σ = F ∧ (∀ k, c = some k → k ≤ x ∧ σ.C k = none) ∧ (∀ k, k ≤ x → c ≠ some k → ¬ (σ.C k = none ∧ q_lf W σ.A k ≠ 0)) ∧ ∀ k, x < k → σ.C k = none ∧ σ.A k = 0
theorem q_inv.step {W : Nat → Int32} {F σ : Mt} {f x m t : Nat} (hT : q_n W 96 ≤ 8) (hN : q_n W 97 ≤ 4) (h : q_inv W F f σ x (some m)) (hb : q_bt W σ.A m = some t) : ∃ f', f = f' + 1 ∧
    (σ.B t = none → q_inv W F f' (q_ak1 σ m t) x none) ∧
    (∀ o, σ.B t = some o → q_rt W t m o = true → q_inv W F f' (q_ak2 σ m t o) x (some o)) ∧
    (∀ o, σ.B t = some o → q_rt W t m o = false → q_inv W F f' (q_ak3 σ m t) x (some m)) := by
  obtain ⟨h1, h2, h3, h4, h5, h6⟩ := h
  obtain ⟨mx, mc⟩ := h4 m rfl
  obtain ⟨b1, b2, b3, b4, b5⟩ := q_bt_some hb
  have hl0 : q_lf W σ.A m ≠ 0 := fun e => by rw [e, Nat.zero_testBit] at b5; cases b5
  have hmu := q_mu_less hT hN hb
  obtain ⟨f', rfl⟩ : ∃ f', f = f' + 1 := ⟨f - 1, by omega⟩
  have hnx : q_nx W σ = some m := by
    refine q_find_at (fun j hj => ?_) (by rw [mc, decide_eq_true hl0]; rfl) (by omega)
    cases e : ((σ.C j).isNone && decide (q_lf W σ.A j ≠ 0)) with
    | false => rfl
    | true =>
      rw [Bool.and_eq_true, decide_eq_true_eq, Option.isNone_iff_eq_none] at e
      exact absurd e (h5 j (by omega) (fun hh => by cases hh; omega))
  have hrun : q_mr W f' (q_ak W σ m) = F := by
    rw [q_mr, hnx] at h3
    exact h3
  have hw := h1.ak hT mc hb
  have hmu2 : q_mu W (q_akA σ m t) ≤ f' := by omega
  have lf : ∀ k, k ≠ m → q_lf W (q_akA σ m t) k = q_lf W σ.A k := fun k hk => by unfold q_akA; exact q_lf_up hk
  have la : ∀ k, k ≠ m → q_akA σ m t k = σ.A k := fun k hk => by unfold q_akA; exact q_up_n hk
  refine ⟨f', rfl, fun hB => ?_, fun o hB hr => ?_, fun o hB hr => ?_⟩
  · rw [q_ak_1 hb hB] at hrun hw
    refine ⟨hw, hmu2, hrun, fun k hk => (by cases hk), fun k hk _ => ?_, fun k hk => ?_⟩
    · show ¬ (q_up σ.C m (some t) k = none ∧ q_lf W (q_akA σ m t) k ≠ 0)
      by_cases e : k = m
      · subst e; rw [q_up_s]; rintro ⟨hh, _⟩; cases hh
      · rw [q_up_n e, lf k e]; exact h5 k hk (fun hh => by cases hh; exact e rfl)
    · show q_up σ.C m (some t) k = none ∧ q_akA σ m t k = 0
      rw [q_up_n (by omega), la k (by omega)]; exact h6 k hk
  · have ho := (h1.1 t o).mp hB
    have hom : o ≠ m := fun hh => by rw [hh, mc] at ho; cases ho
    have hox : o ≤ x := by
      rcases Nat.lt_or_ge x o with hl | hl
      · rw [(h6 o hl).1] at ho; cases ho
      · exact hl
    rw [q_ak_2 hb hB hr] at hrun hw
    refine ⟨hw, hmu2, hrun, fun k hk => ?_, fun k hk hne => ?_, fun k hk => ?_⟩
    · cases hk
      refine ⟨hox, ?_⟩
      show q_up (q_up σ.C o none) m (some t) o = none
      rw [q_up_n hom, q_up_s]
    · show ¬ (q_up (q_up σ.C o none) m (some t) k = none ∧ q_lf W (q_akA σ m t) k ≠ 0)
      by_cases e : k = m
      · subst e; rw [q_up_s]; rintro ⟨hh, _⟩; cases hh
      · have eo : k ≠ o := fun hh => hne (by rw [hh])
        rw [q_up_n e, q_up_n eo, lf k e]; exact h5 k hk (fun hh => by cases hh; exact e rfl)
    · show q_up (q_up σ.C o none) m (some t) k = none ∧ q_akA σ m t k = 0
      rw [q_up_n (by omega), q_up_n (by omega), la k (by omega)]; exact h6 k hk
  · rw [q_ak_3 hb hB hr] at hrun hw
    refine ⟨hw, hmu2, hrun, fun k hk => ?_, fun k hk hne => ?_, fun k hk => ?_⟩
    · cases hk
      exact ⟨mx, mc⟩
    · show ¬ (σ.C k = none ∧ q_lf W (q_akA σ m t) k ≠ 0)
      have e : k ≠ m := fun hh => hne (by rw [hh])
      rw [lf k e]; exact h5 k hk hne
    · show σ.C k = none ∧ q_akA σ m t k = 0
      rw [la k (by omega)]; exact h6 k hk
theorem q_inv.skip {W : Nat → Int32} {F σ : Mt} {f x m : Nat} (hT : q_n W 96 ≤ 8) (h : q_inv W F f σ x (some m)) (hb : q_bt W σ.A m = none) : q_inv W F f σ x none := by
  obtain ⟨h1, h2, h3, h4, h5, h6⟩ := h
  refine ⟨h1, h2, h3, fun k hk => (by cases hk), fun k hk _ => ?_, h6⟩
  by_cases e : k = m
  · subst e
    exact fun hh => hh.2 (q_bt_none hT hb)
  · exact h5 k hk (fun hh => by cases hh; exact e rfl)
variable {X : KXw} {n tot kn D : Nat} {kx : Nat → Nat × Nat} {M : MMw}
theorem m_best (hD : 7 ≤ D) {W C : Nat → Int32} {A : Nat → Nat} {m : Nat} (hW : M 179 = W) (hm : m < q_n W 97) (hl : q_law W 0 C) (hy : q_invY W) (hA : A m < 256) (hM : M 194 m = nI (A m)) : Sq X D 199 [.inr (.inl 178), .inl (nI m)] (Gk n tot kn kx) M (fun x M' => x = q_oI (q_bt W A m) ∧ Fr [187, 188] M M') :=
  Sq.mk (k := 6) hD (fun D' hD' => by
    refine Lq.of (t_199_0_ok X (callw X D') n tot kn kx _ M) ?_
    unfold t_199_0
    simp only [o_nI, m1n]
    rw [Wq_jmp]
    obtain ⟨w1, w2⟩ := hy.1.1
    obtain ⟨w3, w4⟩ := hy.1.2.1
    rw [q_bt_eq (by omega) hm]
    have hw : ∀ M1 : MMw, Fr [187, 188] M M1 → M1 179 = W := fun M1 hf => by rw [hf 179 (by decide)]; exact hW
    have loop : ∀ (c t : Nat) (M1 : MMw), t + c = q_n W 96 → Fr [187, 188] M M1 → Lq X (callw X D') 199 4 [some (.inr (.inl 178)), some (.inl (nI m)), some (.inl (q_oI (q_bs W (fun t => q_serve W t m && !(A m).testBit t) t))), some (.inl (nI t))] (Gk n tot kn kx) M1 (fun x M' => x = q_oI (q_bs W (fun t => q_serve W t m && !(A m).testBit t) (q_n W 96)) ∧ Fr [187, 188] M M') := by
      intro c
      induction c with
      | zero =>
        intro t M1 ht hf
        refine Lq.of (t_199_4_ok X (callw X D') n tot kn kx _ _ _ M1) ?_
        unfold t_199_4
        rw [hw M1 hf, w1, if_neg (by rw [lt_i (by omega) (by omega)]; omega), Wq_ret, show t = q_n W 96 by omega]
        exact ⟨rfl, hf⟩
      | succ c ih =>
        intro t M1 ht hf
        refine Lq.of (t_199_4_ok X (callw X D') n tot kn kx _ _ _ M1) ?_
        unfold t_199_4
        have hn := fun M2 hf2 => ih (t + 1) M2 (by omega) hf2
        rw [q_bs] at hn
        have e4 : M1 194 m = nI (A m) := by rw [hf 194 (by decide)]; exact hM
        simp only [o_nI, z_nI]
        rw [hw M1 hf, w1, if_pos (by rw [lt_i (by omega) (by omega)]; omega), inb_nI (show m < 4 by omega) (by decide), if_pos rfl, nI_clamp (by omega), e4, nI_tb (by omega) (by omega)]
        cases hb : (A m).testBit t with
        | true =>
          rw [hb, if_neg (by rw [Bool.not_true, Bool.and_false]; decide)] at hn
          rw [if_neg (by decide +kernel), Wq_jmp, i1_nI, nI_add]
          exact hn M1 hf
        | false =>
          rw [if_pos (by rfl)]
          refine Wq.call (m_serve2 hD' hW hf (by omega) (by omega) hl hy) ?_
          rintro x M2 ⟨rfl, hf2⟩
          have hn2 := hn M2 hf2
          cases hs : q_serve W t m with
          | false =>
            rw [hs, if_neg (by rw [Bool.false_and]; decide)] at hn2
            rw [if_pos (by rfl), Wq_jmp, i1_nI, nI_add]
            exact hn2
          | true =>
            rw [hs, hb, if_pos (by rfl)] at hn2
            rw [if_neg (by decide +kernel)]
            cases hq : q_bs W (fun t => q_serve W t m && !(A m).testBit t) t with
            | none =>
              rw [hq] at hn2
              rw [if_pos (by rfl), Wq_jmp, i1_nI, nI_add]
              exact hn2
            | some r =>
              have hr := (q_bs_some hq).1
              rw [hq] at hn2
              dsimp only at hn2
              have e : q_oI (some r) = nI r := rfl
              rw [e, if_neg (by rw [m1n, nI_nm1 (by omega)]; exact id), m_ofTool (by omega) (by omega), bnd_some, m_ofTool (by omega) (by omega), bnd_some, hw M2 hf2, show 16 + 10 * t + 3 = 19 + 10 * t by omega, show 16 + 10 * r + 3 = 19 + 10 * r by omega]
              by_cases g : W (19 + 10 * r) < W (19 + 10 * t)
              · rw [if_pos g] at hn2
                rw [if_pos g, Wq_jmp, i1_nI, nI_add]
                exact hn2
              · rw [if_neg g] at hn2
                rw [if_neg g, Wq_jmp, i1_nI, nI_add]
                exact hn2
    exact loop (q_n W 96) 0 M (by omega) Fr.rf)
theorem m_rather (hD : 6 ≤ D) {W C : Nat → Int32} {t m o : Nat} (hW : M 179 = W) (ht : t < 8) (hm : m < 4) (ho : o < 4) (hl : q_law W 1 C) : Sq X D 201 [.inr (.inl 178), .inl (nI t), .inl (nI m), .inl (nI o)] (Gk n tot kn kx) M (fun x M' => x = b2i (q_rt W t m o) ∧ Fr [187, 188] M M') :=
  Sq.mk (k := 5) hD (fun D' hD' => by
    refine Lq.of (t_201_0_ok X (callw X D') n tot kn kx _ _ _ M) ?_
    unfold t_201_0
    simp only [o_nI]
    refine Wq.call (m_like (C := C) hD' ht hm (by rw [hW]; exact hl)) ?_
    rintro x M1 ⟨rfl, f1⟩
    have e1 : M1 179 = W := by rw [f1 179 (by decide)]; exact hW
    refine Wq.call (m_like (C := C) hD' ht ho (by rw [e1]; exact hl)) ?_
    rintro x M2 ⟨rfl, f2⟩
    rw [hW, e1]
    unfold q_rt
    by_cases g1 : q_tell W t o 2 < q_tell W t m 2
    · rw [if_pos g1, Wq_ret, decide_eq_true g1]; exact ⟨rfl, f1.tr f2⟩
    · rw [if_neg g1, decide_eq_false g1]
      by_cases g2 : q_tell W t m 2 = q_tell W t o 2
      · rw [if_pos g2, decide_eq_true g2]
        by_cases g3 : m < o
        · rw [if_pos (by rw [lt_i (by omega) (by omega)]; exact g3), Wq_ret, decide_eq_true g3]; exact ⟨rfl, f1.tr f2⟩
        · rw [if_neg (by rw [lt_i (by omega) (by omega)]; exact g3), Wq_ret, decide_eq_false g3]; exact ⟨rfl, f1.tr f2⟩
      · rw [if_neg g2, decide_eq_false g2, Wq_ret]; exact ⟨rfl, f1.tr f2⟩)
theorem m_asks (hD : 8 ≤ D) {W C C1 : Nat → Int32} {F : Mt} {x f : Nat} {σ : Mt} (hW : M 179 = W) (hx : x < q_n W 97) (hl : q_law W 0 C) (hl1 : q_law W 1 C1) (hy : q_invY W) (hR : MdR M σ) (hi : q_inv W F f σ x (some x)) : Sq X D 202 [.inr (.inl 178), .inl (nI x)] (Gk n tot kn kx) M (fun _ M' => (∃ f' σ', MdR M' σ' ∧ q_inv W F f' σ' x none) ∧ Fr [187, 188, 193, 194] M M') :=
  Sq.mk (k := 7) hD (fun D' hD' => by
    refine Lq.of (t_202_0_ok X (callw X D') n tot kn kx _ M) ?_
    unfold t_202_0
    rw [Wq_jmp]
    have w2 := hy.1.1.2
    have w4 := hy.1.2.1.2
    have hw : ∀ M1 : MMw, Fr [187, 188, 193, 194] M M1 → M1 179 = W := fun M1 hf => by rw [hf 179 (by decide)]; exact hW
    have done : ∀ (f : Nat) (σ : Mt) (M1 : MMw), Fr [187, 188, 193, 194] M M1 → MdR M1 σ → q_inv W F f σ x none → Lq X (callw X D') 202 2 [some (.inr (.inl 178)), none, some (.inl (-1)), none, none] (Gk n tot kn kx) M1 (fun _ M' => (∃ f' σ', MdR M' σ' ∧ q_inv W F f' σ' x none) ∧ Fr [187, 188, 193, 194] M M') := by
      intro f σ M1 hf hR hi
      refine Lq.of (t_202_2_ok X (callw X D') n tot kn kx _ M1) ?_
      unfold t_202_2
      simp only [o_nI, m1n]
      rw [if_pos trivial, Wq_ret]
      exact ⟨⟨f, σ, hR, hi⟩, hf⟩
    have loop : ∀ (f : Nat) (σ : Mt) (m : Nat) (M1 : MMw), Fr [187, 188, 193, 194] M M1 → MdR M1 σ → q_inv W F f σ x (some m) → Lq X (callw X D') 202 2 [some (.inr (.inl 178)), none, some (.inl (nI m)), none, none] (Gk n tot kn kx) M1 (fun _ M' => (∃ f' σ', MdR M' σ' ∧ q_inv W F f' σ' x none) ∧ Fr [187, 188, 193, 194] M M') := by
      intro f
      induction f with
      | zero =>
        intro σ m M1 hf hR hi
        refine Lq.of (t_202_2_ok X (callw X D') n tot kn kx _ M1) ?_
        unfold t_202_2
        have hmx := (hi.2.2.2.1 m rfl).1
        have hb : q_bt W σ.A m = none := by
          cases e : q_bt W σ.A m with
          | none => rfl
          | some t => have := q_mu_less (by omega) (by omega) e; have := hi.2.1; omega
        simp only [o_nI, m1n]
        rw [if_neg (by rw [nI_nm1 (by omega)]; exact id)]
        refine Wq.call (m_best hD' (hw M1 hf) (show m < q_n W 97 by omega) hl hy (hi.1.2.2 m) (hR.2 m (by omega))) ?_
        rintro z M2 ⟨rfl, f2⟩
        rw [hb, if_pos (by rfl), Wq_ret]
        refine ⟨⟨0, σ, ⟨fun t ht => by rw [f2 193 (by decide)]; exact hR.1 t ht, fun k hk => by rw [f2 194 (by decide)]; exact hR.2 k hk⟩, hi.skip (by omega) hb⟩, hf.tr (f2.mono (by decide))⟩
      | succ f ih =>
        intro σ m M1 hf hR hi
        refine Lq.of (t_202_2_ok X (callw X D') n tot kn kx _ M1) ?_
        unfold t_202_2
        have hmx := (hi.2.2.2.1 m rfl).1
        have m4 : m < 4 := by omega
        simp only [o_nI, m1n, z_nI]
        rw [if_neg (by rw [nI_nm1 (by omega)]; exact id)]
        refine Wq.call (m_best hD' (hw M1 hf) (show m < q_n W 97 by omega) hl hy (hi.1.2.2 m) (hR.2 m (by omega))) ?_
        rintro z M2 ⟨rfl, f2⟩
        have hf2 : Fr [187, 188, 193, 194] M M2 := hf.tr (f2.mono (by decide))
        have hR2 : MdR M2 σ := ⟨fun t ht => by rw [f2 193 (by decide)]; exact hR.1 t ht, fun k hk => by rw [f2 194 (by decide)]; exact hR.2 k hk⟩
        cases hb : q_bt W σ.A m with
        | none =>
          rw [if_pos (by rfl), Wq_ret]
          exact ⟨⟨f + 1, σ, hR2, hi.skip (by omega) hb⟩, hf2⟩
        | some t =>
          obtain ⟨b1, b2, b3, b4, b5⟩ := q_bt_some hb
          have t8 : t < 8 := by omega
          obtain ⟨f', hf', s1, s2, s3⟩ := hi.step (by omega) (by omega) hb
          have ef : f' = f := by omega
          subst ef
          have e : q_oI (some t) = nI t := rfl
          have ho2 : ∀ a : Nat, nI a ||| nI (1 * 2 ^ t) = nI (a ||| 2 ^ t) := fun a => by rw [Nat.one_mul, nI_or]
          rw [e, if_neg (by rw [nI_nm1 (by omega)]; exact id), inb_nI m4 (by decide), if_pos rfl, if_pos rfl, inb_nI t8 (by decide), if_pos rfl, if_pos rfl, nI_clamp (by omega), nI_clamp (by omega), hR2.1 t t8, hR2.2 m m4, nI_shl (by omega), ho2]
          have l4 : ∀ k, k < 4 → upW (M2 194) m (nI (σ.A m ||| 2 ^ t)) k = nI (q_akA σ m t k) := fun k hk => by
            unfold q_akA
            by_cases ek : k = m
            · subst ek; rw [upW_s, q_up_s]
            · rw [upW_n ek, q_up_n ek]; exact hR2.2 k hk
          cases hB : σ.B t with
          | none =>
            rw [if_pos (by rfl), Wq_jmp]
            refine done f' _ _ ((hf2.up (by decide)).up (by decide)) ⟨fun t' ht' => ?_, fun k hk => ?_⟩ (s1 hB)
            · show _ = q_oI (q_up σ.B t (some m) t')
              rw [up_at, up_ne (by decide)]
              by_cases et : t' = t
              · subst et; rw [upW_s, q_up_s]; rfl
              · rw [upW_n et, q_up_n et]; exact hR2.1 t' ht'
            · rw [up_ne (by decide), up_at]; exact l4 k hk
          | some o =>
            have ho4 : o < 4 := by have := (hi.1.2.1 t o hB).2; omega
            have eo : q_oI (some o) = nI o := rfl
            rw [eo, if_neg (by rw [nI_nm1 (by omega)]; exact id)]
            have f3 : Fr [187, 188, 193, 194] M (up M2 194 m (nI (σ.A m ||| 2 ^ t))) := hf2.up (by decide)
            refine Wq.call (m_rather (by omega) (hw _ f3) t8 m4 ho4 hl1) ?_
            rintro z M4 ⟨rfl, f4⟩
            have g3 : M4 193 = M2 193 := by rw [f4 193 (by decide), up_ne (by decide)]
            have g4 : M4 194 = upW (M2 194) m (nI (σ.A m ||| 2 ^ t)) := by rw [f4 194 (by decide), up_at]
            have hf4 : Fr [187, 188, 193, 194] M M4 := f3.tr (f4.mono (by decide))
            cases hr : q_rt W t m o with
            | false =>
              rw [if_pos (by rfl), Wq_jmp]
              refine ih _ m M4 hf4 ⟨fun t' ht' => ?_, fun k hk => ?_⟩ (s3 o hB hr)
              · rw [g3]; exact hR2.1 t' ht'
              · rw [g4]; exact l4 k hk
            | true =>
              rw [if_neg (by decide +kernel), if_pos rfl, Wq_jmp]
              have em : M4 193 t = nI o := by rw [g3, hR2.1 t t8, hB]; rfl
              refine ih _ o _ (hf4.up (by decide)) ⟨fun t' ht' => ?_, fun k hk => ?_⟩ (s2 o hB hr)
              · show _ = q_oI (q_up σ.B t (some m) t')
                rw [up_at, g3]
                by_cases et : t' = t
                · subst et; rw [upW_s, q_up_s]; rfl
                · rw [upW_n et, q_up_n et]; exact hR2.1 t' ht'
              · rw [up_ne (by decide), g4]; exact l4 k hk
    exact loop f σ x M Fr.rf hR hi)
theorem q_inv.fin {W : Nat → Int32} {F σ : Mt} {f : Nat} (h3 : q_mr W f σ = F) (h : ∀ k, k < q_n W 97 → ¬ (σ.C k = none ∧ q_lf W σ.A k ≠ 0)) : σ = F := by
  have hnx : q_nx W σ = none := q_find_none.mpr (fun k hk => by
    cases e : ((σ.C k).isNone && decide (q_lf W σ.A k ≠ 0)) with
    | false => rfl
    | true =>
      rw [Bool.and_eq_true, decide_eq_true_eq, Option.isNone_iff_eq_none] at e
      by_cases hkN : k < q_n W 97
      · exact absurd e (h k hkN)
      · refine absurd ?_ e.2
        unfold q_lf
        rw [if_neg hkN])
  cases f with
  | zero => exact h3
  | succ f => rw [q_mr, hnx] at h3; exact h3
theorem m_lays203 (hD : 9 ≤ D) {W C C1 : Nat → Int32} (hW : M 179 = W) (hl : q_law W 0 C) (hl1 : q_law W 1 C1) (hy : q_invY W) : Sq X D 203 [.inr (.inl 178)] (Gk n tot kn kx) M (fun _ M' => MdR M' (q_mF W) ∧ Fr [187, 188, 193, 194] M M') :=
  Sq.mk (k := 8) hD (fun D' hD' => by
    obtain ⟨w3, w4⟩ := hy.1.2.1
    have hw : ∀ M1 : MMw, Fr [187, 188, 193, 194] M M1 → M1 179 = W := fun M1 hf => by rw [hf 179 (by decide)]; exact hW
    have loop : ∀ (c x : Nat) (f : Nat) (σ : Mt) (M1 : MMw), x + c = q_n W 97 → Fr [187, 188, 193, 194] M M1 → MdR M1 σ → q_mw W σ → q_mu W σ.A ≤ f → q_mr W f σ = q_mF W → (∀ k, k < x → ¬ (σ.C k = none ∧ q_lf W σ.A k ≠ 0)) → (∀ k, x ≤ k → σ.C k = none ∧ σ.A k = 0) → Lq X (callw X D') 203 43 [some (.inr (.inl 178)), some (.inl (nI x))] (Gk n tot kn kx) M1 (fun _ M' => MdR M' (q_mF W) ∧ Fr [187, 188, 193, 194] M M') := by
      intro c
      induction c with
      | zero =>
        intro x f σ M1 hx hf hR h1 h2 h3 h4 h5
        refine Lq.of (t_203_43_ok X (callw X D') n tot kn kx _ M1) ?_
        unfold t_203_43
        rw [hw M1 hf, w3, if_neg (by rw [lt_i (by omega) (by omega)]; omega), Wq_ret]
        rw [← q_inv.fin h3 (fun k hk => h4 k (by omega))]
        exact ⟨hR, hf⟩
      | succ c ih =>
        intro x f σ M1 hx hf hR h1 h2 h3 h4 h5
        refine Lq.of (t_203_43_ok X (callw X D') n tot kn kx _ M1) ?_
        unfold t_203_43
        rw [hw M1 hf, w3, if_pos (by rw [lt_i (by omega) (by omega)]; omega)]
        refine Wq.call (m_asks hD' (hw M1 hf) (show x < q_n W 97 by omega) hl hl1 hy hR (F := q_mF W) (f := f) ⟨h1, h2, h3, fun k hk => ?_, fun k hk hne => ?_, fun k hk => h5 k (by omega)⟩) ?_
        · cases hk; exact ⟨Nat.le_refl _, (h5 x (Nat.le_refl _)).1⟩
        · have : k ≠ x := fun hh => hne (by rw [hh])
          exact h4 k (by omega)
        · rintro z M2 ⟨⟨f', σ', hR2, g1, g2, g3, g4, g5, g6⟩, f2⟩
          rw [Wq_jmp, i1_nI, nI_add]
          exact ih (x + 1) f' σ' M2 (by omega) (hf.tr f2) hR2 g1 g2 g3 (fun k hk => g5 k (by omega) (by intro hh; cases hh)) (fun k hk => g6 k (by omega))
    have lay2 : ∀ (c m : Nat) (M1 : MMw), m + c = 4 → Fr [187, 188, 193, 194] M M1 → (∀ t, t < 8 → M1 193 t = -1) → (∀ k, k < m → M1 194 k = nI 0) → Lq X (callw X D') 203 23 [some (.inr (.inl 178)), some (.inl (nI m))] (Gk n tot kn kx) M1 (fun _ M' => MdR M' (q_mF W) ∧ Fr [187, 188, 193, 194] M M') := by
      intro c
      induction c with
      | zero =>
        intro m M1 hm hf hB hC
        refine Lq.of (t_203_23_ok X (callw X D') n tot kn kx _ M1) ?_
        unfold t_203_23
        simp only [o_nI]
        rw [if_neg (by rw [lt_i (by omega) (by omega)]; omega), Wq_jmp]
        exact loop (q_n W 97) 0 32 q_m0 M1 (by omega) hf ⟨hB, fun k hk => hC k (by omega)⟩ q_m0_w q_mu_0 rfl (fun k hk => absurd hk (Nat.not_lt_zero k)) (fun k _ => ⟨rfl, rfl⟩)
      | succ c ih =>
        intro m M1 hm hf hB hC
        refine Lq.of (t_203_23_ok X (callw X D') n tot kn kx _ M1) ?_
        unfold t_203_23
        simp only [o_nI]
        rw [if_pos (by rw [lt_i (by omega) (by omega)]; omega), inb_nI (show m < 4 by omega) (by decide), if_pos rfl, nI_clamp (by omega), Wq_jmp, i1_nI, nI_add]
        refine ih (m + 1) _ (by omega) (hf.up (by decide)) (fun t ht => by rw [up_ne (by decide)]; exact hB t ht) (fun k hk => ?_)
        rw [up_at]
        by_cases e : k = m
        · subst e; rw [upW_s]
        · rw [upW_n e]; exact hC k (by omega)
    have lay1 : ∀ (c t : Nat) (M1 : MMw), t + c = 8 → Fr [187, 188, 193, 194] M M1 → (∀ k, k < t → M1 193 k = -1) → Lq X (callw X D') 203 2 [some (.inr (.inl 178)), some (.inl (nI t))] (Gk n tot kn kx) M1 (fun _ M' => MdR M' (q_mF W) ∧ Fr [187, 188, 193, 194] M M') := by
      intro c
      induction c with
      | zero =>
        intro t M1 ht hf hB
        refine Lq.of (t_203_2_ok X (callw X D') n tot kn kx _ M1) ?_
        unfold t_203_2
        simp only [o_nI]
        rw [if_neg (by rw [lt_i (by omega) (by omega)]; omega), Wq_jmp]
        exact lay2 4 0 M1 (by omega) hf (fun k hk => hB k (by omega)) (fun k hk => absurd hk (Nat.not_lt_zero k))
      | succ c ih =>
        intro t M1 ht hf hB
        refine Lq.of (t_203_2_ok X (callw X D') n tot kn kx _ M1) ?_
        unfold t_203_2
        simp only [o_nI, m1n]
        rw [if_pos (by rw [lt_i (by omega) (by omega)]; omega), inb_nI (show t < 8 by omega) (by decide), if_pos rfl, nI_clamp (by omega), Wq_jmp, i1_nI, nI_add]
        refine ih (t + 1) _ (by omega) (hf.up (by decide)) (fun k hk => ?_)
        rw [up_at]
        by_cases e : k = t
        · subst e; rw [upW_s]
        · rw [upW_n e]; exact hB k (by omega)
    refine Lq.of (t_203_0_ok X (callw X D') n tot kn kx M) ?_
    unfold t_203_0
    simp only [o_nI]
    rw [Wq_jmp]
    exact lay1 8 0 M (by omega) Fr.rf (fun k hk => absurd hk (Nat.not_lt_zero k)))

/-! of, at, loved -/
theorem P_of (hD : 11 ≤ D) {v1 v2 : Int32} {len s : Nat} (h : Rl kn len s M) : Pr X D 191 205 [.inr (.inl 0), .inl v1, .inl v2] [.inr (.inl 178), .inl v1, .inl v2] (Gk n tot kn kx) M (Rl kn len s) := by
  have hX := h.1.1
  obtain ⟨W, hW⟩ : ∃ W, M 179 = W := ⟨_, rfl⟩
  rw [hW] at hX
  have h96 := hX.2.2.1.1.1
  obtain ⟨T, hT⟩ : ∃ T, q_n W 96 = T := ⟨_, rfl⟩
  obtain ⟨w1, w2⟩ := h96
  rw [hT] at w1 w2
  have e20 : M 2 0 = nI T := by rw [hX.1.1.1]; exact w1
  by_cases ok : q_is v1 T = true
  · obtain ⟨t, ht, rfl⟩ := q_is_t (by omega) ok
    have t8 : t < 8 := by omega
    have hcr := hX.1.1
    have hm := hX.2.1
    obtain ⟨A, hA⟩ : ∃ A : Int32, (∀ f, f ≤ 8 → v2 = nI f → A = W (16 + 10 * t + f)) ∧ (v2 = nI 9 → A = nI (q_turn W t false (2 ^ T))) ∧ (v2 = nI 10 → A = nI (q_turn W t true (2 ^ T))) ∧ (v2 = nI 11 → A = q_oI ((q_mF W).B t)) ∧ ((∀ f, f ≤ 11 → v2 ≠ nI f) → A = nI 4294967294) := by
      by_cases o : q_in v2 0 11 = true
      · obtain ⟨f, -, hf, rfl⟩ := q_in_t (by decide) (by decide) o
        have inj : ∀ g, g ≤ 11 → nI f = nI g → f = g := fun g hg e => by rw [eq_i (by omega) (by omega)] at e; exact e
        rcases (show f ≤ 8 ∨ f = 9 ∨ f = 10 ∨ f = 11 by omega) with hf | rfl | rfl | rfl
        · exact ⟨W (16 + 10 * t + f), fun g hg e => by rw [inj g (by omega) e], fun e => by have := inj 9 (by omega) e; omega, fun e => by have := inj 10 (by omega) e; omega, fun e => by have := inj 11 (by omega) e; omega, fun hh => absurd rfl (hh f (by omega))⟩
        · exact ⟨nI (q_turn W t false (2 ^ T)), fun g hg e => by have := inj g (by omega) e; omega, fun _ => rfl, fun e => by have := inj 10 (by omega) e; omega, fun e => by have := inj 11 (by omega) e; omega, fun hh => absurd rfl (hh 9 (by omega))⟩
        · exact ⟨nI (q_turn W t true (2 ^ T)), fun g hg e => by have := inj g (by omega) e; omega, fun e => by have := inj 9 (by omega) e; omega, fun _ => rfl, fun e => by have := inj 11 (by omega) e; omega, fun hh => absurd rfl (hh 10 (by omega))⟩
        · exact ⟨q_oI ((q_mF W).B t), fun g hg e => by have := inj g (by omega) e; omega, fun e => by have := inj 9 (by omega) e; omega, fun e => by have := inj 10 (by omega) e; omega, fun _ => rfl, fun hh => absurd rfl (hh 11 (by omega))⟩
      · have o3 := q_in_no (by decide) (by decide) (eq_false_of_ne_true o)
        exact ⟨nI 4294967294, fun g hg e => absurd e (o3 g (by omega) (by omega)), fun e => absurd e (o3 9 (by omega) (by omega)), fun e => absurd e (o3 10 (by omega) (by omega)), fun e => absurd e (o3 11 (by omega) (by omega)), fun _ => rfl⟩
    obtain ⟨a1, a2, a3, a4, a5⟩ := hA
    refine Pr.mk (Q1 := fun x M1 => x = A ∧ Fr [121, 122, 132, 133, 134] M M1) (Sq.mk (k := 10) hD (fun D' hD' => ?_)) ?_
    · have f3 : M 3 t = W (16 + 10 * t) := hcr.2.2.2.2.1 t t8
      have f4 : M 4 t = W (17 + 10 * t) := hcr.2.2.2.2.2.1 t t8
      have f5 : M 5 t = W (18 + 10 * t) := hcr.2.2.2.2.2.2.1 t t8
      have f6 : M 6 t = W (21 + 10 * t) := hcr.2.2.2.2.2.2.2.1 t t8
      have f7 : M 7 t = W (22 + 10 * t) := hcr.2.2.2.2.2.2.2.2.1 t t8
      have f11 : M 11 t = W (19 + 10 * t) := hm.2.2.2.2.1 t t8
      have f12 : M 12 t = W (20 + 10 * t) := hm.2.2.2.2.2.1 t t8
      have f13 : M 13 t = W (23 + 10 * t) := hm.2.2.2.2.2.2.1 t t8
      have f14 : M 14 t = W (24 + 10 * t) := hm.2.2.2.2.2.2.2.1 t t8
      refine Lq.of (t_191_0_ok X (callw X D') n tot kn kx _ _ M) ?_
      unfold t_191_0
      simp only [o_nI, z_nI]
      rw [c_isTool (by omega) e20 (by omega), bnd_some, ok, if_neg (by decide), inb_nI t8 (by decide), if_pos rfl, if_pos rfl, if_pos rfl, if_pos rfl, if_pos rfl, if_pos rfl, if_pos rfl, if_pos rfl, if_pos rfl, nI_clamp (by omega), f3, f4, f5, f6, f7, f11, f12, f13, f14]
      by_cases g0 : v2 = nI 0
      · rw [if_pos g0, Wq_ret]; exact ⟨(a1 0 (by decide) g0).symm, Fr.rf⟩
      rw [if_neg g0]
      by_cases g1 : v2 = nI 1
      · rw [if_pos g1, Wq_ret]; exact ⟨by rw [a1 1 (by decide) g1, show 16 + 10 * t + 1 = 17 + 10 * t by omega], Fr.rf⟩
      rw [if_neg g1]
      by_cases g2 : v2 = nI 2
      · rw [if_pos g2, Wq_ret]; exact ⟨by rw [a1 2 (by decide) g2, show 16 + 10 * t + 2 = 18 + 10 * t by omega], Fr.rf⟩
      rw [if_neg g2]
      by_cases g3 : v2 = nI 3
      · rw [if_pos g3, Wq_ret]; exact ⟨by rw [a1 3 (by decide) g3, show 16 + 10 * t + 3 = 19 + 10 * t by omega], Fr.rf⟩
      rw [if_neg g3]
      by_cases g4 : v2 = nI 4
      · rw [if_pos g4, Wq_ret]; exact ⟨by rw [a1 4 (by decide) g4, show 16 + 10 * t + 4 = 20 + 10 * t by omega], Fr.rf⟩
      rw [if_neg g4]
      by_cases g5 : v2 = nI 5
      · rw [if_pos g5, Wq_ret]; exact ⟨by rw [a1 5 (by decide) g5, show 16 + 10 * t + 5 = 21 + 10 * t by omega], Fr.rf⟩
      rw [if_neg g5]
      by_cases g6 : v2 = nI 6
      · rw [if_pos g6, Wq_ret]; exact ⟨by rw [a1 6 (by decide) g6, show 16 + 10 * t + 6 = 22 + 10 * t by omega], Fr.rf⟩
      rw [if_neg g6]
      by_cases g7 : v2 = nI 7
      · rw [if_pos g7, Wq_ret]; exact ⟨by rw [a1 7 (by decide) g7, show 16 + 10 * t + 7 = 23 + 10 * t by omega], Fr.rf⟩
      rw [if_neg g7]
      by_cases g8 : v2 = nI 8
      · rw [if_pos g8, Wq_ret]; exact ⟨by rw [a1 8 (by decide) g8, show 16 + 10 * t + 8 = 24 + 10 * t by omega], Fr.rf⟩
      rw [if_neg g8]
      by_cases g9 : v2 = nI 9
      · have ec := c_turns (X := X) (n := n) (tot := tot) (kn := kn) (kx := kx) (D := D') (t := t) (o := false) (by omega) hcr hX.2.2.1.1.1 (by omega)
        rw [show b2i false = nI 0 from rfl, hT] at ec
        rw [if_pos g9, ec, bnd_some, Wq_ret]
        exact ⟨(a2 g9).symm, Fr.rf⟩
      rw [if_neg g9]
      by_cases g10 : v2 = nI 10
      · have ec := c_turns (X := X) (n := n) (tot := tot) (kn := kn) (kx := kx) (D := D') (t := t) (o := true) (by omega) hcr hX.2.2.1.1.1 (by omega)
        rw [show b2i true = nI 1 from rfl, hT] at ec
        rw [if_pos g10, ec, bnd_some, Wq_ret]
        exact ⟨(a3 g10).symm, Fr.rf⟩
      rw [if_neg g10]
      by_cases g11 : v2 = nI 11
      · rw [if_pos g11]
        refine Wq.call (c_match (by omega) hX) ?_
        rintro x M1 ⟨hR, f1⟩
        rw [if_pos rfl, Wq_ret, hR.1 t t8]
        exact ⟨(a4 g11).symm, f1⟩
      rw [if_neg g11, Wq_ret]
      refine ⟨(a5 (fun f hf => ?_)).symm, Fr.rf⟩
      rcases (show f = 0 ∨ f = 1 ∨ f = 2 ∨ f = 3 ∨ f = 4 ∨ f = 5 ∨ f = 6 ∨ f = 7 ∨ f = 8 ∨ f = 9 ∨ f = 10 ∨ f = 11 by omega) with rfl | rfl | rfl | rfl | rfl | rfl | rfl | rfl | rfl | rfl | rfl | rfl <;> assumption
    · rintro x M1 ⟨rfl, f1⟩
      have h1 := h.ask f1 (by decide)
      have e9 : M1 179 = W := by rw [f1 179 (by decide)]; exact hW
      refine Sq.mk (k := 10) hD (fun D' hD' => ?_)
      refine Lq.of (t_205_0_ok X (callw X D') n tot kn kx _ _ M1) ?_
      unfold t_205_0
      simp only [o_nI, z_nI]
      rw [m_isTool (by omega) (by rw [e9]; exact w1) (by omega), bnd_some, ok, if_neg (by decide)]
      by_cases g9 : v2 = nI 9
      · have em := m_swings (X := X) (n := n) (tot := tot) (kn := kn) (kx := kx) (D := D') (M := M1) (t := t) (by omega) (by rw [e9]; exact hX.2.2.1.1.1) (by rw [e9]; omega)
        rw [e9, hT] at em
        rw [if_pos g9, em, bnd_some, Wq_ret]
        exact ⟨(a2 g9).symm, h1⟩
      rw [if_neg g9]
      by_cases g10 : v2 = nI 10
      · have em := m_power (X := X) (n := n) (tot := tot) (kn := kn) (kx := kx) (D := D') (M := M1) (t := t) (by omega) (by rw [e9]; exact hX.2.2.1.1.1) (by rw [e9]; omega)
        rw [e9, hT] at em
        rw [if_pos g10, em, bnd_some, Wq_ret]
        exact ⟨(a3 g10).symm, h1⟩
      rw [if_neg g10]
      by_cases g11 : v2 = nI 11
      · rw [if_pos g11]
        have cal : Sq X D' 204 [.inr (.inl 178), .inl (nI t)] (Gk n tot kn kx) M1 (fun y M2 => y = q_oI ((q_mF W).B t) ∧ Fr [187, 188, 193, 194] M1 M2) := Sq.mk (k := 9) hD' (fun D2 hD2 => by
          refine Lq.of (t_204_0_ok X (callw X D2) n tot kn kx _ M1) ?_
          unfold t_204_0
          refine Wq.call (m_lays203 hD2 e9 hX.1.2.2.2.1.2.2 hX.1.2.2.2.2.2.2 hX.2.2.1) ?_
          rintro z M2 ⟨hR, f2⟩
          rw [inb_nI t8 (by decide), if_pos rfl, Wq_ret, nI_clamp (by omega), hR.1 t t8]
          exact ⟨rfl, f2⟩)
        refine Wq.call cal ?_
        rintro z M2 ⟨rfl, f2⟩
        rw [Wq_ret]
        exact ⟨(a4 g11).symm, h1.ask f2 (by decide)⟩
      rw [if_neg g11, m_in (by omega), bnd_some]
      by_cases o : q_in v2 0 8 = true
      · obtain ⟨f, -, hf, rfl⟩ := q_in_t (by decide) (by decide) o
        rw [o, if_neg (by decide), m_ofTool (by omega) (by omega), bnd_some, e9, Wq_ret]
        exact ⟨(a1 f hf rfl).symm, h1⟩
      · have o3 := q_in_no (by decide) (by decide) (eq_false_of_ne_true o)
        rw [eq_false_of_ne_true o, if_pos (by rfl), Wq_ret]
        refine ⟨(a5 (fun f hf => ?_)).symm, h1⟩
        rcases (show f ≤ 8 ∨ f = 9 ∨ f = 10 ∨ f = 11 by omega) with hf | rfl | rfl | rfl
        · exact o3 f (by omega) hf
        · exact g9
        · exact g10
        · exact g11
  · have ok2 := eq_false_of_ne_true ok
    refine Pr.mk (Q1 := fun x M1 => x = nI 4294967294 ∧ M1 = M) (Sq.mk (k := 10) hD (fun D' hD' => ?_)) ?_
    · refine Lq.of (t_191_0_ok X (callw X D') n tot kn kx _ _ M) ?_
      unfold t_191_0
      simp only [o_nI]
      rw [c_isTool (by omega) e20 (by omega), bnd_some, ok2, if_pos (by rfl), Wq_ret]
      exact ⟨rfl, rfl⟩
    · rintro x M1 ⟨rfl, rfl⟩
      refine Sq.mk (k := 10) hD (fun D' hD' => ?_)
      refine Lq.of (t_205_0_ok X (callw X D') n tot kn kx _ _ M1) ?_
      unfold t_205_0
      simp only [o_nI]
      rw [m_isTool (by omega) (by rw [hW]; exact w1) (by omega), bnd_some, ok2, if_pos (by rfl), Wq_ret]
      exact ⟨rfl, h⟩

theorem q_oI_inj {a : Option Nat} {k : Nat} (ha : ∀ j, a = some j → j < 2 ^ 31) (hk : k < 2 ^ 31) : q_oI a = nI k ↔ a = some k := by
  cases a with
  | none =>
    constructor
    · intro h
      have h2 : (-1 : Int32) = nI k := h
      have := nI_nm1 hk
      rw [eq_comm, this] at h2
      exact h2.elim
    · intro h; cases h
  | some j =>
    show nI j = nI k ↔ some j = some k
    rw [eq_i (ha j rfl) hk, Option.some.injEq]
theorem m_toolOf (hD : 1 ≤ D) {W : Nat → Int32} {σ : Mt} {m : Nat} (hm : m < 4) (hW : M 179 = W) (h96 : q_lt W 96 9) (h97 : q_n W 97 ≤ 4) (hw : q_mw W σ) (hR : MdR M σ) : callw X D 207 [.inr (.inl 178), .inl (nI m)] (Gk n tot kn kx) M = some (q_oI (σ.C m), Gk n tot kn kx, M) :=
  Sq.eq (Sq.mk (k := 0) hD (fun D' hD' => by
    refine Lq.of (t_207_0_ok X (callw X D') n tot kn kx _ M) ?_
    unfold t_207_0
    simp only [o_nI]
    rw [Wq_jmp]
    obtain ⟨w1, w2⟩ := h96
    have loop : ∀ (c t : Nat), t + c = q_n W 96 → (∀ j, j < t → σ.B j ≠ some m) → Lq X (callw X D') 207 2 [some (.inr (.inl 178)), some (.inl (nI m)), some (.inl (nI t))] (Gk n tot kn kx) M (fun x M' => x = q_oI (σ.C m) ∧ M' = M) := by
      intro c
      induction c with
      | zero =>
        intro t ht hno
        refine Lq.of (t_207_2_ok X (callw X D') n tot kn kx _ _ M) ?_
        unfold t_207_2
        simp only [o_nI, m1n]
        rw [hW, w1, if_neg (by rw [lt_i (by omega) (by omega)]; omega), Wq_ret]
        refine ⟨?_, rfl⟩
        cases e : σ.C m with
        | none => rfl
        | some t' =>
          have h1 := (hw.1 t' m).mpr e
          exact absurd h1 (hno t' (by have := (hw.2.1 t' m h1).1; omega))
      | succ c ih =>
        intro t ht hno
        refine Lq.of (t_207_2_ok X (callw X D') n tot kn kx _ _ M) ?_
        unfold t_207_2
        have t8 : t < 8 := by omega
        rw [hW, w1, if_pos (by rw [lt_i (by omega) (by omega)]; omega), inb_nI t8 (by decide), if_pos rfl, nI_clamp (by omega), hR.1 t t8]
        have hb := q_oI_inj (a := σ.B t) (k := m) (fun j hj => by have := (hw.2.1 t j hj).2; omega) (by omega)
        by_cases e : σ.B t = some m
        · rw [if_pos (hb.mpr e), Wq_ret, (hw.1 t m).mp e]
          exact ⟨rfl, rfl⟩
        · rw [if_neg (fun hh => e (hb.mp hh)), Wq_jmp, i1_nI, nI_add]
          refine ih (t + 1) (by omega) (fun j hj => ?_)
          rcases Nat.lt_or_ge j t with hl | hl
          · exact hno j hl
          · rw [show j = t by omega]; exact e
    exact loop (q_n W 96) 0 (by omega) (fun j hj => absurd hj (Nat.not_lt_zero j))))
theorem P_at (hD : 11 ≤ D) {v1 v2 : Int32} {len s : Nat} (h : Rl kn len s M) : Pr X D 206 208 [.inr (.inl 0), .inl v1, .inl v2] [.inr (.inl 178), .inl v1, .inl v2] (Gk n tot kn kx) M (Rl kn len s) := by
  have hX := h.1.1
  obtain ⟨W, hW⟩ : ∃ W, M 179 = W := ⟨_, rfl⟩
  rw [hW] at hX
  obtain ⟨N, hN⟩ : ∃ N, q_n W 97 = N := ⟨_, rfl⟩
  obtain ⟨w1, w2⟩ := hX.2.2.1.1.2.1
  have w96 := hX.2.2.1.1.1.2
  rw [hN] at w1 w2
  have e21 : M 2 1 = nI N := by rw [hX.1.1.2.1]; exact w1
  by_cases ok : q_is v1 N = true ∧ q_in v2 0 2 = true
  · obtain ⟨o1, o2⟩ := ok
    obtain ⟨m, hm, rfl⟩ := q_is_t (by omega) o1
    obtain ⟨f, -, hf, rfl⟩ := q_in_t (by decide) (by decide) o2
    have m4 : m < 4 := by omega
    obtain ⟨A, a1, a2⟩ : ∃ A : Int32, (f < 2 → A = W (130 + 2 * m + f)) ∧ (¬ f < 2 → A = q_oI ((q_mF W).C m)) := ⟨if f < 2 then W (130 + 2 * m + f) else q_oI ((q_mF W).C m), fun hh => if_pos hh, fun hh => if_neg hh⟩
    refine Pr.mk (Q1 := fun x M1 => x = A ∧ Fr [121, 122, 132, 133, 134] M M1) (Sq.mk (k := 10) hD (fun D' hD' => ?_)) ?_
    · have f8 : M 8 m = W (130 + 2 * m) := hX.1.1.2.2.2.2.2.2.2.2.2.1 m m4
      have f9 : M 9 m = W (131 + 2 * m) := hX.1.1.2.2.2.2.2.2.2.2.2.2 m m4
      refine Lq.of (t_206_0_ok X (callw X D') n tot kn kx _ _ M) ?_
      unfold t_206_0
      simp only [o_nI]
      rw [c_isMan (by omega) e21 (by omega), bnd_some, o1, if_neg (by decide), inb_nI m4 (by decide), nI_clamp (by omega), f8, f9]
      rcases (show f = 0 ∨ f = 1 ∨ f = 2 by omega) with rfl | rfl | rfl
      · rw [if_pos rfl, if_pos rfl, Wq_ret]
        exact ⟨(a1 (by decide)).symm, Fr.rf⟩
      · rw [if_neg (by decide +kernel), if_pos rfl, if_pos rfl, Wq_ret]
        exact ⟨by rw [a1 (by decide), show 130 + 2 * m + 1 = 131 + 2 * m by omega], Fr.rf⟩
      · rw [if_neg (by decide +kernel), if_neg (by decide +kernel), if_pos rfl]
        refine Wq.call (c_match (by omega) hX) ?_
        rintro x M1 ⟨hR, f1⟩
        rw [if_pos rfl, Wq_ret, (hR.2 m m4).1]
        exact ⟨(a2 (by decide)).symm, f1⟩
    · rintro x M1 ⟨rfl, f1⟩
      have h1 := h.ask f1 (by decide)
      have e9 : M1 179 = W := by rw [f1 179 (by decide)]; exact hW
      refine Sq.mk (k := 10) hD (fun D' hD' => ?_)
      refine Lq.of (t_208_0_ok X (callw X D') n tot kn kx _ _ M1) ?_
      unfold t_208_0
      simp only [o_nI]
      rw [m_isMan (by omega) (by rw [e9]; exact w1) (by omega), bnd_some, o1, if_neg (by decide), m_in (by omega), bnd_some, o2, if_neg (by decide)]
      by_cases hf2 : f < 2
      · rw [if_pos (by rw [lt_i (by omega) (by omega)]; exact hf2), m_ofMan (by omega) (by omega), bnd_some, e9, Wq_ret]
        exact ⟨(a1 hf2).symm, h1⟩
      · rw [if_neg (by rw [lt_i (by omega) (by omega)]; exact hf2)]
        refine Wq.call (m_lays203 (by omega) e9 hX.1.2.2.2.1.2.2 hX.1.2.2.2.2.2.2 hX.2.2.1) ?_
        rintro z M2 ⟨hR, f2⟩
        rw [m_toolOf (by omega) m4 (show M2 179 = W by rw [f2 179 (by decide)]; exact e9) hX.2.2.1.1.1 (by omega) (q_mr_w (by omega) q_m0_w) hR, bnd_some, Wq_ret]
        exact ⟨(a2 hf2).symm, h1.ask f2 (by decide)⟩
  · refine Pr.mk (Q1 := fun x M1 => x = nI 4294967294 ∧ M1 = M) (Sq.mk (k := 10) hD (fun D' hD' => ?_)) ?_
    · refine Lq.of (t_206_0_ok X (callw X D') n tot kn kx _ _ M) ?_
      unfold t_206_0
      simp only [o_nI]
      rw [c_isMan (by omega) e21 (by omega), bnd_some]
      cases q1 : q_is v1 N with
      | false => rw [if_pos (by rfl), Wq_ret]; exact ⟨rfl, rfl⟩
      | true =>
        have o3 := q_in_no (by decide) (by decide) (eq_false_of_ne_true (fun hh => ok ⟨q1, hh⟩))
        rw [if_neg (by decide), if_neg (o3 0 (by decide) (by decide)), if_neg (o3 1 (by decide) (by decide)), if_neg (o3 2 (by decide) (by decide)), Wq_ret]
        exact ⟨rfl, rfl⟩
    · rintro x M1 ⟨rfl, rfl⟩
      refine Sq.mk (k := 10) hD (fun D' hD' => ?_)
      refine Lq.of (t_208_0_ok X (callw X D') n tot kn kx _ _ M1) ?_
      unfold t_208_0
      simp only [o_nI]
      rw [m_isMan (by omega) (by rw [hW]; exact w1) (by omega), bnd_some]
      cases q1 : q_is v1 N with
      | false => rw [if_pos (by rfl), Wq_ret]; exact ⟨rfl, h⟩
      | true =>
        rw [if_neg (by decide), m_in (by omega), bnd_some, eq_false_of_ne_true (fun hh => ok ⟨q1, hh⟩), if_pos (by rfl), Wq_ret]
        exact ⟨rfl, h⟩
end
