section
-- needs: mates2
/-! loved -/
def q_lv (W : Nat → Int32) (t n : Nat) : Nat := cnt (fun m => decide (q_bt W (fun _ => 0) m = some t)) n
def q_lw (W : Nat → Int32) (N : Nat) : Nat → Option Nat
  | 0 => none
  | t + 1 => if 0 < q_lv W t N then (match q_lw W N t with | none => some t | some r => if q_lv W r N < q_lv W t N then some t else some r) else q_lw W N t
theorem q_lw_some {W : Nat → Int32} {N : Nat} : ∀ {n r : Nat}, q_lw W N n = some r → r < n ∧ 0 < q_lv W r N
  | 0, _, h => by cases h
  | n + 1, r, h => by
    rw [q_lw] at h
    by_cases hp : 0 < q_lv W n N
    · rw [if_pos hp] at h
      cases e : q_lw W N n with
      | none => rw [e] at h; cases h; exact ⟨Nat.lt_succ_self _, hp⟩
      | some s =>
        rw [e] at h
        dsimp only at h
        by_cases hl : q_lv W s N < q_lv W n N
        · rw [if_pos hl] at h; cases h; exact ⟨Nat.lt_succ_self _, hp⟩
        · rw [if_neg hl] at h; cases h
          obtain ⟨a, b⟩ := q_lw_some e
          exact ⟨by omega, b⟩
    · rw [if_neg hp] at h
      obtain ⟨a, b⟩ := q_lw_some h
      exact ⟨by omega, b⟩
theorem q_lv_0 {W : Nat → Int32} {t n : Nat} (ht : q_n W 96 ≤ t) : q_lv W t n = 0 := by
  unfold q_lv
  rw [cnt_sum]
  refine q_sum_z (fun m _ => ?_)
  rw [decide_eq_false (fun h => by have := (q_bt_some h).1; omega)]
  rfl
theorem q_lw_hi {W : Nat → Int32} {N : Nat} : ∀ c, q_lw W N (q_n W 96 + c) = q_lw W N (q_n W 96)
  | 0 => rfl
  | c + 1 => by
    rw [show q_n W 96 + (c + 1) = (q_n W 96 + c) + 1 by omega, q_lw, if_neg (by rw [q_lv_0 (by omega)]; decide), q_lw_hi c]
theorem q_lv_s {W : Nat → Int32} {t n : Nat} : q_lv W t (n + 1) = q_lv W t n + (decide (q_bt W (fun _ => 0) n = some t)).toNat := rfl
variable {X : KXw} {n tot kn D : Nat} {kx : Nat → Nat × Nat} {M : MMw}
theorem q_ts_lf {W : Nat → Int32} {m : Nat} (hm : m < q_n W 97) : q_ts W m = q_lf W (fun _ => 0) m := by
  unfold q_lf q_ts
  rw [if_pos hm]
  exact sto_cong (fun t _ => by
    show q_serve W t m = (q_serve W t m && !(0 : Nat).testBit t)
    rw [Nat.zero_testBit, Bool.not_false, Bool.and_true])
theorem c_most (hD : 6 ≤ D) {W : Nat → Int32} (hX : CX M 10 W) : Sq X D 286 [.inr (.inl 131), .inr (.inl 1), .inr (.inl 120)] (Gk n tot kn kx) M (fun x M' => x = q_oI (q_lw W (q_n W 97) (q_n W 96)) ∧ Fr [121, 122, 135] M M') :=
  Sq.mk (k := 5) hD (fun D' hD' => by
    have w96 := hX.2.2.1.1.1.2
    obtain ⟨w3, w97⟩ := hX.2.2.1.1.2.1
    have e21 : M 2 1 = nI (q_n W 97) := by rw [hX.1.1.2.1]; exact w3
    have hlv : ∀ t k, q_lv W t k ≤ k := fun t k => cnt_le _ _
    have best : ∀ (c t : Nat) (M1 : MMw), t + c = 8 → Fr [121, 122, 135] M M1 → (∀ t, t < 8 → M1 135 t = nI (q_lv W t (q_n W 97))) → Lq X (callw X D') 286 82 [some (.inr (.inl 131)), none, none, some (.inl (q_oI (q_lw W (q_n W 97) t))), some (.inl (nI t))] (Gk n tot kn kx) M1 (fun x M' => x = q_oI (q_lw W (q_n W 97) (q_n W 96)) ∧ Fr [121, 122, 135] M M') := by
      intro c
      induction c with
      | zero =>
        intro t M1 ht hf h5
        refine Lq.of (t_286_p131_p1_p120_82_ok X (callw X D') n tot kn kx _ _ M1) ?_
        unfold t_286_p131_p1_p120_82
        simp only [o_nI]
        rw [if_neg (by rw [lt_i (by omega) (by omega)]; omega), Wq_ret, show t = q_n W 96 + (8 - q_n W 96) by omega, q_lw_hi]
        exact ⟨rfl, hf⟩
      | succ c ih =>
        intro t M1 ht hf h5
        refine Lq.of (t_286_p131_p1_p120_82_ok X (callw X D') n tot kn kx _ _ M1) ?_
        unfold t_286_p131_p1_p120_82
        have t8 : t < 8 := by omega
        have hn := ih (t + 1) M1 (by omega) hf h5
        have l1 := hlv t (q_n W 97)
        rw [q_lw] at hn
        simp only [o_nI, z_nI]
        rw [if_pos (by rw [lt_i (by omega) (by omega)]; omega), inb_nI t8 (by decide), if_pos rfl, if_pos rfl, nI_clamp (by omega), h5 t t8]
        by_cases h0 : 0 < q_lv W t (q_n W 97)
        · rw [if_pos h0] at hn
          rw [if_pos (by rw [lt_i (by omega) (by omega)]; exact h0)]
          cases hq : q_lw W (q_n W 97) t with
          | none =>
            rw [hq] at hn
            rw [if_pos (by rw [m1n]; rfl), Wq_jmp, i1_nI, nI_add]
            exact hn
          | some r =>
            have hr := (q_lw_some hq).1
            have l2 := hlv r (q_n W 97)
            rw [hq] at hn
            dsimp only at hn
            have e : q_oI (some r) = nI r := rfl
            rw [e, if_neg (by rw [m1n, nI_nm1 (by omega)]; exact id), inb_nI (show r < 8 by omega) (by decide), if_pos rfl, nI_clamp (by omega), h5 r (by omega)]
            by_cases g : q_lv W r (q_n W 97) < q_lv W t (q_n W 97)
            · rw [if_pos g] at hn
              rw [if_pos (by rw [lt_i (by omega) (by omega)]; exact g), Wq_jmp, i1_nI, nI_add]
              exact hn
            · rw [if_neg g] at hn
              rw [if_neg (by rw [lt_i (by omega) (by omega)]; exact g), Wq_jmp, i1_nI, nI_add]
              exact hn
        · rw [if_neg h0] at hn
          rw [if_neg (by rw [lt_i (by omega) (by omega)]; exact h0), Wq_jmp, i1_nI, nI_add]
          exact hn
    have go : ∀ (M1 : MMw), Fr [121, 122, 135] M M1 → (∀ t, t < 8 → M1 135 t = nI (q_lv W t (q_n W 97))) → Lq X (callw X D') 286 82 [some (.inr (.inl 131)), none, none, some (.inl (nI 4294967295)), some (.inl (nI 0))] (Gk n tot kn kx) M1 (fun x M' => x = q_oI (q_lw W (q_n W 97) (q_n W 96)) ∧ Fr [121, 122, 135] M M') := fun M1 hf h5 => best 8 0 M1 (by omega) hf h5
    have count : ∀ (c m : Nat) (M1 : MMw), m + c = q_n W 97 → Fr [121, 122, 135] M M1 → (∀ t, t < 8 → M1 135 t = nI (q_lv W t m)) → Lq X (callw X D') 286 23 [some (.inr (.inl 131)), some (.inr (.inl 1)), some (.inr (.inl 120)), some (.inl (nI m)), none] (Gk n tot kn kx) M1 (fun x M' => x = q_oI (q_lw W (q_n W 97) (q_n W 96)) ∧ Fr [121, 122, 135] M M') := by
      intro c
      induction c with
      | zero =>
        intro m M1 hm hf h5
        refine Lq.of (t_286_p131_p1_p120_23_ok X (callw X D') n tot kn kx _ M1) ?_
        unfold t_286_p131_p1_p120_23
        simp only [o_nI]
        rw [hf 2 (by decide), e21, if_neg (by rw [lt_i (by omega) (by omega)]; omega), Wq_jmp]
        refine go M1 hf (fun t ht => ?_)
        rw [h5 t ht, show m = q_n W 97 by omega]
      | succ c ih =>
        intro m M1 hm hf h5
        refine Lq.of (t_286_p131_p1_p120_23_ok X (callw X D') n tot kn kx _ M1) ?_
        unfold t_286_p131_p1_p120_23
        have hlt := q_ts_lt (W := W) (m := m) (by omega)
        simp only [o_nI]
        rw [hf 2 (by decide), e21, if_pos (by rw [lt_i (by omega) (by omega)]; omega), if_pos (by rw [lt_i (by omega) (by omega)]; omega)]
        refine Wq.call (c_toolsServing (by omega) (show m < 4 by omega) (hX.fr hf (by decide))) ?_
        rintro x M2 ⟨rfl, f2⟩
        have hf2 : Fr [121, 122, 135] M M2 := hf.tr (f2.mono (by decide))
        have hb : q_bs W (fun t => (q_ts W m).testBit t) 8 = q_bt W (fun _ => 0) m := by rw [q_ts_lf (by omega)]; rfl
        have h52 : ∀ t, t < 8 → M2 135 t = nI (q_lv W t m) := fun t ht => by rw [f2 135 (by decide)]; exact h5 t ht
        rw [c_sharpest (by omega) hlt (hX.fr hf2 (by decide)).2.1, hb, bnd_some]
        cases hq : q_bt W (fun _ => 0) m with
        | none =>
          rw [if_pos (by rw [m1n]; rfl), Wq_jmp, i1_nI, nI_add]
          refine ih (m + 1) M2 (by omega) hf2 (fun t ht => ?_)
          rw [h52 t ht, q_lv_s, hq]
          rfl
        | some r =>
          have hr := (q_bt_some hq).1
          have r8 : r < 8 := by omega
          have e : q_oI (some r) = nI r := rfl
          rw [e, if_neg (by rw [m1n, nI_nm1 (by omega)]; exact id), inb_nI r8 (by decide), if_pos rfl, if_pos rfl, nI_clamp (by omega), h52 r r8, nI_add, Wq_jmp, i1_nI, nI_add]
          refine ih (m + 1) _ (by omega) (hf2.up (by decide)) (fun t ht => ?_)
          rw [up_at, q_lv_s, hq]
          by_cases et : t = r
          · subst et; rw [upW_s, decide_eq_true rfl]; rfl
          · rw [upW_n et, decide_eq_false (fun hh => et (Option.some.inj hh).symm), h52 t ht]; rfl
    have zero : ∀ (c t : Nat) (M1 : MMw), t + c = 8 → Fr [121, 122, 135] M M1 → (∀ k, k < t → M1 135 k = nI 0) → Lq X (callw X D') 286 2 [some (.inr (.inl 131)), some (.inr (.inl 1)), some (.inr (.inl 120)), some (.inl (nI t)), none] (Gk n tot kn kx) M1 (fun x M' => x = q_oI (q_lw W (q_n W 97) (q_n W 96)) ∧ Fr [121, 122, 135] M M') := by
      intro c
      induction c with
      | zero =>
        intro t M1 ht hf h5
        refine Lq.of (t_286_p131_p1_p120_2_ok X (callw X D') n tot kn kx _ M1) ?_
        unfold t_286_p131_p1_p120_2
        simp only [o_nI]
        rw [if_neg (by rw [lt_i (by omega) (by omega)]; omega), Wq_jmp]
        exact count (q_n W 97) 0 M1 (by omega) hf (fun k hk => h5 k (by omega))
      | succ c ih =>
        intro t M1 ht hf h5
        refine Lq.of (t_286_p131_p1_p120_2_ok X (callw X D') n tot kn kx _ M1) ?_
        unfold t_286_p131_p1_p120_2
        simp only [o_nI]
        rw [if_pos (by rw [lt_i (by omega) (by omega)]; omega), inb_nI (show t < 8 by omega) (by decide), if_pos rfl, nI_clamp (by omega), Wq_jmp, i1_nI, nI_add]
        refine ih (t + 1) _ (by omega) (hf.up (by decide)) (fun k hk => ?_)
        rw [up_at]
        by_cases e : k = t
        · subst e; rw [upW_s]
        · rw [upW_n e]; exact h5 k (by omega)
    refine Lq.of (t_286_p131_p1_p120_0_ok X (callw X D') n tot kn kx M) ?_
    unfold t_286_p131_p1_p120_0
    simp only [o_nI]
    rw [Wq_jmp]
    exact zero 8 0 M (by omega) Fr.rf (fun k hk => absurd hk (Nat.not_lt_zero k)))
theorem m_lovers (hD : 8 ≤ D) {W C : Nat → Int32} {t : Nat} (ht : t < 8) (hW : M 179 = W) (hl : q_law W 0 C) (hy : q_invY W) (hA : ∀ m, m < 4 → M 194 m = nI 0) : Sq X D 288 [.inr (.inl 178), .inl (nI t)] (Gk n tot kn kx) M (fun x M' => x = nI (q_lv W t (q_n W 97)) ∧ Fr [187, 188] M M') :=
  Sq.mk (k := 7) hD (fun D' hD' => by
    refine Lq.of (t_288_0_ok X (callw X D') n tot kn kx _ M) ?_
    unfold t_288_0
    simp only [o_nI]
    rw [Wq_jmp]
    have w2 := hy.1.1.2
    obtain ⟨w3, w4⟩ := hy.1.2.1
    have hw : ∀ M1 : MMw, Fr [187, 188] M M1 → M1 179 = W := fun M1 hf => by rw [hf 179 (by decide)]; exact hW
    have loop : ∀ (c m : Nat) (M1 : MMw), m + c = q_n W 97 → Fr [187, 188] M M1 → Lq X (callw X D') 288 4 [some (.inr (.inl 178)), some (.inl (nI t)), some (.inl (nI (q_lv W t m))), some (.inl (nI m))] (Gk n tot kn kx) M1 (fun x M' => x = nI (q_lv W t (q_n W 97)) ∧ Fr [187, 188] M M') := by
      intro c
      induction c with
      | zero =>
        intro m M1 hm hf
        refine Lq.of (t_288_4_ok X (callw X D') n tot kn kx _ _ _ M1) ?_
        unfold t_288_4
        rw [hw M1 hf, w3, if_neg (by rw [lt_i (by omega) (by omega)]; omega), Wq_ret, show m = q_n W 97 by omega]
        exact ⟨rfl, hf⟩
      | succ c ih =>
        intro m M1 hm hf
        refine Lq.of (t_288_4_ok X (callw X D') n tot kn kx _ _ _ M1) ?_
        unfold t_288_4
        simp only [o_nI]
        rw [hw M1 hf, w3, if_pos (by rw [lt_i (by omega) (by omega)]; omega)]
        refine Wq.call (m_best (A := fun _ => 0) hD' (hw M1 hf) (show m < q_n W 97 by omega) hl hy (show 0 < 256 by decide) (by rw [hf 194 (by decide)]; exact hA m (by omega))) ?_
        rintro z M2 ⟨rfl, f2⟩
        have hn := ih (m + 1) M2 (by omega) (hf.tr f2)
        rw [q_lv_s] at hn
        have hb := q_oI_inj (a := q_bt W (fun _ => 0) m) (k := t) (fun j hj => by have := (q_bt_some hj).1; omega) (by omega)
        by_cases e : q_bt W (fun _ => 0) m = some t
        · rw [decide_eq_true e] at hn
          rw [if_pos (hb.mpr e), Wq_jmp, i1_nI, nI_add, nI_add]
          exact hn
        · rw [decide_eq_false e] at hn
          rw [if_neg (fun hh => e (hb.mp hh)), Wq_jmp, i1_nI, nI_add, nI_add]
          exact hn
    exact loop (q_n W 97) 0 M (by omega) Fr.rf)
def q_lx (W : Nat → Int32) (N : Nat) (o : Option Nat) : Nat := match o with | none => 0 | some r => q_lv W r N
theorem P_loved (hD : 9 ≤ D) {len s : Nat} (h : Rl kn len s M) : Pr X D 287 289 [.inr (.inl 0)] [.inr (.inl 178)] (Gk n tot kn kx) M (Rl kn len s) := by
  have hX := h.1.1
  obtain ⟨W, hW⟩ : ∃ W, M 179 = W := ⟨_, rfl⟩
  rw [hW] at hX
  obtain ⟨w1, w96⟩ := hX.2.2.1.1.1
  have w97 := hX.2.2.1.1.2.1.2
  refine Pr.mk (Q1 := fun x M1 => x = q_oI (q_lw W (q_n W 97) (q_n W 96)) ∧ Fr [121, 122, 135] M M1) (Sq.mk (k := 8) hD (fun D' hD' => ?_)) ?_
  · refine Lq.of (t_287_0_ok X (callw X D') n tot kn kx M) ?_
    unfold t_287_0
    refine Wq.call (c_most (by omega) hX) ?_
    rintro x M1 ⟨rfl, f1⟩
    rw [Wq_ret]
    exact ⟨rfl, f1⟩
  · rintro x M1 ⟨rfl, f1⟩
    have h1 := h.ask f1 (by decide)
    have e9 : M1 179 = W := by rw [f1 179 (by decide)]; exact hW
    have hw : ∀ M2 : MMw, Fr [187, 188, 194] M1 M2 → M2 179 = W := fun M2 hf => by rw [hf 179 (by decide)]; exact e9
    have hlv : ∀ t k, q_lv W t k ≤ k := fun t k => cnt_le _ _
    refine Sq.mk (k := 8) hD (fun D' hD' => ?_)
    have loop : ∀ (c t : Nat) (M2 : MMw), t + c = q_n W 96 → Fr [187, 188, 194] M1 M2 → (∀ m, m < 4 → M2 194 m = nI 0) → Lq X (callw X D') 289 26 [some (.inr (.inl 178)), some (.inl (q_oI (q_lw W (q_n W 97) t))), some (.inl (nI (q_lx W (q_n W 97) (q_lw W (q_n W 97) t)))), some (.inl (nI t)), none] (Gk n tot kn kx) M2 (fun y M3 => y = q_oI (q_lw W (q_n W 97) (q_n W 96)) ∧ Rl kn len s M3) := by
      intro c
      induction c with
      | zero =>
        intro t M2 ht hf hA
        refine Lq.of (t_289_26_ok X (callw X D') n tot kn kx _ _ _ M2) ?_
        unfold t_289_26
        rw [hw M2 hf, w1, if_neg (by rw [lt_i (by omega) (by omega)]; omega), Wq_ret, show t = q_n W 96 by omega]
        exact ⟨rfl, h1.ask hf (by decide)⟩
      | succ c ih =>
        intro t M2 ht hf hA
        refine Lq.of (t_289_26_ok X (callw X D') n tot kn kx _ _ _ M2) ?_
        unfold t_289_26
        rw [hw M2 hf, w1, if_pos (by rw [lt_i (by omega) (by omega)]; omega)]
        refine Wq.call (m_lovers (C := M (1 + 30 + 5)) hD' (show t < 8 by omega) (hw M2 hf) hX.1.2.2.2.1.2.2 hX.2.2.1 hA) ?_
        rintro z M3 ⟨rfl, f3⟩
        have hn := ih (t + 1) M3 (by omega) (hf.tr (f3.mono (by decide))) (fun m hm => by rw [f3 194 (by decide)]; exact hA m hm)
        have l1 := hlv t (q_n W 97)
        rw [q_lw] at hn
        cases hq : q_lw W (q_n W 97) t with
        | none =>
          rw [hq] at hn
          dsimp only at hn
          have e0 : q_lx W (q_n W 97) none = 0 := rfl
          rw [e0]
          by_cases h0 : 0 < q_lv W t (q_n W 97)
          · rw [if_pos h0] at hn
            rw [if_pos (by rw [lt_i (by omega) (by omega)]; exact h0), Wq_jmp, i1_nI, nI_add]
            exact hn
          · rw [if_neg h0] at hn
            rw [if_neg (by rw [lt_i (by omega) (by omega)]; exact h0), Wq_jmp, i1_nI, nI_add]
            exact hn
        | some r =>
          obtain ⟨r1, r2⟩ := q_lw_some hq
          have l2 := hlv r (q_n W 97)
          rw [hq] at hn
          dsimp only at hn
          have e0 : q_lx W (q_n W 97) (some r) = q_lv W r (q_n W 97) := rfl
          rw [e0]
          by_cases g : q_lv W r (q_n W 97) < q_lv W t (q_n W 97)
          · rw [if_pos (by omega), if_pos g] at hn
            rw [if_pos (by rw [lt_i (by omega) (by omega)]; exact g), Wq_jmp, i1_nI, nI_add]
            exact hn
          · have e2 : (if 0 < q_lv W t (q_n W 97) then (if q_lv W r (q_n W 97) < q_lv W t (q_n W 97) then some t else some r) else some r) = some r := by
              rw [if_neg g]; split <;> rfl
            rw [e2] at hn
            rw [if_neg (by rw [lt_i (by omega) (by omega)]; exact g), Wq_jmp, i1_nI, nI_add]
            exact hn
    have zero : ∀ (c t : Nat) (M2 : MMw), t + c = 4 → Fr [187, 188, 194] M1 M2 → (∀ k, k < t → M2 194 k = nI 0) → Lq X (callw X D') 289 2 [some (.inr (.inl 178)), some (.inl (nI t)), none, none, none] (Gk n tot kn kx) M2 (fun y M3 => y = q_oI (q_lw W (q_n W 97) (q_n W 96)) ∧ Rl kn len s M3) := by
      intro c
      induction c with
      | zero =>
        intro t M2 ht hf hA
        refine Lq.of (t_289_2_ok X (callw X D') n tot kn kx _ M2) ?_
        unfold t_289_2
        simp only [o_nI]
        rw [if_neg (by rw [lt_i (by omega) (by omega)]; omega), Wq_jmp]
        have hl := loop (q_n W 96) 0 M2 (by omega) hf (fun m hm => hA m (by omega))
        exact hl
      | succ c ih =>
        intro t M2 ht hf hA
        refine Lq.of (t_289_2_ok X (callw X D') n tot kn kx _ M2) ?_
        unfold t_289_2
        simp only [o_nI]
        rw [if_pos (by rw [lt_i (by omega) (by omega)]; omega), inb_nI (show t < 4 by omega) (by decide), if_pos rfl, nI_clamp (by omega), Wq_jmp, i1_nI, nI_add]
        refine ih (t + 1) _ (by omega) (hf.up (by decide)) (fun k hk => ?_)
        rw [up_at]
        by_cases e : k = t
        · subst e; rw [upW_s]
        · rw [upW_n e]; exact hA k (by omega)
    refine Lq.of (t_289_0_ok X (callw X D') n tot kn kx M1) ?_
    unfold t_289_0
    simp only [o_nI]
    rw [Wq_jmp]
    exact zero 4 0 M1 (by omega) Fr.rf (fun k hk => absurd hk (Nat.not_lt_zero k))
end
