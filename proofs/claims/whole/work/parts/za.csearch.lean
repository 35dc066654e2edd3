section
-- needs: least
/-! the class's search -/
variable {X : KXw} {n tot kn D : Nat} {kx : Nat → Nat × Nat} {M : MMw}
abbrev q_fW (W : Nat → Int32) (k : Nat) (r : Nat → Nat) : Prop := q_fin (q_wks W) (q_cpl W) (q_pre W) (q_n W 98) k r
abbrev q_dW (W : Nat → Int32) (r : Nat → Nat) (d : Nat) : Prop := q_ds (q_wks W) (q_cpl W) (q_pre W) (q_n W 98) r d
theorem q_pre_lt {W : Nat → Int32} (hy : q_invY W) : ∀ i j, i < q_n W 98 → (q_pre W i).testBit j = true → j < i := fun i j hi hj => by
  obtain ⟨_, _, _, _, k4⟩ := hy.2.2.2.2.2.1 i hi
  rcases Nat.lt_or_ge j i with hl | hl
  · exact hl
  · have : q_pre W i < 2 ^ j := Nat.lt_of_lt_of_le k4 (Nat.pow_le_pow_right (by decide) hl)
    rw [Nat.testBit_lt_two_pow this] at hj; cases hj
/-- the class's notes: of stamp s, in a row of len cells -/
def KnP (W : Nat → Int32) (kn len s : Nat) (M : MMw) : Prop := M 124 6 = nI s ∧ ∀ i, i < len → ∃ v, M kn i = nI v ∧ v < 32 * (s + 1) ∧ (32 * s ≤ v → ∀ r : Nat → Nat, (∀ j, j < q_n W 98 → r j < 4) → i = q_en r (q_n W 98) → q_dW W r (v - 32 * s))
/-- what the search rests on -/
def SrP (W : Nat → Int32) (kn len s : Nat) (M : MMw) : Prop := CRhull M 17 W ∧ PlP W M ∧ KnP W kn len s M
theorem srp_low {W : Nat → Int32} {kn len s : Nat} {M M' : MMw} (hy : q_invY W) (h : SrP W kn len s M) (he : ∀ c, c < 128 → M' c = M c) (hk : KnP W kn len s M') : SrP W kn len s M' := by
  obtain ⟨h1, ⟨h2, h3⟩, h4⟩ := h
  have e98 := hy.1.2.2.1.2
  have e104 := hy.1.2.2.2.2.2
  refine ⟨h1.ch (fun d h1 h2 => he d (by omega)) sameY.rf (by omega) (by omega), ⟨fun m hm => ?_, fun x hx => ?_⟩, hk⟩
  · rw [he 125 (by decide)]; exact h2 m hm
  · rw [he 127 (by decide), he 126 (by decide)]; exact h3 x hx
theorem KnP.fr {W : Nat → Int32} {kn len s : Nat} {M M' : MMw} (hkn : kn = 130 ∨ 197 ≤ kn) (h : KnP W kn len s M) (hf : Fr [128, 129] M M') : KnP W kn len s M' := by
  have e1 : M' 124 = M 124 := hf 124 (by decide)
  have e2 : M' kn = M kn := hf kn (by simp only [List.mem_cons, List.not_mem_nil, or_false]; omega)
  unfold KnP
  rw [e1, e2]
  exact h
theorem SrP.fr {W : Nat → Int32} {kn len s : Nat} {M M' : MMw} (hy : q_invY W) (hkn : kn = 130 ∨ 197 ≤ kn) (h : SrP W kn len s M) (hf : Fr [128, 129] M M') : SrP W kn len s M' :=
  srp_low hy h (fun c hc => hf c (by simp only [List.mem_cons, List.not_mem_nil, or_false]; omega)) (h.2.2.fr hkn hf)
theorem q_opn_lt {W : Nat → Int32} {r : Nat → Nat} : q_opn (q_pre W) (q_n W 98) r < 2 ^ q_n W 98 := sto_lt _ _
/-- x - 1 within O -/
theorem nI_dn {x O : Nat} (h : 0 < x) : (nI x - nI 1) &&& nI O = nI ((x - 1) &&& O) := by rw [nI_sub (by omega), nI_and]
theorem q_le_sub {S O N : Nat} (h : q_le S O) (hO : O < 2 ^ N) : S < 2 ^ N := by
  have e := q_le_and h
  have : S &&& O ≤ O := Nat.and_le_right
  omega
theorem q_en_sub {W : Nat → Int32} {r : Nat → Nat} {S : Nat} (hN : q_n W 98 ≤ 8) (hS : q_le S (q_opn (q_pre W) (q_n W 98) r)) : nI (q_en r (q_n W 98)) - nI (q_sp S 8) = nI (q_en (q_stp r S) (q_n W 98)) := by
  have e1 : q_sp S 8 = q_sp S (q_n W 98) := by
    have := q_sp_hi (q_le_sub hS q_opn_lt) (8 - q_n W 98)
    rw [show q_n W 98 + (8 - q_n W 98) = 8 by omega] at this
    exact this
  have e2 := q_en_stp (r := r) (S := S) (n := q_n W 98) (fun i _ hb => (q_opn_tb.mp (hS i hb)).2.1)
  rw [e1, nI_sub (by omega)]
  congr 1
  omega
/-- r hours can be done, in 24 at most -/
def q_able (W : Nat → Int32) (r : Nat → Nat) : Prop := (∀ i, i < q_n W 98 → r i < 4) ∧ q_clo (q_pre W) (q_n W 98) r ∧ ∀ i, i < q_n W 98 → r i ≠ 0 → q_okS (q_wks W) (q_cpl W) (2 ^ i)
theorem q_able.stp {W : Nat → Int32} {r : Nat → Nat} {S : Nat} (hy : q_invY W) (h : q_able W r) (hS : q_le S (q_opn (q_pre W) (q_n W 98) r)) : q_able W (q_stp r S) := by
  obtain ⟨h1, h2, h3⟩ := h
  have w2 := hy.1.2.2.1.2
  refine ⟨fun i hi => ?_, h2.stp (q_pre_lt hy) (by omega) hS, fun i hi hne => h3 i hi (fun e => hne ?_)⟩
  · have := h1 i hi
    unfold q_stp; omega
  · unfold q_stp; rw [e]; exact Nat.zero_sub _
theorem q_able.ds {W : Nat → Int32} {r : Nat → Nat} (hy : q_invY W) (h : q_able W r) : ∃ d, d ≤ 24 ∧ q_dW W r d := by
  have w2 := hy.1.2.2.1.2
  obtain ⟨d, d1, d2⟩ := q_ds_ex (q_fin_all2 (by omega) (q_pre_lt hy) h.2.2 (q_sum_24 (by omega) h.1))
  exact ⟨d, d1, d2⟩
abbrev FeQ (W : Nat → Int32) (kn len s : Nat) (r : Nat → Nat) (M : MMw) (x : Int32) (M' : MMw) : Prop := (∃ d, x = nI d ∧ q_dW W r d) ∧ KnP W kn len s M' ∧ Fr [128, 129, kn] M M'
theorem fr_k {kn : Nat} {M M' : MMw} (hf : Fr [128, 129, kn] M M') (hkn : kn = 130 ∨ 197 ≤ kn) : ∀ c, c < 128 → M' c = M c := fun c hc => hf c (by simp only [List.mem_cons, List.not_mem_nil, or_false]; omega)
theorem c_byFirst (hD : 5 ≤ D) {W : Nat → Int32} {len s dep : Nat} {r : Nat → Nat} (hkn : kn = 130 ∨ 197 ≤ kn) (hy : q_invY W) (hr : q_able W r) (h0 : ¬ ∀ i, i < q_n W 98 → r i = 0) (hS : SrP W kn len s M)
    (ih : ∀ (S : Nat) (M1 : MMw), S ≠ 0 → q_le S (q_opn (q_pre W) (q_n W 98) r) → SrP W kn len s M1 → Sq X D 241 [.inr (.inl 124), .inr (.inl 17), .inl (nI (q_en (q_stp r S) (q_n W 98))), .inl (nI dep + nI 1)] (Gk n tot kn kx) M1 (FeQ W kn len s (q_stp r S) M1)) :
    Sq X (D + 1) 240 [.inr (.inl 124), .inr (.inl 17), .inl (nI (q_en r (q_n W 98))), .inl (nI dep)] (Gk n tot kn kx) M (FeQ W kn len s r M) := by
  have w2 := hy.1.2.2.1.2
  have hN : q_n W 98 ≤ 8 := by omega
  obtain ⟨d, d24, hd⟩ := hr.ds hy
  have hal := q_al_fin hN (q_pre_lt hy) hr.2.1 hd.1 15 (by decide)
  have p8 : 2 ^ q_n W 98 ≤ 2 ^ 8 := Nat.pow_le_pow_right (by decide) hN
  have hO : q_opn (q_pre W) (q_n W 98) r < 256 := by have := q_opn_lt (W := W) (r := r); omega
  have loop : ∀ (c x b : Nat) (M1 : MMw), x ≤ c → q_le x (q_opn (q_pre W) (q_n W 98) r) → d ≤ b → b ≤ 31 → (∀ S, x < S → q_cand (q_wks W) (q_cpl W) (q_pre W) (q_n W 98) r S → ∀ k, q_fW W k (q_stp r S) → b ≤ k + 1) → Fr [128, 129, kn] M M1 → SrP W kn len s M1 →
      Lq X (callw X D) 240 31 [some (.inr (.inl 124)), some (.inr (.inl 17)), some (.inl (nI (q_en r (q_n W 98)))), some (.inl (nI dep)), some (.inl (nI (q_al W r 15))), some (.inl (nI (q_opn (q_pre W) (q_n W 98) r))), some (.inl (nI (q_most W (q_opn (q_pre W) (q_n W 98) r)))), some (.inl (nI b)), some (.inl (nI x))] (Gk n tot kn kx) M1 (FeQ W kn len s r M) := by
    intro c
    induction c with
    | zero =>
      intro x b M1 hx hxO hdb hb hno hf hs
      refine Lq.of (t_240_p124_p17_31_ok X (callw X D) n tot kn kx _ _ _ _ _ _ _ M1) ?_
      unfold t_240_p124_p17_31
      simp only [z_nI]
      rw [if_neg (by rw [lt_i (by omega) (by omega)]; omega), Wq_ret]
      obtain ⟨e, S, h1, h2, h3⟩ := q_ds_full hN hd h0
      have := hno S (by have := h2.1; omega) h2 e h3
      exact ⟨⟨b, rfl, by rw [show b = d by omega]; exact hd⟩, hs.2.2, hf⟩
    | succ c ihc =>
      intro x b M1 hx hxO hdb hb hno hf hs
      have hx8 : x < 256 := q_le_lt hxO hO
      by_cases hx0 : x = 0
      · exact ihc x b M1 (by omega) hxO hdb hb hno hf hs
      refine Lq.of (t_240_p124_p17_31_ok X (callw X D) n tot kn kx _ _ _ _ _ _ _ M1) ?_
      unfold t_240_p124_p17_31
      have hnle : (x - 1) &&& q_opn (q_pre W) (q_n W 98) r ≤ x - 1 := Nat.and_le_left
      have hdn := nI_dn (x := x) (O := q_opn (q_pre W) (q_n W 98) r) (by omega)
      have next : ∀ (b' : Nat) (M2 : MMw), d ≤ b' → b' ≤ b → (q_cand (q_wks W) (q_cpl W) (q_pre W) (q_n W 98) r x → ∀ k, q_fW W k (q_stp r x) → b' ≤ k + 1) → Fr [128, 129, kn] M M2 → SrP W kn len s M2 → Lq X (callw X D) 240 31 [some (.inr (.inl 124)), some (.inr (.inl 17)), some (.inl (nI (q_en r (q_n W 98)))), some (.inl (nI dep)), some (.inl (nI (q_al W r 15))), some (.inl (nI (q_opn (q_pre W) (q_n W 98) r))), some (.inl (nI (q_most W (q_opn (q_pre W) (q_n W 98) r)))), some (.inl (nI b')), some (.inl (nI ((x - 1) &&& q_opn (q_pre W) (q_n W 98) r)))] (Gk n tot kn kx) M2 (FeQ W kn len s r M) := fun b' M2 g1 g2 g3 g4 g5 => by
        refine ihc _ b' M2 (by omega) q_le_and2 g1 (by omega) (fun S hS hc k hk => ?_) g4 g5
        rcases Nat.lt_trichotomy S x with hl | hl | hl
        · have := q_sub_next hO hxO hc.2.1 hl
          omega
        · subst hl; exact g3 hc k hk
        · have := hno S hl hc k hk
          omega
      simp only [o_nI, z_nI]
      rw [if_pos (by rw [lt_i (by omega) (by omega)]; omega)]
      have hal2 := q_al_le (W := W) (r := r) hN hr.1 15
      by_cases hlt : q_al W r 15 < b
      · rw [if_pos (by rw [lt_i (by omega) (by omega)]; exact hlt), c_bits (by omega) hx8, bnd_some, hdn]
        have lb : q_bc x ≤ 8 := cnt_le _ _
        have lm : q_most W (q_opn (q_pre W) (q_n W 98) r) ≤ 16 := by
          have h1 : q_most W (q_opn (q_pre W) (q_n W 98) r) ≤ _ := q_mn_le (f := fun x => q_cpl W x + q_bc (q_cp (q_opn (q_pre W) (q_n W 98) r) (q_wks W x))) (n := 15) (i := 0) (by decide)
          have h2 := q_cpl_le (W := W) (x := 0)
          have h3 : q_bc (q_cp (q_opn (q_pre W) (q_n W 98) r) (q_wks W 0)) ≤ 8 := cnt_le _ _
          omega
        by_cases hm : q_bc x = q_most W (q_opn (q_pre W) (q_n W 98) r)
        · rw [if_pos (by rw [hm])]
          refine Wq.call (c_canGoOn (by omega) hx8 hs.2.1) ?_
          rintro y M2 ⟨⟨bb, rfl, hbb⟩, rfl⟩
          cases bb with
          | false =>
            rw [if_pos (by rfl), Wq_jmp]
            exact next b M2 hdb (Nat.le_refl _) (fun hc => by have := hbb.mpr hc.2.2.1; cases this) hf hs
          | true =>
            have hok := hbb.mp rfl
            rw [if_neg (by decide +kernel), c_spread (by omega) hx8, bnd_some, q_en_sub hN hxO]
            refine Wq.call (ih x M2 hx0 hxO hs) ?_
            rintro y M3 ⟨⟨d', rfl, hd'⟩, hk3, f3⟩
            have hs3 := srp_low hy hs (fr_k f3 hkn) hk3
            have d'24 : d' ≤ 24 := Nat.le_trans (q_ds_sum hN hd') (q_sum_24 hN (hr.stp hy hxO).1)
            have hup : d ≤ d' + 1 := hd.le (k := d' + 1) (Or.inr ⟨x, hxO, hok, hd'.1⟩)
            rw [nI_add, c_min (by omega), bnd_some, nI_min (by omega) (by omega), Wq_jmp]
            refine next _ M3 ?_ ?_ (fun hc k hk => ?_) (hf.tr f3) hs3
            · split <;> omega
            · split <;> omega
            · have := hd'.le hk
              split <;> omega
        · rw [if_neg (by rw [eq_i (by omega) (by omega)]; exact hm), Wq_jmp]
          exact next b M1 hdb (Nat.le_refl _) (fun hc => absurd ((q_full_most (by have := hy.1.1.2; omega) hO hxO hc.2.2.1).mp hc.2.2.2) hm) hf hs
      · rw [if_neg (by rw [lt_i (by omega) (by omega)]; exact hlt), Wq_ret]
        exact ⟨⟨b, rfl, by rw [show b = d by omega]; exact hd⟩, hs.2.2, hf⟩
  refine Sq.of ?_
  refine Lq.of (t_240_p124_p17_0_ok X (callw X D) n tot kn kx _ _ M) ?_
  unfold t_240_p124_p17_0
  refine Wq.call (c_atLeast (by omega) hr.1 hS.1 hy hS.2.1) ?_
  rintro y M2 ⟨rfl, f2⟩
  have hs2 := hS.fr hy hkn f2
  rw [c_openOf (by omega) hr.1 hs2.1 hy, bnd_some, c_most1 (by omega) hO hs2.2.1, bnd_some, Wq_jmp, o_nI]
  exact loop _ _ 31 M2 (Nat.le_refl _) (fun j hj => hj) (by omega) (by decide) (fun S hS hc => by
    have h1 := q_le_and hc.2.1
    have h2 : S &&& q_opn (q_pre W) (q_n W 98) r ≤ q_opn (q_pre W) (q_n W 98) r := Nat.and_le_right
    omega) (f2.mono (by simp)) hs2
theorem c_fewest {W : Nat → Int32} {len s : Nat} (hkn : kn = 130 ∨ 197 ≤ kn) (hkx : (Gk n tot kn kx).2.2.1 kn = (100, len)) (hy : q_invY W) (hl1 : 4 ^ q_n W 98 ≤ len) (hl2 : len < 2 ^ 31) (hs2 : s < 1000000) : ∀ (m D dep : Nat) (r : Nat → Nat) (M : MMw), 2 * m + 8 ≤ D → q_sum r (q_n W 98) ≤ m → dep + q_sum r (q_n W 98) ≤ 24 → q_able W r → SrP W kn len s M →
    Sq X D 241 [.inr (.inl 124), .inr (.inl 17), .inl (nI (q_en r (q_n W 98))), .inl (nI dep)] (Gk n tot kn kx) M (FeQ W kn len s r M) := by
  have w2 := hy.1.2.2.1.2
  have hN : q_n W 98 ≤ 8 := by omega
  have zcase : ∀ (D dep : Nat) (r : Nat → Nat) (M : MMw), 1 ≤ D → (∀ i, i < q_n W 98 → r i = 0) → SrP W kn len s M → Sq X D 241 [.inr (.inl 124), .inr (.inl 17), .inl (nI (q_en r (q_n W 98))), .inl (nI dep)] (Gk n tot kn kx) M (FeQ W kn len s r M) := fun D dep r M hD h0 hS =>
    Sq.mk (k := 0) hD (fun D' _ => by
      refine Lq.of (t_241_p124_p17_0_ok X (callw X D') n tot kn kx _ _ M) ?_
      unfold t_241_p124_p17_0
      rw [q_en_z.mpr h0, if_pos (by rfl), Wq_ret]
      exact ⟨⟨0, rfl, q_ds_0 h0⟩, hS.2.2, Fr.rf⟩)
  intro m
  induction m with
  | zero =>
    intro D dep r M hD hm _ hr hS
    exact zcase D dep r M (by omega) (fun i hi => by have := q_sum_ge (f := r) hi; omega) hS
  | succ m ih =>
    intro D dep r M hD hm hdep hr hS
    by_cases h0 : ∀ i, i < q_n W 98 → r i = 0
    · exact zcase D dep r M (by omega) h0 hS
    refine Sq.mk (k := 2 * m + 9) (by omega) (fun D' hD' => ?_)
    obtain ⟨D2, rfl⟩ : ∃ D2, D' = D2 + 1 := ⟨D' - 1, by omega⟩
    refine Lq.of (t_241_p124_p17_0_ok X (callw X (D2 + 1)) n tot kn kx _ _ M) ?_
    unfold t_241_p124_p17_0
    have elt : q_en r (q_n W 98) < len := Nat.lt_of_lt_of_le (q_en_lt hr.1) hl1
    have e0 : q_en r (q_n W 98) ≠ 0 := fun e => h0 (q_en_z.mp e)
    obtain ⟨k1, k2⟩ := hS.2.2
    obtain ⟨v, v1, v2, v3⟩ := k2 _ elt
    simp only [hkx, o_nI, z_nI]
    rw [if_neg (by rw [eq_i (by omega) (by omega)]; exact e0), if_neg (by rw [lt_i (by omega) (by omega)]; omega), if_pos (Nat.le_refl _), if_pos (by rw [lt_i (by omega) hl2]; exact elt), if_neg (by rw [lt_i (by omega) (by omega)]; omega), inb_nI elt hl2]
    simp only [if_true, nI_clamp (show q_en r (q_n W 98) < 2 ^ 31 by omega)]
    rw [v1, k1, nI_shr (by omega) (by omega), Nat.shiftRight_eq_div_pow]
    by_cases hv : v / 2 ^ 5 = s
    · rw [if_pos (by rw [hv]), nI_and, Wq_ret]
      refine ⟨⟨v &&& 31, rfl, ?_⟩, ⟨k1, k2⟩, Fr.rf⟩
      have h3 := v3 (by omega) r hr.1 rfl
      rw [show v &&& 31 = v - 32 * s by rw [show 31 = 2 ^ 5 - 1 from rfl, Nat.and_two_pow_sub_one_eq_mod]; omega]
      exact h3
    · rw [if_neg (by rw [eq_i (by omega) (by omega)]; exact hv)]
      refine Wq.call (c_byFirst (D := D2) (by omega) hkn hy hr h0 hS (fun S M1 hS0 hSO hs1 => ?_)) ?_
      · have h1 := q_sum_stp hSO hS0
        rw [nI_add]
        exact ih D2 (dep + 1) (q_stp r S) M1 (by omega) (by omega) (by omega) (hr.stp hy hSO) hs1
      · rintro y M2 ⟨⟨d, rfl, hd⟩, hk2, f2⟩
        have d24 : d ≤ 24 := Nat.le_trans (q_ds_sum hN hd) (q_sum_24 hN hr.1)
        have est : nI s <<< (nI 5 &&& 31) ||| nI d = nI (32 * s + d) := by
          rw [nI_shl (by omega), nI_or, Nat.mul_comm s (2 ^ 5), ← Nat.two_pow_add_eq_or_of_lt (show d < 2 ^ 5 by omega)]
        rw [est, up_at, upW_s, nI_and, Wq_ret]
        refine ⟨⟨(32 * s + d) &&& 31, rfl, ?_⟩, ?_, f2.up (by simp)⟩
        · rw [show (32 * s + d) &&& 31 = d by rw [show 31 = 2 ^ 5 - 1 from rfl, Nat.and_two_pow_sub_one_eq_mod]; omega]
          exact hd
        · obtain ⟨g1, g2⟩ := hk2
          refine ⟨by rw [up_ne (by omega)]; exact g1, fun i hi => ?_⟩
          rw [up_at]
          by_cases e : i = q_en r (q_n W 98)
          · subst e
            rw [upW_s]
            refine ⟨_, rfl, by omega, fun _ r' hr' he => ?_⟩
            rw [show 32 * s + d - 32 * s = d by omega]
            exact hd.cg hN (q_pre_lt hy) (q_en_inj hr.1 hr' he)
          · rw [upW_n e]; exact g2 i hi
end
