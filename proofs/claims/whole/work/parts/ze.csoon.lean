section
-- needs: soon
/-! the class's first set; soonest -/
variable {X : KXw} {n tot kn D : Nat} {kx : Nat → Nat × Nat} {M : MMw}
theorem c_firstSet {W : Nat → Int32} {len s : Nat} {r : Nat → Nat} (hD : 60 ≤ D) (hkn : kn = 130 ∨ 197 ≤ kn) (hkx : (Gk n tot kn kx).2.2.1 kn = (100, len)) (hy : q_invY W) (hl1 : 4 ^ q_n W 98 ≤ len) (hl2 : len < 2 ^ 31) (hs2 : s < 1000000) (hr : q_able W r) (hS : SrP W kn len s M) :
    Sq X D 243 [.inr (.inl 124), .inr (.inl 17), .inl (nI (q_en r (q_n W 98)))] (Gk n tot kn kx) M (fun x M' => (∃ d, d ≤ 24 ∧ q_dW W r d ∧ (d = 0 → x = nI 0) ∧ ∀ e, d = e + 1 → LsP W r e x) ∧ KnP W kn len s M' ∧ Fr [128, 129, kn] M M') := by
  obtain ⟨D', rfl⟩ : ∃ D', D = D' + 1 := ⟨D - 1, by omega⟩
  have w2 := hy.1.2.2.1.2
  have hN : q_n W 98 ≤ 8 := by omega
  have h24 := q_sum_24 hN hr.1
  have p8 : 2 ^ q_n W 98 ≤ 2 ^ 8 := Nat.pow_le_pow_right (by decide) hN
  have hOl := q_opn_lt (W := W) (r := r)
  have hO : q_opn (q_pre W) (q_n W 98) r < 256 := by omega
  refine Sq.of ?_
  refine Lq.of (t_243_p124_p17_0_ok X (callw X D') n tot kn kx _ M) ?_
  unfold t_243_p124_p17_0
  refine Wq.call (c_fewest hkn hkx hy hl1 hl2 hs2 24 D' 0 r M (by omega) h24 (by omega) hr hS) ?_
  rintro y M2 ⟨⟨d, rfl, hd⟩, hk2, f2⟩
  have hs2' := srp_low hy hS (fr_k f2 hkn) hk2
  have d24 : d ≤ 24 := Nat.le_trans (q_ds_sum hN hd) h24
  rw [c_openOf (by omega) hr.1 hs2'.1 hy, bnd_some, Wq_jmp]
  cases d with
  | zero =>
    have hz := hd.z
    have hO0 : q_opn (q_pre W) (q_n W 98) r = 0 := by
      apply Nat.eq_of_testBit_eq
      intro i
      rw [Nat.zero_testBit]
      cases hb : (q_opn (q_pre W) (q_n W 98) r).testBit i with
      | false => rfl
      | true =>
        obtain ⟨a1, a2, _⟩ := q_opn_tb.mp hb
        exact absurd (hz i a1) a2
    refine Lq.of (t_243_p124_p17_20_ok X (callw X D') n tot kn kx _ _ _ _ M2) ?_
    unfold t_243_p124_p17_20
    simp only [o_nI]
    rw [hO0, if_pos (by rw [lt_i (by omega) (by omega)]; omega), Wq_ret]
    exact ⟨⟨0, by decide, hd, fun _ => rfl, fun e he => by cases he⟩, hk2, f2⟩
  | succ e =>
    obtain ⟨S0, hS0⟩ := q_fs_ex hN hd
    have S0l : S0 ≤ q_opn (q_pre W) (q_n W 98) r := by
      have h1 := q_le_and hS0.2.1
      have h2 : S0 &&& q_opn (q_pre W) (q_n W 98) r ≤ q_opn (q_pre W) (q_n W 98) r := Nat.and_le_right
      omega
    have loop : ∀ (c x : Nat) (M1 : MMw), x + c = 256 → (∀ S', S' < x → ¬ q_fsP (q_wks W) (q_cpl W) (q_pre W) (q_n W 98) r e S') → 0 < x → Fr [128, 129, kn] M M1 → SrP W kn len s M1 →
        Lq X (callw X D') 243 20 [some (.inr (.inl 124)), some (.inr (.inl 17)), some (.inl (nI (q_en r (q_n W 98)))), some (.inl (nI e)), some (.inl (nI (q_opn (q_pre W) (q_n W 98) r))), some (.inl (nI x)), none] (Gk n tot kn kx) M1 (fun x M' => (∃ d, d ≤ 24 ∧ q_dW W r d ∧ (d = 0 → x = nI 0) ∧ ∀ e, d = e + 1 → LsP W r e x) ∧ KnP W kn len s M' ∧ Fr [128, 129, kn] M M') := by
      intro c
      induction c with
      | zero =>
        intro x M1 hx hno h0 hf hs1
        exact absurd hS0 (hno S0 (by omega))
      | succ c ih =>
        intro x M1 hx hno h0 hf hs1
        have hx8 : x < 256 := by omega
        have xle : x ≤ q_opn (q_pre W) (q_n W 98) r := by
          rcases Nat.lt_or_ge S0 x with hl | hl
          · exact absurd hS0 (hno S0 hl)
          · omega
        have next : ∀ M2 : MMw, ¬ q_fsP (q_wks W) (q_cpl W) (q_pre W) (q_n W 98) r e x → Fr [128, 129, kn] M M2 → SrP W kn len s M2 → Lq X (callw X D') 243 20 [some (.inr (.inl 124)), some (.inr (.inl 17)), some (.inl (nI (q_en r (q_n W 98)))), some (.inl (nI e)), some (.inl (nI (q_opn (q_pre W) (q_n W 98) r))), some (.inl (nI (x + 1))), none] (Gk n tot kn kx) M2 (fun x M' => (∃ d, d ≤ 24 ∧ q_dW W r d ∧ (d = 0 → x = nI 0) ∧ ∀ e, d = e + 1 → LsP W r e x) ∧ KnP W kn len s M' ∧ Fr [128, 129, kn] M M') := fun M2 g1 g2 g3 =>
          ih (x + 1) M2 (by omega) (fun S' hS' => by
            by_cases e : S' = x
            · subst e; exact g1
            · exact hno S' (by omega)) (by omega) g2 g3
        refine Lq.of (t_243_p124_p17_20_ok X (callw X D') n tot kn kx _ _ _ _ M1) ?_
        unfold t_243_p124_p17_20
        simp only [o_nI, z_nI]
        rw [if_neg (by rw [lt_i (by omega) (by omega)]; omega)]
        by_cases hxO : q_le x (q_opn (q_pre W) (q_n W 98) r)
        · rw [if_pos (by rw [q_not_in (by omega)]; exact hxO)]
          refine Wq.call (c_canGoOn (by omega) hx8 hs1.2.1) ?_
          rintro y M3 ⟨⟨bb, rfl, hbb⟩, rfl⟩
          cases bb with
          | false =>
            rw [if_pos (by rfl), Wq_jmp, i1_nI, nI_add]
            exact next M3 (fun h => by have := hbb.mpr h.2.2.1; cases this) hf hs1
          | true =>
            have hok := hbb.mp rfl
            have x0 : x ≠ 0 := by omega
            have hr' := hr.stp hy hxO
            have hsum := q_sum_stp hxO x0
            rw [if_neg (by decide +kernel), c_spread (by omega) hx8, bnd_some, q_en_sub hN hxO]
            refine Wq.call (c_atLeast (by omega) hr'.1 hs1.1 hy hs1.2.1) ?_
            rintro y M4 ⟨rfl, f4⟩
            have hs4 := hs1.fr hy hkn f4
            have f4' := hf.tr (f4.mono (L' := [128, 129, kn]) (by simp))
            have hal2 := q_al_le (W := W) hN hr'.1 15
            by_cases hlt : e < q_al W (q_stp r x) 15
            · rw [if_pos (by rw [lt_i (by omega) (by omega)]; exact hlt), Wq_jmp, i1_nI, nI_add]
              refine next M4 (fun h => ?_) f4' hs4
              have := q_al_fin hN (q_pre_lt hy) hr'.2.1 h.2.2.2 15 (by decide)
              omega
            · rw [if_neg (by rw [lt_i (by omega) (by omega)]; exact hlt)]
              refine Wq.call (c_fewest hkn hkx hy hl1 hl2 hs2 24 D' 1 (q_stp r x) M4 (by omega) (by omega) (by omega) hr' hs4) ?_
              rintro y M5 ⟨⟨d', rfl, hd'⟩, hk5, f5⟩
              have hs5 := srp_low hy hs4 (fr_k f5 hkn) hk5
              have d'24 : d' ≤ 24 := Nat.le_trans (q_ds_sum hN hd') (q_sum_24 hN hr'.1)
              by_cases hlt2 : e < d'
              · rw [if_pos (by rw [lt_i (by omega) (by omega)]; exact hlt2), Wq_jmp, i1_nI, nI_add]
                refine next M5 (fun h => ?_) (f4'.tr f5) hs5
                have := hd'.le h.2.2.2
                omega
              · rw [if_neg (by rw [lt_i (by omega) (by omega)]; exact hlt2), Wq_ret]
                exact ⟨⟨e + 1, d24, hd, fun h => (by cases h), fun e' he => by cases he; exact ⟨x, hx8, rfl, ⟨x0, hxO, hok, q_fin_le (by omega) hd'.1⟩, hno⟩⟩, hk5, f4'.tr f5⟩
        · rw [if_neg (by rw [q_not_in (by omega)]; exact hxO), Wq_jmp, i1_nI, nI_add]
          exact next M1 (fun h => hxO h.2.1) hf hs1
    rw [o_nI, nI_sub (by omega), show e + 1 - 1 = e by omega]
    exact loop 255 1 M2 (by omega) (fun S' hS' h => h.1 (by omega)) (by decide) f2 hs2'
theorem callG {mid : Nat} {as : List PVw} {G G' : GGw} {k : Nat} {Q : Int32 → MMw → Prop} {t : Option TRw} (h : seg X (callw X D) mid k 0 (cin mid as) [] G M = t) (ht : Wq X (callw X D) mid G' Q t) : ∃ x M', callw X (D + 1) mid as G M = some (x, G', M') ∧ Q x M' := by
  obtain ⟨x, M', h1, h2⟩ := ht
  exact ⟨x, M', callw_of (Ev_of h h1), h2⟩
theorem Wq.callG {a mid : Nat} {as : List PVw} {G0 G : GGw} {Q Q1 : Int32 → MMw → Prop} {f : Int32 → GGw → MMw → Option TRw} (h : Sq X D a as G0 M Q1) (hk : ∀ x M', Q1 x M' → Wq X (callw X D) mid G Q (f x G0 M')) : Wq X (callw X D) mid G Q (bnd (callw X D a as G0 M) f) := by
  obtain ⟨x, M', h1, h2⟩ := h
  rw [h1]
  exact hk x M' h2
theorem Wq_retG {cl : CLw} {mid : Nat} {G : GGw} {Q : Int32 → MMw → Prop} {x : Int32} {M' : MMw} (h : Q x M') : Wq X cl mid G Q (some (.inl (x, G, M'))) := ⟨x, M', rfl, h⟩
theorem F0w_hi : ∀ c, 197 ≤ c → ∀ k, F0w c k = 0 := by
  intro c hc k
  unfold F0w
  rcases Nat.lt_or_ge c 208 with h | h
  · have e : c / 16 = 12 := by omega
    have e2 : c % 16 = 5 ∨ c % 16 = 6 ∨ c % 16 = 7 ∨ c % 16 = 8 ∨ c % 16 = 9 ∨ c % 16 = 10 ∨ c % 16 = 11 ∨ c % 16 = 12 ∨ c % 16 = 13 ∨ c % 16 = 14 ∨ c % 16 = 15 := by omega
    rw [e]
    rcases e2 with e2 | e2 | e2 | e2 | e2 | e2 | e2 | e2 | e2 | e2 | e2 <;> rw [e2] <;> rfl
  · have e : fL[c / 16]? = none := by
      rw [List.getElem?_eq_none]
      show 13 ≤ c / 16
      omega
    rw [e]
theorem Gk_new {a : Nat} (hn : 197 ≤ n) : ((n + 1, tot + a, fun c' => if c' = n then (100, a) else (Gk n tot kn kx).2.2.1 c', fun c' k' => if c' = 124 then (if k' = 5 then n + 1 else (if c' = n then 0 else (Gk n tot kn kx).2.2.2 c' k')) else (if c' = n then 0 else (Gk n tot kn kx).2.2.2 c' k')) : GGw) = Gk (n + 1) (tot + a) n (fun c => if c = n then (100, a) else kx c) := by
  unfold Gk
  refine congrArg (fun z => (n + 1, tot + a, z)) ?_
  refine Prod.ext ?_ ?_
  · funext c
    by_cases h : c = n
    · subst h
      simp only [if_true]
      rw [if_neg (by omega)]
    · simp only [if_neg h]
  · funext c k
    by_cases h : c = 124
    · subst h
      simp only [if_true]
      by_cases h2 : k = 5
      · subst h2; simp
      · simp only [if_neg h2, show ¬ (124 = n) by omega, if_false, and_false]
        simp [h2]
    · simp only [if_neg h, h, false_and, if_false]
      by_cases h2 : c = n
      · subst h2
        rw [if_pos rfl, F0w_hi _ hn]
      · rw [if_neg h2]
theorem c_makeRoom (hD : 1 ≤ D) {N len : Nat} (hN : N ≤ 8) (hn : 197 ≤ n) (hkx : (Gk n tot kn kx).2.2.1 kn = (100, len)) (hlen : len < 2 ^ 31) : (4 ^ N ≤ len ∧ callw X D 228 [.inr (.inl 124), .inl (nI N)] (Gk n tot kn kx) M = some (0, Gk n tot kn kx, M)) ∨ (len < 4 ^ N ∧ callw X D 228 [.inr (.inl 124), .inl (nI N)] (Gk n tot kn kx) M = some (0, Gk (n + 1) (tot + 4 ^ N) n (fun c => if c = n then (100, 4 ^ N) else kx c), fun c k => if c = n then 0 else M c k)) := by
  obtain ⟨D', rfl⟩ : ∃ D', D = D' + 1 := ⟨D - 1, by omega⟩
  have e4 : nI 1 <<< ((nI 2 * nI N) &&& 31) = nI (4 ^ N) := by
    rw [nI_mul, nI_shl (by omega), Nat.one_mul, Nat.pow_mul]
  have p4 : 4 ^ N ≤ 4 ^ 8 := Nat.pow_le_pow_right (by decide) hN
  have k124 : (Gk n tot kn kx).2.2.1 124 = (6, 0) := by
    show (if 124 < 197 then kd0 124 else kx 124) = (6, 0)
    rw [if_pos (by decide)]
    decide +kernel
  rcases Nat.lt_or_ge len (4 ^ N) with hl | hl
  · refine Or.inr ⟨hl, ?_⟩
    have e : t_228_p124_0 X (callw X D') n tot kn kx (nI N) M = some (.inl (0, Gk (n + 1) (tot + 4 ^ N) n (fun c => if c = n then (100, 4 ^ N) else kx c), fun c k => if c = n then 0 else M c k)) := by
      unfold t_228_p124_0
      simp only [hkx, o_nI, z_nI]
      rw [e4, if_neg (by rw [lt_i (by omega) (by omega)]; omega), if_neg (by rw [lt_i (by omega) (by omega)]; omega), if_pos (Nat.le_refl _), if_pos (by rw [lt_i hlen (by omega)]; exact hl), inb_nI (show 4 ^ N < 100000 by omega) (by decide), if_pos rfl, nI_clamp (by omega)]
      rw [if_pos (by show (if (124 : Nat) = n then ((100, 4 ^ N) : Nat × Nat) else (Gk n tot kn kx).2.2.1 124).1 = 6; rw [if_neg (by omega), k124])]
      rw [← Gk_new (tot := tot) (kn := kn) (kx := kx) hn]
      rfl
    exact callw_of (Ev_of (t_228_p124_0_ok X (callw X D') n tot kn kx _ M) (by rw [e]; rfl))
  · refine Or.inl ⟨hl, ?_⟩
    have e : t_228_p124_0 X (callw X D') n tot kn kx (nI N) M = some (.inl (0, Gk n tot kn kx, M)) := by
      unfold t_228_p124_0
      simp only [hkx, o_nI, z_nI]
      rw [e4, if_neg (by rw [lt_i (by omega) (by omega)]; omega), if_neg (by rw [lt_i (by omega) (by omega)]; omega), if_pos (Nat.le_refl _), if_neg (by rw [lt_i hlen (by omega)]; omega)]
    exact callw_of (Ev_of (t_228_p124_0_ok X (callw X D') n tot kn kx _ M) (by rw [e]; rfl))
end
