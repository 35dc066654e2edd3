section
-- needs: csoon
/-! soonest -/
variable {X : KXw} {n tot kn D : Nat} {kx : Nat → Nat × Nat} {M : MMw}
/-- the places that soonest changes -/
abbrev SoL (d : Nat) : Prop := (120 ≤ d ∧ d ≤ 130) ∨ (187 ≤ d ∧ d ≤ 192) ∨ 197 ≤ d
theorem Rl.so {L : List Nat} {kn len s kn' len' s' : Nat} {M M' : MMw} (h : Rl kn len s M) (hf : Fr L M M') (hL : ∀ d, d ∈ L → SoL d) (hP : RlP kn' len' s' M') : Rl kn' len' s' M' := by
  have e : ∀ c, ¬ SoL c → M' c = M c := fun c hc => hf c (fun hd => hc (hL c hd))
  have e9 : M' 179 = M 179 := e 179 (by unfold SoL; omega)
  have e8 : M' 178 = M 178 := e 178 (by unfold SoL; omega)
  have e0 : M' 0 = M 0 := e 0 (by unfold SoL; omega)
  obtain ⟨⟨x1, x2⟩, ⟨i1, i2⟩, hB, ⟨t1, t2, t3⟩, _⟩ := h
  refine ⟨⟨?_, ?_⟩, ⟨?_, ?_⟩, hB.st (StB.of hf (fun d hd => by have := hL d hd; unfold SoL at this; omega)) e9, ?_, hP⟩
  · rw [e9]; exact x1.fr hf (fun d hd => by have := hL d hd; unfold SoL at this; unfold Yp; omega)
  · rw [e9]
    unfold CRbook at x2 ⊢
    rw [e 43 (by unfold SoL; omega)]
    exact x2
  · rw [e0, e8]; exact i1
  · rw [e8]
    rcases i2 with i2 | ⟨h2, h3, h4, h5, h6, h7⟩
    · exact Or.inl i2
    · refine Or.inr ⟨h2, ?_⟩
      rw [e 180 (by unfold SoL; omega)]
      refine ⟨h3.fr hf (fun d hd => by have := hL d hd; unfold SoL at this; unfold Yp; omega) h6.1, h4.fr hf (fun d hd => by have := hL d hd; unfold SoL at this; omega), ?_, h6, h7⟩
      unfold CRbook at h5 ⊢
      rw [e 86 (by unfold SoL; omega)]
      exact h5
  · unfold RlT
    rw [e 95 (by unfold SoL; omega), e 96 (by unfold SoL; omega), e 186 (by unfold SoL; omega), e8]
    exact ⟨t1, t2, t3⟩
/-- the shape of the heap between two calls -/
def ShP (n tot kn : Nat) (kx : Nat → Nat × Nat) (len s : Nat) : Prop := (Gk n tot kn kx).2.2.1 kn = (100, len) ∧ (∃ e, e ≤ 8 ∧ len = 4 ^ e) ∧ 197 ≤ n ∧ n ≤ 197 + s ∧ tot ≤ 86045 + 2 * len
theorem ShP.up {n tot kn len s : Nat} {kx : Nat → Nat × Nat} (h : ShP n tot kn kx len s) : ShP n tot kn kx len (s + 1) := ⟨h.1, h.2.1, h.2.2.1, by have := h.2.2.2.1; omega, h.2.2.2.2⟩
theorem ShP.len {n tot kn len s : Nat} {kx : Nat → Nat × Nat} (h : ShP n tot kn kx len s) : len ≤ 65536 := by
  obtain ⟨e, h1, rfl⟩ := h.2.1
  exact show 4 ^ e ≤ 4 ^ 8 from Nat.pow_le_pow_right (by decide) h1
theorem ShP.new {n tot kn len s N : Nat} {kx : Nat → Nat × Nat} (h : ShP n tot kn kx len s) (hN : N ≤ 8) (hl : len < 4 ^ N) : ShP (n + 1) (tot + 4 ^ N) n (fun c => if c = n then (100, 4 ^ N) else kx c) (4 ^ N) (s + 1) := by
  obtain ⟨_, ⟨e, h1, rfl⟩, h2, h3, h4⟩ := h
  refine ⟨?_, ⟨N, hN, rfl⟩, by omega, by omega, ?_⟩
  · show (if n < 197 then kd0 n else if n = n then ((100, 4 ^ N) : Nat × Nat) else kx n) = (100, 4 ^ N)
    rw [if_neg (by omega), if_pos rfl]
  · have eN : e < N := by
      rcases Nat.lt_or_ge e N with hl2 | hl2
      · exact hl2
      · have : 4 ^ N ≤ 4 ^ e := Nat.pow_le_pow_right (by decide) hl2
        omega
    have : 4 ^ (e + 1) ≤ 4 ^ N := Nat.pow_le_pow_right (by decide) eN
    rw [Nat.pow_succ] at this
    omega
theorem c_prepare (hD : 6 ≤ D) {W : Nat → Int32} {len s : Nat} (hX : CX M 10 W) (hP : RlP kn len s M) (hG : ShP n tot kn kx len s) : ∃ n' tot' kn' kx' len' M', callw X D 231 [.inr (.inl 124), .inr (.inl 1), .inr (.inl 120)] (Gk n tot kn kx) M = some (0, Gk n' tot' kn' kx', M') ∧ ShP n' tot' kn' kx' len' (s + 1) ∧ 4 ^ q_n W 98 ≤ len' ∧ (kn' = 130 ∨ 197 ≤ kn') ∧ PlP W M' ∧ KnP W kn' len' (s + 1) M' ∧ Fr [121, 122, 124, 125, 126, 127, n] M M' := by
  obtain ⟨D', rfl⟩ : ∃ D', D = D' + 1 := ⟨D - 1, by omega⟩
  have w98 := hX.2.2.1.1.2.2.1
  have w2 := w98.2
  obtain ⟨p1, p2, p3⟩ := hP
  have hn := hG.2.2.1
  have e17 : M 17 0 = nI (q_n W 98) := by rw [hX.1.2.1.1]; exact w98.1
  have rest : ∀ (n' tot' kn' : Nat) (kx' : Nat → Nat × Nat) (len' : Nat) (M2 : MMw), callw X D' 228 [.inr (.inl 124), .inl (nI (q_n W 98))] (Gk n tot kn kx) M = some (0, Gk n' tot' kn' kx', M2) → ShP n' tot' kn' kx' len' (s + 1) → 4 ^ q_n W 98 ≤ len' → (kn' = 130 ∨ 197 ≤ kn') → Fr [n] M M2 → (∀ i, i < len' → ∃ v, M2 kn' i = nI v ∧ v < 32 * (s + 1)) →
      ∃ n' tot' kn' kx' len' M', callw X (D' + 1) 231 [.inr (.inl 124), .inr (.inl 1), .inr (.inl 120)] (Gk n tot kn kx) M = some (0, Gk n' tot' kn' kx', M') ∧ ShP n' tot' kn' kx' len' (s + 1) ∧ 4 ^ q_n W 98 ≤ len' ∧ (kn' = 130 ∨ 197 ≤ kn') ∧ PlP W M' ∧ KnP W kn' len' (s + 1) M' ∧ Fr [121, 122, 124, 125, 126, 127, n] M M' := by
    intro n' tot' kn' kx' len' M2 hc hG' hl hk f2 hcell
    have e124 : M2 124 = M 124 := f2 124 (by simp only [List.mem_cons, List.not_mem_nil, or_false]; omega)
    have f3 : Fr [124, n] M (up M2 124 6 (nI (s + 1))) := (f2.mono (by simp)).up (by simp)
    have hX3 : CX (up M2 124 6 (nI (s + 1))) 10 W := hX.fr f3 (fun d hd => by
      simp only [List.mem_cons, List.not_mem_nil, or_false] at hd
      unfold Yp; omega)
    have hw : Wq X (callw X D') 231 (Gk n' tot' kn' kx') (fun x M' => x = 0 ∧ PlP W M' ∧ Fr [121, 122, 125, 126, 127] (up M2 124 6 (nI (s + 1))) M') (t_231_p124_p1_p120_0 X (callw X D') n tot kn kx M) := by
      unfold t_231_p124_p1_p120_0
      rw [e17, hc, bnd_some, Wq_jmp]
      refine Lq.of (t_231_p124_p1_p120_11_ok X (callw X D') n' tot' kn' kx' M2) ?_
      unfold t_231_p124_p1_p120_11
      rw [Wq_jmp, e124, p2, o_nI, o_nI, nI_add]
      exact c_prep23 (by omega) hX3
    obtain ⟨x, M', h1, rfl, h2, h3⟩ := callG (as := [.inr (.inl 124), .inr (.inl 1), .inr (.inl 120)]) (t_231_p124_p1_p120_0_ok X (callw X D') n tot kn kx M) hw
    refine ⟨n', tot', kn', kx', len', M', h1, hG', hl, hk, h2, ⟨?_, fun i hi => ?_⟩, ?_⟩
    · rw [h3 124 (by decide), up_at, upW_s]
    · rw [h3 kn' (by simp only [List.mem_cons, List.not_mem_nil, or_false]; omega), up_ne (by omega)]
      obtain ⟨v, v1, v2⟩ := hcell i hi
      exact ⟨v, v1, by omega, fun hv => by omega⟩
    · exact (f3.mono (by simp)).tr (h3.mono (by simp))
  have hlen := hG.len
  rcases c_makeRoom (X := X) (D := D') (M := M) (by omega) (show q_n W 98 ≤ 8 by omega) hn hG.1 (by omega) with ⟨h1, h2⟩ | ⟨h1, h2⟩
  · exact rest n tot kn kx len M h2 hG.up h1 p1 Fr.rf p3
  · refine rest _ _ _ _ _ _ h2 (hG.new (by omega) h1) (Nat.le_refl _) (Or.inr hn) (fun c hc => ?_) (fun i _ => ⟨0, ?_, by omega⟩)
    · funext k
      simp only [List.mem_cons, List.not_mem_nil, or_false] at hc
      exact if_neg hc
    · exact if_pos rfl
theorem q_rd_at {W : Nat → Int32} {i : Nat} : q_rd W (fun i => q_n W (8 + i)) i = q_n W (143 + 3 * i) - q_n W (8 + i) := rfl
/-- all kinds of works that are not done are in hands -/
theorem q_able0 {W : Nat → Int32} (hy : q_invY W) (hm : q_invM W) (h : q_le (q_kl W (q_n W 98)) (q_kh W 8)) : q_able W (q_rd W (fun i => q_n W (8 + i))) := by
  have w96 := hy.1.1.2
  have w97 := hy.1.2.1.2
  have w98 := hy.1.2.2.1.2
  refine ⟨fun i hi => by have := (hy.2.2.2.2.2.1 i hi).2.1.2; unfold q_rd q_Tk; omega, fun j hj h0 l hl => ?_, fun i hi hne => ?_⟩
  · have lj := q_pre_lt hy j l hj hl
    obtain ⟨d1, d2, d3⟩ := hm.2.2.2.2 j hj
    have k1 := (hy.2.2.2.2.2.1 j hj).2.1.1
    rw [q_rd_at] at h0
    have he : W (8 + j) = W (143 + 3 * j) := by rw [d1.1, k1, show q_n W (8 + j) = q_n W (143 + 3 * j) by omega]
    have := d3 he l lj hl
    rw [q_rd_at]
    have e2 : q_n W (8 + l) = q_n W (143 + 3 * l) := by unfold q_n; rw [this]
    omega
  · have hd : q_doneB W i = false := by
      refine decide_eq_false (fun he => hne ?_)
      rw [q_rd_at]
      have e2 : q_n W (8 + i) = q_n W (143 + 3 * i) := by unfold q_n; rw [he]
      omega
    have h1 := h _ (q_kl_tb.mpr ⟨i, hi, hd, rfl⟩)
    obtain ⟨t, t1, t2, t3⟩ := q_kh_tb.mp h1
    unfold q_th2 at t2
    rw [sto_tb, Bool.and_eq_true, decide_eq_true_eq] at t2
    exact (q_one_ok (by omega) (by omega) (by omega) hi (fun i hi => (hy.2.2.2.2.2.1 i hi).1.2)).mpr ⟨t, t2.1, t3, t2.2⟩
theorem q_not0 {W : Nat → Int32} (hy : q_invY W) (hm : q_invM W) (h : ¬ q_le (q_kl W (q_n W 98)) (q_kh W 8)) : ∀ k, ¬ q_fW W k (q_rd W (fun i => q_n W (8 + i))) := by
  have w96 := hy.1.1.2
  have w97 := hy.1.2.1.2
  have w98 := hy.1.2.2.1.2
  intro k hk
  refine h (fun j hj => ?_)
  obtain ⟨i, hi, hd, rfl⟩ := q_kl_tb.mp hj
  have hok : q_okS (q_wks W) (q_cpl W) (2 ^ i) := Classical.byContradiction (fun hb => q_fin_no hi hb (r := q_rd W (fun i => q_n W (8 + i))) (fun h0 => by
    obtain ⟨d1, d2, _⟩ := hm.2.2.2.2 i hi
    have k1 := (hy.2.2.2.2.2.1 i hi).2.1.1
    rw [q_rd_at] at h0
    have he : W (8 + i) = W (143 + 3 * i) := by rw [d1.1, k1, show q_n W (8 + i) = q_n W (143 + 3 * i) by omega]
    have := of_decide_eq_false hd
    exact this he) hk)
  obtain ⟨t, t1, t2, t3⟩ := (q_one_ok (by omega) (by omega) (by omega) hi (fun i hi => (hy.2.2.2.2.2.1 i hi).1.2)).mp hok
  exact q_kh_tb.mpr ⟨t, by omega, by unfold q_th2; rw [sto_tb, decide_eq_true t1, t3]; rfl, t2⟩
theorem P_soonest (hD : 70 ≤ D) {v : Int32} {len s : Nat} (hs : s < 900000) (h : Rl kn len s M) (hG : ShP n tot kn kx len s) : ∃ n' tot' kn' kx' len' s' x M1 M2, callw X D 244 [.inr (.inl 0), .inl v] (Gk n tot kn kx) M = some (x, Gk n' tot' kn' kx', M1) ∧ callw X D 256 [.inr (.inl 178), .inl v] (Gk n' tot' kn' kx') M1 = some (x, Gk n' tot' kn' kx', M2) ∧ Rl kn' len' s' M2 ∧ ShP n' tot' kn' kx' len' s' ∧ s' ≤ s + 1 := by
  obtain ⟨D', rfl⟩ : ∃ D', D = D' + 1 := ⟨D - 1, by omega⟩
  have hX := h.1.1
  have hl := hX.1.2.2.2.1.2.2
  have hy := hX.2.2.1
  have hm := hX.2.2.2
  have w98 := hy.1.2.2.1.2
  have kl31 : q_kl (M 179) (q_n (M 179) 98) < 2 ^ 31 := Nat.lt_trans (q_kl_lt (W := M 179) (n := q_n (M 179) 98) (fun i hi => (hy.2.2.2.2.2.1 i hi).1.2)) (by decide)
  by_cases ok : q_in v 0 1 = true
  · obtain ⟨j, -, hj, rfl⟩ := q_in_t (by decide) (by decide) ok
    by_cases hk : q_le (q_kl (M 179) (q_n (M 179) 98)) (q_kh (M 179) 8)
    · have hcan := q_able0 hy hm hk
      have key : ∃ n' tot' kn' kx' len' x M1, callw X (D' + 1) 244 [.inr (.inl 0), .inl (nI j)] (Gk n tot kn kx) M = some (x, Gk n' tot' kn' kx', M1) ∧ ShP n' tot' kn' kx' len' (s + 1) ∧ (kn' = 130 ∨ 197 ≤ kn') ∧ SoP (M 179) (q_rd (M 179) (fun i => q_n (M 179) (8 + i))) j x ∧ KnP (M 179) kn' len' (s + 1) M1 ∧ Fr [121, 122, 124, 125, 126, 127, 128, 129, n, kn'] M M1 := by
        obtain ⟨z, Ma, ha, rfl, fa⟩ := c_kindsIn (n := n) (tot := tot) (kn := kn) (kx := kx) (X := X) (D := D') (by omega) hX
        have hXa := hX.fr fa (by decide)
        have hPa : RlP kn len s Ma := by
          obtain ⟨p1, p2, p3⟩ := h.2.2.2.2
          refine ⟨p1, by rw [fa 124 (by decide)]; exact p2, ?_⟩
          rw [fa kn (by simp only [List.mem_cons, List.not_mem_nil, or_false]; omega)]
          exact p3
        obtain ⟨n', tot', kn', kx', len', Mb, hb, hG', hl', hkn', hp', hkn2, fb⟩ := c_prepare (X := X) (D := D') (by omega) hXa hPa hG
        have fab : Fr [121, 122, 124, 125, 126, 127, n] M Mb := (fa.mono (by simp)).tr fb
        have hn := hG.2.2.1
        have hXb : CX Mb 10 (M 179) := hX.fr fab (fun d hd => by
          simp only [List.mem_cons, List.not_mem_nil, or_false] at hd
          unfold Yp; omega)
        have hSb : SrP (M 179) kn' len' (s + 1) Mb := ⟨hXb.1.2.1, hp', hkn2⟩
        have hlen := hG'.len
        have ef : callw X D' 232 [.inr (.inl 124), .inr (.inl 1)] (Gk n' tot' kn' kx') Mb = some (nI (q_en (q_rd (M 179) (fun i => q_n (M 179) (8 + i))) (q_n (M 179) 98)), Gk n' tot' kn' kx', Mb) := c_unfinished (by omega) hXb
        have hw : Wq X (callw X D') 244 (Gk n' tot' kn' kx') (fun x M1 => SoP (M 179) (q_rd (M 179) (fun i => q_n (M 179) (8 + i))) j x ∧ KnP (M 179) kn' len' (s + 1) M1 ∧ Fr [128, 129, kn'] Mb M1) (t_244_0 X (callw X D') n tot kn kx (nI j) M) := by
          unfold t_244_0
          simp only [o_nI, z_nI]
          rw [c_in (by omega), bnd_some, ok, if_neg (by decide), c_kindsLeft10 (by omega) hX, bnd_some, ha, bnd_some, if_pos (by rw [q_not_in kl31]; exact hk), hb, bnd_some, Wq_jmp]
          refine Lq.of (t_244_63_ok X (callw X D') n' tot' kn' kx' _ Mb) ?_
          unfold t_244_63
          simp only [z_nI]
          rw [ef, bnd_some]
          by_cases hj0 : j = 0
          · rw [if_pos (by rw [hj0])]
            refine Wq.call (Q1 := fun x M1 => (∃ d, x = nI d ∧ q_dW (M 179) (q_rd (M 179) (fun i => q_n (M 179) (8 + i))) d) ∧ KnP (M 179) kn' len' (s + 1) M1 ∧ Fr [128, 129, kn'] Mb M1) ?_ ?_
            · refine Sq.mk (k := 60) (by omega) (fun D2 hD2 => ?_)
              refine Lq.of (t_242_p124_p17_0_ok X (callw X D2) n' tot' kn' kx' _ Mb) ?_
              unfold t_242_p124_p17_0
              refine Wq.call (c_fewest hkn' hG'.1 hy hl' (by omega) (by omega) 24 D2 0 _ Mb (by omega) (q_sum_24 (by omega) hcan.1) (by have := q_sum_24 (show q_n (M 179) 98 ≤ 8 by omega) hcan.1; omega) hcan hSb) ?_
              rintro x M1 hq
              rw [Wq_ret]
              exact hq
            · rintro x M1 ⟨⟨d, rfl, hd⟩, hk1, f1⟩
              rw [Wq_ret]
              exact ⟨Or.inr ⟨d, Nat.le_trans (q_ds_sum (by omega) hd) (q_sum_24 (by omega) hcan.1), hd, fun _ => rfl, fun hh => absurd hj0 hh⟩, hk1, f1⟩
          · rw [if_neg (by rw [eq_i (by omega) (by omega)]; exact hj0)]
            refine Wq.call (c_firstSet (by omega) hkn' hG'.1 hy hl' (by omega) (by omega) hcan hSb) ?_
            rintro x M1 ⟨⟨d, d1, d2, d3, d4⟩, hk1, f1⟩
            rw [Wq_ret]
            exact ⟨Or.inr ⟨d, d1, d2, fun hh => absurd hh hj0, fun _ => ⟨d3, d4⟩⟩, hk1, f1⟩
        obtain ⟨x, M1, h1, h2, h3, h4⟩ := callG (as := [.inr (.inl 0), .inl (nI j)]) (t_244_0_ok X (callw X D') n tot kn kx _ M) hw
        exact ⟨n', tot', kn', kx', len', x, M1, h1, hG', hkn', h2, h3, (fab.mono (by simp)).tr (h4.mono (by simp))⟩
      obtain ⟨n', tot', kn', kx', len', x, M1, h1, hG', hkn', h2, h3, f1⟩ := key
      have hn := hG.2.2.1
      have inL : ∀ d, d ∈ [121, 122, 124, 125, 126, 127, 128, 129, n, kn'] → SoL d := fun d hd => by
        simp only [List.mem_cons, List.not_mem_nil, or_false] at hd
        unfold SoL; omega
      have e9 : M1 179 = M 179 := f1 179 (fun hd => by have := inL _ hd; unfold SoL at this; omega)
      have hlow : q_law (M 179) 0 (M 36) := hl
      obtain ⟨y, M2, h5, h6, f2⟩ := m_soonest (X := X) (n := n') (tot := tot') (kn := kn') (kx := kx') (C := M 36) (D := D' + 1) (show j < 2 by omega) (by omega) e9 hlow hy hm
      have exy : y = x := h6.uq h2
      subst exy
      refine ⟨n', tot', kn', kx', len', s + 1, y, M1, M2, h1, h5, h.so (L := [121, 122, 124, 125, 126, 127, 128, 129, n, kn', 187, 188, 189, 190, 191, 192]) ((f1.mono (by simp)).tr (f2.mono (by simp))) (fun d hd => by
        simp only [List.mem_cons, List.not_mem_nil, or_false] at hd
        unfold SoL; omega) ⟨hkn', ?_, ?_⟩, hG', Nat.le_refl _⟩
      · rw [f2 124 (by decide)]; exact h3.1
      · rw [f2 kn' (by simp only [List.mem_cons, List.not_mem_nil, or_false]; omega)]
        intro i hi
        obtain ⟨v, v1, v2, _⟩ := h3.2 i hi
        exact ⟨v, v1, v2⟩
    · have hno := q_not0 hy hm hk
      have hc : Sq X (D' + 1) 244 [.inr (.inl 0), .inl (nI j)] (Gk n tot kn kx) M (fun x M1 => x = -1 ∧ Fr [121, 122] M M1) := by
        refine Sq.of ?_
        refine Lq.of (t_244_0_ok X (callw X D') n tot kn kx _ M) ?_
        unfold t_244_0
        simp only [o_nI, z_nI]
        rw [c_in (by omega), bnd_some, ok, if_neg (by decide), c_kindsLeft10 (by omega) hX, bnd_some]
        refine Wq.call (c_kindsIn (by omega) hX) ?_
        rintro z Ma ⟨rfl, fa⟩
        rw [if_neg (by rw [q_not_in kl31]; exact hk), Wq_ret, m1n]
        exact ⟨rfl, fa⟩
      obtain ⟨x, M1, h1, rfl, f1⟩ := hc
      have e9 : M1 179 = M 179 := f1 179 (by decide)
      have hlow : q_law (M 179) 0 (M 36) := hl
      obtain ⟨y, M2, h5, h6, f2⟩ := m_soonest (X := X) (n := n) (tot := tot) (kn := kn) (kx := kx) (C := M 36) (D := D' + 1) (show j < 2 by omega) (by omega) e9 hlow hy hm
      have exy : y = -1 := h6.uq (Or.inl ⟨rfl, hno⟩)
      subst exy
      exact ⟨n, tot, kn, kx, len, s, _, M1, M2, h1, h5, h.ask (L := [121, 122, 187, 188, 189, 190, 191, 192]) ((f1.mono (by decide)).tr (f2.mono (by decide))) (by decide), hG, by omega⟩
  · have ok := Bool.eq_false_iff.mpr ok
    have h1 : callw X (D' + 1) 244 [.inr (.inl 0), .inl v] (Gk n tot kn kx) M = some (-1, Gk n tot kn kx, M) := Sq.eq (Sq.of (by
      refine Lq.of (t_244_0_ok X (callw X D') n tot kn kx _ M) ?_
      unfold t_244_0
      simp only [o_nI, z_nI]
      rw [c_in (by omega), bnd_some, ok, if_pos (by rfl), Wq_ret, m1n]
      exact ⟨rfl, rfl⟩))
    have h2 : callw X (D' + 1) 256 [.inr (.inl 178), .inl v] (Gk n tot kn kx) M = some (-1, Gk n tot kn kx, M) := Sq.eq (Sq.of (by
      refine Lq.of (t_256_0_ok X (callw X D') n tot kn kx _ M) ?_
      unfold t_256_0
      simp only [o_nI, z_nI]
      rw [m_in (by omega), bnd_some, ok, if_pos (by rfl), Wq_ret, m1n]
      exact ⟨rfl, rfl⟩))
    exact ⟨n, tot, kn, kx, len, s, _, M, M, h1, h2, h, hG, by omega⟩
end
