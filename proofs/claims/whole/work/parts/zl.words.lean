section
-- needs: next0
/-! what both readers do with a token -/
variable {X : KXw} {n tot kn D : Nat} {kx : Nat → Nat × Nat} {M : MMw}
/-- the text -/
def TxP (tp : Nat → Nat) (L ct : Nat) : Prop := L ≤ 400 ∧ (∀ i, i < L → tp i < 256) ∧ ct ≤ 400 ∧ k_pl tp L ct = L ∧ ∀ k, k < ct → k_pl tp L k < L
/-- the class stands at token k, and no fault was found -/
def ClT (tp : Nat → Nat) (L ct : Nat) (M : MMw) (k : Nat) : Prop := (M 95 7 = nI k ∧ M 95 2 = nI 0 ∧ M 95 3 = -1) ∧ M 95 8 = nI (k_tk tp L k) ∧ TkC tp L ct M
theorem tx_tk {tp : Nat → Nat} {L ct k : Nat} (h : TxP tp L ct) : k_tk tp L k < 126 := (k_tok_b h.2.1).1
theorem tx_lt {tp : Nat → Nat} {L ct k : Nat} (h : TxP tp L ct) (hk : k ≤ ct) (h0 : k_tk tp L k ≠ 0) : k < ct := by
  by_cases e : k = ct
  · subst e
    exact absurd ((k_tk_n h.2.1).mpr h.2.2.2.1) h0
  · omega
theorem tx_end {tp : Nat → Nat} {L ct : Nat} (h : TxP tp L ct) : k_tk tp L ct = 0 := (k_tk_n h.2.1).mpr h.2.2.2.1
theorem tx_ne {tp : Nat → Nat} {L ct k : Nat} (h : TxP tp L ct) (hk : k < ct) : k_tk tp L k ≠ 0 := fun e => by
  have h1 := (k_tk_n h.2.1).mp e
  have h2 := h.2.2.2.2 k hk
  omega
/-- of the reader's cells only these change -/
def F9 (fs : List Nat) (M M' : MMw) : Prop := Fr [95] M M' ∧ ∀ k, k ∉ fs → M' 95 k = M 95 k
theorem F9.rf {fs : List Nat} {M : MMw} : F9 fs M M := ⟨Fr.rf, fun _ _ => rfl⟩
theorem F9.tr {fs : List Nat} {M M1 M2 : MMw} (h : F9 fs M M1) (g : F9 fs M1 M2) : F9 fs M M2 := ⟨h.1.tr g.1, fun k hk => (g.2 k hk).trans (h.2 k hk)⟩
theorem F9.up {fs : List Nat} {M M' : MMw} {k : Nat} {v : Int32} (h : F9 fs M M') (hk : k ∈ fs) : F9 fs M (up M' 95 k v) := ⟨h.1.up (by decide), fun j hj => by
  rw [up_at, upW_n (fun e => hj (by rw [e]; exact hk))]
  exact h.2 j hj⟩
theorem F9.mono {fs gs : List Nat} {M M' : MMw} (h : F9 fs M M') (hs : ∀ k, k ∈ fs → k ∈ gs) : F9 gs M M' := ⟨h.1, fun k hk => h.2 k (fun hh => hk (hs k hh))⟩
theorem TkC.fr {tp : Nat → Nat} {L ct : Nat} {M M' : MMw} (h : TkC tp L ct M) (e : ∀ c, c = 97 ∨ c = 98 ∨ c = 99 → M' c = M c) : TkC tp L ct M' := by
  obtain ⟨h1, h2, h3, h4, h5⟩ := h
  refine ⟨h1, h2, h3, fun k hk => ?_, fun k hk hk2 => ?_⟩
  · rw [e 97 (by omega), e 99 (by omega)]; exact h4 k hk
  · rw [e 98 (by omega)]; exact h5 k hk hk2
theorem c_adv (hD : 1 ≤ D) {tp : Nat → Nat} {L ct k : Nat} (hx : TxP tp L ct) (hk : k < ct) (h : ClT tp L ct M k) : Sq X D 125 [.inr (.inl 95)] (Gk n tot kn kx) M (fun _ M' => F9 [7, 8] M M' ∧ ClT tp L ct M' (k + 1)) :=
  Sq.mk (k := 0) hD (fun D' hD' => by
    obtain ⟨⟨h1, h12, h13⟩, h2, h3⟩ := h
    have hct := hx.2.2.1
    have hb := tx_tk (k := k) hx
    refine Lq.of (t_125_p95_0_ok X (callw X D') n tot kn kx M) ?_
    unfold t_125_p95_0
    simp only [o_nI, z_nI]
    rw [h1, if_pos (by rw [lt_i (by omega) (by omega)]; omega), if_neg (by rw [h2, eq_i (by omega) (by omega)]; exact tx_ne hx hk), nI_add, up_at, upW_s, inb_nI (show k + 1 < 401 by omega) (by decide), if_pos rfl, nI_clamp (by omega), (h3.2.2.2.1 (k + 1) (by omega)).1, Wq_ret]
    refine ⟨(F9.rf.up (by decide)).up (by decide), ⟨?_, ?_, ?_⟩, ?_, h3.fr (fun c hc => by rw [up_ne (by omega), up_ne (by omega)])⟩
    · rw [up_at, upW_n (by decide), up_at, upW_s]
    · rw [up_at, upW_n (by decide), up_at, upW_n (by decide)]; exact h12
    · rw [up_at, upW_n (by decide), up_at, upW_n (by decide)]; exact h13
    · rw [up_at, upW_s])
/-- a fault of kind a at token i -/
def FtC (tp : Nat → Nat) (L a i : Nat) (M : MMw) : Prop := M 95 2 = nI a ∧ M 95 3 = nI (k_pl tp L i)
theorem c_fail (hD : 1 ≤ D) {tp : Nat → Nat} {L ct k a : Nat} (hx : TxP tp L ct) (hk : k ≤ ct) (h : ClT tp L ct M k) : Sq X D 124 [.inr (.inl 95), .inl (nI a)] (Gk n tot kn kx) M (fun x M' => x = nI 0 ∧ F9 [2, 3] M M' ∧ FtC tp L a k M') :=
  Sq.mk (k := 0) hD (fun D' hD' => by
    obtain ⟨⟨h1, h12, h13⟩, h2, h3⟩ := h
    have hct := hx.2.2.1
    refine Lq.of (t_124_p95_0_ok X (callw X D') n tot kn kx _ M) ?_
    unfold t_124_p95_0
    rw [up_at, upW_n (by decide), h1, inb_nI (show k < 401 by omega) (by decide), if_pos rfl, nI_clamp (by omega), Wq_ret, (h3.2.2.2.1 k hk).2]
    refine ⟨rfl, (F9.rf.up (by decide)).up (by decide), ?_, ?_⟩
    · rw [up_at, upW_n (by decide), up_at, upW_s]
    · rw [up_at, upW_s])
theorem c_pass (hD : 2 ≤ D) {tp : Nat → Nat} {L ct k c : Nat} (hx : TxP tp L ct) (hk : k ≤ ct) (hc : c < 2 ^ 31) (hc0 : c ≠ 0) (h : ClT tp L ct M k) : Sq X D 130 [.inr (.inl 95), .inl (nI c)] (Gk n tot kn kx) M (fun x M' => (k_tk tp L k = c → x = nI 1 ∧ F9 [7, 8] M M' ∧ ClT tp L ct M' (k + 1)) ∧ (k_tk tp L k ≠ c → x = nI 0 ∧ F9 [2, 3] M M' ∧ FtC tp L 1 k M')) :=
  Sq.mk (k := 1) hD (fun D' hD' => by
    have hb := tx_tk (k := k) hx
    refine Lq.of (t_130_p95_0_ok X (callw X D') n tot kn kx _ M) ?_
    unfold t_130_p95_0
    rw [h.2.1]
    simp (disch := omega) only [lt_i, eq_i]
    by_cases e : k_tk tp L k = c
    · rw [if_pos e]
      refine Wq.call (c_adv hD' hx (tx_lt hx hk (by omega)) h) ?_
      rintro x M' ⟨g1, g2⟩
      rw [Wq_ret]
      exact ⟨fun _ => ⟨rfl, g1, g2⟩, fun hn => absurd e hn⟩
    · rw [if_neg e, o_nI]
      refine Wq.call (c_fail hD' hx hk h) ?_
      rintro x M' ⟨rfl, g1, g2⟩
      rw [if_pos (by decide +kernel), Wq_ret]
      exact ⟨fun hh => absurd hh e, fun _ => ⟨rfl, g1, g2⟩⟩)
/-- a number from lo to hi -/
def k_nb (tp : Nat → Nat) (L k : Nat) (lo hi : Int32) : Nat := if k_tk tp L k = 2 then (if nI (k_vl tp L k) < lo then 2 else if hi < nI (k_vl tp L k) then 2 else 0) else 1
theorem c_numb (hD : 2 ≤ D) {tp : Nat → Nat} {L ct k : Nat} {lo hi : Int32} (hx : TxP tp L ct) (hk : k ≤ ct) (h : ClT tp L ct M k) : Sq X D 128 [.inr (.inl 95), .inl lo, .inl hi] (Gk n tot kn kx) M (fun x M' => (k_nb tp L k lo hi = 0 → x = nI 1 ∧ F9 [7, 8, 9] M M' ∧ ClT tp L ct M' (k + 1) ∧ M' 95 9 = nI (k_vl tp L k)) ∧ (k_nb tp L k lo hi ≠ 0 → x = nI 0 ∧ F9 [2, 3, 9] M M' ∧ FtC tp L (k_nb tp L k lo hi) k M')) :=
  Sq.mk (k := 1) hD (fun D' hD' => by
    have hb := tx_tk (k := k) hx
    have hct := hx.2.2.1
    refine Lq.of (t_128_p95_0_ok X (callw X D') n tot kn kx _ _ M) ?_
    unfold t_128_p95_0
    simp only [o_nI]
    rw [h.2.1]
    simp (disch := omega) only [lt_i, eq_i]
    by_cases e : k_tk tp L k = 2
    · rw [if_pos e, h.1.1, inb_nI (show k < 401 by omega) (by decide), if_pos rfl, nI_clamp (by omega), h.2.2.2.2.2.2 k (tx_lt hx hk (by omega)) e, up_at, upW_s]
      have hC : ClT tp L ct (up M 95 9 (nI (k_vl tp L k))) k := ⟨by rw [up_at, upW_n (by decide), upW_n (by decide), upW_n (by decide)]; exact h.1, by rw [up_at, upW_n (by decide)]; exact h.2.1, h.2.2.fr (fun c hc => up_ne (by omega))⟩
      have f0 : F9 [9] M (up M 95 9 (nI (k_vl tp L k))) := F9.rf.up (by decide)
      by_cases h1 : nI (k_vl tp L k) < lo
      · rw [if_pos h1, show k_nb tp L k lo hi = 2 by unfold k_nb; rw [if_pos e, if_pos h1]]
        refine Wq.call (c_fail hD' hx hk hC) ?_
        rintro x M' ⟨rfl, g1, g2⟩
        rw [if_pos (by decide +kernel), Wq_ret]
        exact ⟨fun hh => (by cases hh), fun _ => ⟨rfl, (f0.mono (by decide)).tr (g1.mono (by decide)), g2⟩⟩
      · rw [if_neg h1]
        by_cases h2 : hi < nI (k_vl tp L k)
        · rw [if_pos h2, show k_nb tp L k lo hi = 2 by unfold k_nb; rw [if_pos e, if_neg h1, if_pos h2]]
          refine Wq.call (c_fail hD' hx hk hC) ?_
          rintro x M' ⟨rfl, g1, g2⟩
          rw [if_pos (by decide +kernel), Wq_ret]
          exact ⟨fun hh => (by cases hh), fun _ => ⟨rfl, (f0.mono (by decide)).tr (g1.mono (by decide)), g2⟩⟩
        · rw [if_neg h2, show k_nb tp L k lo hi = 0 by unfold k_nb; rw [if_pos e, if_neg h1, if_neg h2]]
          refine Wq.call (c_adv hD' hx (tx_lt hx hk (by omega)) hC) ?_
          rintro x M' ⟨g1, g2⟩
          rw [Wq_ret]
          exact ⟨fun _ => ⟨rfl, (f0.mono (by decide)).tr (g1.mono (by decide)), g2, by rw [g1.2 9 (by decide), up_at, upW_s]⟩, fun hh => absurd rfl hh⟩
    · rw [if_neg e, show k_nb tp L k lo hi = 1 by unfold k_nb; rw [if_neg e]]
      refine Wq.call (c_fail hD' hx hk h) ?_
      rintro x M' ⟨rfl, g1, g2⟩
      rw [if_pos (by decide +kernel), Wq_ret]
      exact ⟨fun hh => (by cases hh), fun _ => ⟨rfl, g1.mono (by decide), g2⟩⟩)
/-! the reference -/
theorem k_mt_lt : ∀ rd, rd < 4 → ∀ c, c < 126 → k_mt rd c < 300 := by decide +kernel
def FtM (tp : Nat → Nat) (L a i : Nat) (M : MMw) : Prop := M 178 21 = nI a ∧ M 178 22 = nI (k_pl tp L i)
theorem m_bad (hD : 1 ≤ D) {tp : Nat → Nat} {L rd k a : Nat} (h : MdT tp L rd M k) : Sq X D 157 [.inr (.inl 178), .inl (nI a)] (Gk n tot kn kx) M (fun x M' => x = nI 0 ∧ F8 [21, 22] M M' ∧ FtM tp L a k M') :=
  Sq.mk (k := 0) hD (fun D' hD' => by
    refine Lq.of (t_157_0_ok X (callw X D') n tot kn kx _ M) ?_
    unfold t_157_0
    rw [Wq_ret]
    refine ⟨rfl, (F8.rf.up (by decide)).up (by decide), ?_, ?_⟩
    · rw [up_at, upW_n (by decide), up_at, upW_s]
    · rw [up_at, upW_s, up_at, upW_n (by decide)]; exact h.2.2.2.2.1)
theorem m_need (hD : 10 ≤ D) {tp : Nat → Nat} {L ct rd k c : Nat} (hx : TxP tp L ct) (hrd : rd < 4) (hc : c < 2 ^ 31) (h : MdT tp L rd M k) : Sq X D 163 [.inr (.inl 178), .inl (nI c)] (Gk n tot kn kx) M (fun x M' => (k_mt rd (k_tk tp L k) = c → x = nI 1 ∧ F8 [17, 18, 19, 20] M M' ∧ MdT tp L rd M' (k + 1)) ∧ (k_mt rd (k_tk tp L k) ≠ c → x = nI 0 ∧ F8 [21, 22] M M' ∧ FtM tp L 1 k M')) :=
  Sq.mk (k := 9) hD (fun D' hD' => by
    have hb := tx_tk (k := k) hx
    have hm := k_mt_lt rd hrd _ hb
    refine Lq.of (t_163_0_ok X (callw X D') n tot kn kx _ M) ?_
    unfold t_163_0
    rw [h.2.2.2.1]
    simp (disch := omega) only [lt_i, eq_i]
    by_cases e : k_mt rd (k_tk tp L k) = c
    · rw [if_pos e]
      refine Wq.call (m_nextK hD' hx.1 hx.2.1 hrd h) ?_
      rintro x M' ⟨g1, g2⟩
      rw [Wq_ret]
      exact ⟨fun _ => ⟨rfl, g1, g2⟩, fun hn => absurd e hn⟩
    · rw [if_neg e, o_nI]
      refine Wq.call (m_bad (by omega) h) ?_
      rintro x M' ⟨rfl, g1, g2⟩
      rw [if_pos (by decide +kernel), Wq_ret]
      exact ⟨fun hh => absurd hh e, fun _ => ⟨rfl, g1, g2⟩⟩)
theorem k_mt_2 : ∀ rd, rd < 4 → ∀ c, c < 126 → (k_mt rd c = 2 ↔ c = 2) := by decide +kernel
theorem m_numb (hD : 10 ≤ D) {tp : Nat → Nat} {L ct rd k : Nat} {lo hi : Int32} (hx : TxP tp L ct) (hrd : rd < 4) (h : MdT tp L rd M k) : Sq X D 169 [.inr (.inl 178), .inl lo, .inl hi] (Gk n tot kn kx) M (fun x M' => (k_nb tp L k lo hi = 0 → x = nI 1 ∧ F8 [17, 18, 19, 20, 26] M M' ∧ MdT tp L rd M' (k + 1) ∧ M' 178 26 = nI (k_vl tp L k)) ∧ (k_nb tp L k lo hi ≠ 0 → x = nI 0 ∧ F8 [21, 22] M M' ∧ FtM tp L (k_nb tp L k lo hi) k M')) :=
  Sq.mk (k := 9) hD (fun D' hD' => by
    have hb := tx_tk (k := k) hx
    have hm := k_mt_lt rd hrd _ hb
    refine Lq.of (t_169_0_ok X (callw X D') n tot kn kx _ _ M) ?_
    unfold t_169_0
    simp only [o_nI, z_nI]
    rw [h.2.2.2.1]
    simp (disch := omega) only [lt_i, eq_i]
    by_cases e : k_tk tp L k = 2
    · have hv := h.2.2.2.2.2 e
      have hMu : ∀ v, MdT tp L rd (up M 178 26 v) k := fun v => by
        obtain ⟨a1, a2, a3, a4, a5, a6⟩ := h
        refine ⟨a1.f8 (F8.rf.up (fs := [26]) (by decide)) (by decide), ?_, ?_, ?_, ?_, fun hh => ?_⟩
        all_goals rw [up_at, upW_n (by decide)]
        · exact a2
        · exact a3
        · exact a4
        · exact a5
        · exact a6 hh
      rw [if_pos ((k_mt_2 rd hrd _ hb).mpr e), hv, m_isIn (by omega), bnd_some]
      by_cases h1 : nI (k_vl tp L k) < lo
      · rw [if_pos h1, if_pos rfl, show k_nb tp L k lo hi = 2 by unfold k_nb; rw [if_pos e, if_pos h1]]
        refine Wq.call (m_bad (by omega) h) ?_
        rintro x M' ⟨rfl, g1, g2⟩
        rw [if_pos (by decide +kernel), Wq_ret]
        exact ⟨fun hh => (by cases hh), fun _ => ⟨rfl, g1, g2⟩⟩
      · rw [if_neg h1]
        by_cases h2 : hi < nI (k_vl tp L k)
        · rw [if_pos h2, if_pos rfl, show k_nb tp L k lo hi = 2 by unfold k_nb; rw [if_pos e, if_neg h1, if_pos h2]]
          refine Wq.call (m_bad (by omega) h) ?_
          rintro x M' ⟨rfl, g1, g2⟩
          rw [if_pos (by decide +kernel), Wq_ret]
          exact ⟨fun hh => (by cases hh), fun _ => ⟨rfl, g1, g2⟩⟩
        · rw [if_neg h2, if_neg (by decide +kernel), show k_nb tp L k lo hi = 0 by unfold k_nb; rw [if_pos e, if_neg h1, if_neg h2]]
          refine Wq.call (m_nextK hD' hx.1 hx.2.1 hrd (hMu _)) ?_
          rintro x M' ⟨g1, g2⟩
          rw [Wq_ret]
          exact ⟨fun _ => ⟨rfl, (F8.rf.up (by decide)).tr (g1.mono (by decide)), g2, by rw [g1.2 26 (by decide), up_at, upW_s]; exact hv⟩, fun hh => absurd rfl hh⟩
    · rw [if_neg (fun hh => e ((k_mt_2 rd hrd _ hb).mp hh)), show k_nb tp L k lo hi = 1 by unfold k_nb; rw [if_neg e]]
      refine Wq.call (m_bad (by omega) h) ?_
      rintro x M' ⟨rfl, g1, g2⟩
      rw [if_pos (by decide +kernel), Wq_ret]
      exact ⟨fun hh => (by cases hh), fun _ => ⟨rfl, g1, g2⟩⟩)
end
