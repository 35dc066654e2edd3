section
-- needs: law2
/-! a hull on both sides -/
variable {X : KXw} {n tot kn D : Nat} {kx : Nat → Nat × Nat} {M : MMw}
abbrev WkT : Type := Nat × Nat × Nat
def HlC (M : MMw) (ws : List WkT) : Prop := M 106 0 = nI ws.length ∧ ∀ (j : Nat) (q : WkT), ws[j]? = some q → M 107 j = nI q.1 ∧ M 108 j = nI q.2.1 ∧ M 109 j = nI q.2.2
def HlM (M : MMw) (ws : List WkT) : Prop := M 178 15 = nI ws.length ∧ ∀ (j : Nat) (q : WkT), ws[j]? = some q → M 185 (3 * j) = nI q.1 ∧ M 185 (3 * j + 1) = nI q.2.1 ∧ M 185 (3 * j + 2) = nI q.2.2
def CHr (M M' : MMw) : Prop := Fr [95, 106, 107, 108, 109] M M' ∧ ∀ f, f ∉ [2, 3, 7, 8, 9] → M' 95 f = M 95 f
theorem CHr.rf {M : MMw} : CHr M M := ⟨Fr.rf, fun _ _ => rfl⟩
theorem CHr.tr {M M1 M2 : MMw} (h : CHr M M1) (g : CHr M1 M2) : CHr M M2 := ⟨h.1.tr g.1, fun f hf => (g.2 f hf).trans (h.2 f hf)⟩
theorem CHr.of {fs : List Nat} {M M' : MMw} (h : F9 fs M M') (hs : ∀ k, k ∈ fs → k ∈ [2, 3, 7, 8, 9]) : CHr M M' := ⟨h.1.mono (by decide), fun f hf => h.2 f (fun hh => hf (hs f hh))⟩
theorem chr_up {M M' : MMw} {c k : Nat} {v : Int32} (h : CHr M M') (hc : c = 106 ∨ c = 107 ∨ c = 108 ∨ c = 109) : CHr M (up M' c k v) := by
  refine ⟨h.1.up ?_, fun f hf => by rw [up_ne (by omega)]; exact h.2 f hf⟩
  rcases hc with rfl | rfl | rfl | rfl <;> decide
def MHr (M M' : MMw) : Prop := Fr [178, 185] M M' ∧ ∀ f, f ∉ [15, 17, 18, 19, 20, 21, 22, 26] → M' 178 f = M 178 f
theorem MHr.rf {M : MMw} : MHr M M := ⟨Fr.rf, fun _ _ => rfl⟩
theorem MHr.tr {M M1 M2 : MMw} (h : MHr M M1) (g : MHr M1 M2) : MHr M M2 := ⟨h.1.tr g.1, fun f hf => (g.2 f hf).trans (h.2 f hf)⟩
theorem MHr.of {fs : List Nat} {M M' : MMw} (h : F8 fs M M') (hs : ∀ k, k ∈ fs → k ∈ [15, 17, 18, 19, 20, 21, 22, 26]) : MHr M M' := ⟨h.1.mono (by decide), fun f hf => h.2 f (fun hh => hf (hs f hh))⟩
theorem mhr_up {M M' : MMw} {k : Nat} {v : Int32} (h : MHr M M') : MHr M (up M' 185 k v) := ⟨h.1.up (by decide), fun f hf => by rw [up_ne (by decide)]; exact h.2 f hf⟩
theorem mhr_15 {M M' : MMw} {v : Int32} (h : MHr M M') : MHr M (up M' 178 15 v) := ⟨h.1.up (by decide), fun f hf => by rw [up_at, upW_n (fun e => hf (by rw [e]; decide))]; exact h.2 f hf⟩
theorem mdt_15 {tp : Nat → Nat} {L rd k : Nat} {v : Int32} (h : MdT tp L rd M k) : MdT tp L rd (up M 178 15 v) k := by
  obtain ⟨a1, a2, a3, a4, a5, a6⟩ := h
  refine ⟨a1.f8 (F8.rf.up (fs := [15]) (by decide)) (by decide), ?_, ?_, ?_, ?_, fun hh => ?_⟩
  all_goals rw [up_at, upW_n (by decide)]
  · exact a2
  · exact a3
  · exact a4
  · exact a5
  · exact a6 hh
theorem k_nb_t {tp : Nat → Nat} {L k lo hi : Nat} (ht : ∀ i, i < L → tp i < 256) (hlo : lo < 2 ^ 31) (hhi : hi < 2 ^ 31) (h : k_nb tp L k (nI lo) (nI hi) = 0) : k_tk tp L k = 2 ∧ lo ≤ k_vl tp L k ∧ k_vl tp L k ≤ hi := by
  unfold k_nb at h
  by_cases h2 : k_tk tp L k = 2
  · have hv := (k_vl_ok ht h2).2.2.2.2.2
    rw [if_pos h2] at h
    by_cases a : nI (k_vl tp L k) < nI lo
    · rw [if_pos a] at h; cases h
    · rw [if_neg a] at h
      by_cases b : nI hi < nI (k_vl tp L k)
      · rw [if_pos b] at h; cases h
      · rw [lt_i (by omega) hlo] at a
        rw [lt_i hhi (by omega)] at b
        exact ⟨h2, by omega, by omega⟩
  · rw [if_neg h2] at h; cases h
theorem k_nb_s {tp : Nat → Nat} {L k b : Nat} (ht : ∀ i, i < L → tp i < 256) (hb : b < 2 ^ 31) (h : k_nb tp L k (nI 0) (nI b - nI 1) = 0) : k_tk tp L k = 2 ∧ k_vl tp L k < b := by
  cases b with
  | zero =>
    unfold k_nb at h
    by_cases h2 : k_tk tp L k = 2
    · have hv := (k_vl_ok ht h2).2.2.2.2.2
      rw [if_pos h2] at h
      by_cases a : nI (k_vl tp L k) < nI 0
      · rw [if_pos a] at h; cases h
      · rw [if_neg a, if_pos (by rw [show nI 0 - nI 1 = (-1 : Int32) by decide +kernel, m1_lt (by omega)]; trivial)] at h
        cases h
    · rw [if_neg h2] at h; cases h
  | succ b =>
    rw [nI_sub (by omega), Nat.add_sub_cancel] at h
    obtain ⟨h1, _, h3⟩ := k_nb_t ht (by decide) (by omega) h
    exact ⟨h1, by omega⟩
theorem k_tR2 : ∀ c, c < 126 → (k_mt 2 c = 7 ↔ c = 119) ∧ (k_mt 2 c = 8 ↔ c = 120) ∧ (k_mt 2 c = 9 ↔ c = 121) ∧ (k_mt 2 c = 159 ↔ c = 59) ∧ (k_mt 2 c = 0 ↔ c = 0) := by decide +kernel
/-- the loop over after -/
def CaQ (tp : Nat → Nat) (L ct : Nat) (M : MMw) (one : Nat) (r : (Nat × Nat) ⊕ (Nat × Nat)) (x : Int32) (M' : MMw) : Prop := match r with
  | .inl (a, i) => x = nI 0 ∧ CHr M M' ∧ FtC tp L a i M'
  | .inr (k', m) => x = nI 1 ∧ CHr M M' ∧ ClT tp L ct M' k' ∧ M' 106 0 = nI (one + 1) ∧ M' 109 one = nI m ∧ (∀ j, j ≠ one → M' 109 j = M 109 j) ∧ M' 107 = M 107 ∧ M' 108 = M 108
def MaQ (tp : Nat → Nat) (L : Nat) (M : MMw) (one : Nat) (r : (Nat × Nat) ⊕ (Nat × Nat)) (x : Int32) (M' : MMw) : Prop := match r with
  | .inl (a, i) => x = nI 0 ∧ MHr M M' ∧ FtM tp L a i M'
  | .inr (k', m) => x = nI 1 ∧ MHr M M' ∧ MdT tp L 2 M' k' ∧ M' 178 15 = M 178 15 ∧ M' 185 (3 * one + 2) = nI m ∧ ∀ j, j ≠ 3 * one + 2 → M' 185 j = M 185 j
theorem J_after {tp : Nat → Nat} {L ct one : Nat} (hx : TxP tp L ct) (h1 : one < 8) : ∀ (c k cur : Nat), ct ≤ k + c → k ≤ ct → cur < 2 ^ one → ∃ r : (Nat × Nat) ⊕ (Nat × Nat),
    (∀ (D it : Nat) (M : MMw), 3 ≤ D → ClT tp L ct M k → it < k → M 106 0 = nI one → M 109 one = nI cur → Lq X (callw X D) 136 108 [some (.inr (.inl 95)), some (.inl (nI one)), some (.inl (nI it))] (Gk n tot kn kx) M (CaQ tp L ct M one r)) ∧
    (∀ (D : Nat) (M : MMw), 11 ≤ D → MdT tp L 2 M k → M 178 15 = nI one → M 185 (3 * one + 2) = nI cur → Lq X (callw X D) 171 46 [some (.inr (.inl 178)), some (.inl (nI (3 * one)))] (Gk n tot kn kx) M (MaQ tp L M one r)) ∧
    match r with | .inl _ => True | .inr (k', m) => k < k' ∧ k' ≤ ct ∧ m < 2 ^ one := by
  have hct := hx.2.2.1
  have ht := hx.2.1
  have p1 : 2 ^ one ≤ 2 ^ 8 := Nat.pow_le_pow_right (by decide) (by omega)
  have stop : ∀ (k cur : Nat), k ≤ ct → cur < 2 ^ one → k_tk tp L k ≠ 121 → ∃ r : (Nat × Nat) ⊕ (Nat × Nat),
    (∀ (D it : Nat) (M : MMw), 3 ≤ D → ClT tp L ct M k → it < k → M 106 0 = nI one → M 109 one = nI cur → Lq X (callw X D) 136 108 [some (.inr (.inl 95)), some (.inl (nI one)), some (.inl (nI it))] (Gk n tot kn kx) M (CaQ tp L ct M one r)) ∧
    (∀ (D : Nat) (M : MMw), 11 ≤ D → MdT tp L 2 M k → M 178 15 = nI one → M 185 (3 * one + 2) = nI cur → Lq X (callw X D) 171 46 [some (.inr (.inl 178)), some (.inl (nI (3 * one)))] (Gk n tot kn kx) M (MaQ tp L M one r)) ∧
    match r with | .inl _ => True | .inr (k', m) => k < k' ∧ k' ≤ ct ∧ m < 2 ^ one := fun k cur hk hcur t121 => by
    have hb := tx_tk (k := k) hx
    have hmt := k_mt_lt 2 (by decide) _ hb
    obtain ⟨_, _, m121, m59, _⟩ := k_tR2 _ hb
    obtain ⟨r, hr1, hr2⟩ : ∃ r : (Nat × Nat) ⊕ (Nat × Nat), (k_tk tp L k = 59 → r = .inr (k + 1, cur)) ∧ (¬ k_tk tp L k = 59 → r = .inl (1, k)) := ⟨if k_tk tp L k = 59 then .inr (k + 1, cur) else .inl (1, k), fun h => if_pos h, fun h => if_neg h⟩
    refine ⟨r, fun D it M hD hC hit h0 h9 => ?_, fun D M hD hM h15 h85 => ?_, ?_⟩
    · refine Lq.of (t_136_p95_108_ok X (callw X D) n tot kn kx _ _ M) ?_
      unfold t_136_p95_108
      simp only [o_nI]
      rw [hC.2.1, if_pos (by rw [lt_i (by omega) (by omega)]; omega), if_neg (by rw [eq_i (by omega) (by omega)]; exact t121), h0, nI_add]
      refine Wq.call (c_pass (by omega) hx hk (by decide) (by decide) (hC.ne (c := 106) (by decide))) ?_
      rintro z M5 ⟨g5, g6⟩
      have f4 : CHr M (up M 106 0 (nI (one + 1))) := chr_up CHr.rf (by decide)
      by_cases t59 : k_tk tp L k = 59
      · obtain ⟨rfl, f5, c5⟩ := g5 t59
        rw [if_pos nrw_1, Wq_ret, hr1 t59]
        refine ⟨rfl, f4.tr (CHr.of f5 (by decide)), c5, ?_, ?_, fun j hj => ?_, ?_, ?_⟩
        · rw [f5.1 106 (by decide), up_at, upW_s]
        · rw [f5.1 109 (by decide), up_ne (by decide)]; exact h9
        · rw [f5.1 109 (by decide), up_ne (by decide)]
        · rw [f5.1 107 (by decide), up_ne (by decide)]
        · rw [f5.1 108 (by decide), up_ne (by decide)]
      · obtain ⟨rfl, f5, c5⟩ := g6 t59
        rw [if_pos nrw_0, Wq_ret, hr2 t59]
        exact ⟨rfl, f4.tr (CHr.of f5 (by decide)), c5⟩
    · refine Lq.of (t_171_46_ok X (callw X D) n tot kn kx _ M) ?_
      unfold t_171_46
      simp only [o_nI]
      rw [hM.2.2.2.1, if_neg (by rw [eq_i (by omega) (by omega)]; exact fun e => t121 (m121.mp e))]
      refine Wq.call (m_need (by omega) hx (by decide) (by decide) hM) ?_
      rintro z M5 ⟨g5, g6⟩
      by_cases t59 : k_tk tp L k = 59
      · obtain ⟨rfl, f5, c5⟩ := g5 (m59.mpr t59)
        rw [if_pos nrw_1, Wq_ret, hr1 t59]
        exact ⟨rfl, MHr.of f5 (by decide), c5, f5.2 15 (by decide), by rw [f5.1 185 (by decide)]; exact h85, fun j _ => by rw [f5.1 185 (by decide)]⟩
      · obtain ⟨rfl, f5, c5⟩ := g6 (fun e => t59 (m59.mp e))
        rw [if_pos nrw_0, Wq_ret, hr2 t59]
        exact ⟨rfl, MHr.of f5 (by decide), c5⟩
    · by_cases t59 : k_tk tp L k = 59
      · rw [hr1 t59]
        have := tx_lt hx hk (by omega)
        exact ⟨by omega, by omega, hcur⟩
      · rw [hr2 t59]; trivial
  intro c
  induction c with
  | zero =>
    intro k cur hc hk hcur
    have e0 : k_tk tp L k = 0 := by rw [show k = ct by omega]; exact tx_end hx
    exact stop k cur hk hcur (by omega)
  | succ c ih =>
    intro k cur hc hk hcur
    by_cases t121 : k_tk tp L k = 121
    · have hb := tx_tk (k := k) hx
      have hmt := k_mt_lt 2 (by decide) _ hb
      obtain ⟨_, _, m121, _, _⟩ := k_tR2 _ hb
      have hkc := tx_lt hx hk (by omega)
      have cls : ∀ (D it : Nat) (M : MMw) (Q : Int32 → MMw → Prop), 3 ≤ D → ClT tp L ct M k → it < k → (∀ M2, CHr M M2 → ClT tp L ct M2 (k + 1) → M2 106 = M 106 → M2 107 = M 107 → M2 108 = M 108 → M2 109 = M 109 → Wq X (callw X D) 136 (Gk n tot kn kx) Q (bnd (callw X D 128 [.inr (.inl 95), .inl (nI 0), .inl (nI one - nI 1)] (Gk n tot kn kx) M2) fun r3 _ M4 => (if r3 = (0 : Int32) then some (.inl (nI 0, Gk n tot kn kx, M4)) else some (.inr (108, [some (.inr (.inl 95)), some (.inl (nI one)), some (.inl (nI (it + 1)))], [], (Gk n tot kn kx), (up M4 109 one ((M4 109 one) ||| (nI 1 <<< ((M4 95 9) &&& 31))))))))) → Lq X (callw X D) 136 108 [some (.inr (.inl 95)), some (.inl (nI one)), some (.inl (nI it))] (Gk n tot kn kx) M Q := fun D it M Q hD hC hit hK => by
        refine Lq.of (t_136_p95_108_ok X (callw X D) n tot kn kx _ _ M) ?_
        unfold t_136_p95_108
        simp only [o_nI]
        rw [hC.2.1, t121, if_pos (by rw [lt_i (by omega) (by omega)]; omega), if_pos rfl]
        refine Wq.call (c_adv (by omega) hx hkc hC) ?_
        rintro y M2 ⟨f2, c2⟩
        have hk0 := hK M2 (CHr.of f2 (by decide)) c2 (f2.1 106 (by decide)) (f2.1 107 (by decide)) (f2.1 108 (by decide)) (f2.1 109 (by decide))
        simp only [inb_nI h1 (show 8 < 2 ^ 31 by decide), if_true, nI_clamp (show one < 2 ^ 31 by omega), i1_nI, nI_add]
        exact hk0
      have mdl : ∀ (D : Nat) (M : MMw) (Q : Int32 → MMw → Prop), 11 ≤ D → MdT tp L 2 M k → M 178 15 = nI one → (∀ M2, MHr M M2 → MdT tp L 2 M2 (k + 1) → M2 178 15 = nI one → M2 185 = M 185 → Wq X (callw X D) 171 (Gk n tot kn kx) Q (bnd (callw X D 169 [.inr (.inl 178), .inl (nI 0), .inl (nI one - nI 1)] (Gk n tot kn kx) M2) fun r3 _ M4 => (if r3 = (0 : Int32) then some (.inl (nI 0, Gk n tot kn kx, M4)) else some (.inr (46, [some (.inr (.inl 178)), some (.inl (nI (3 * one)))], [], (Gk n tot kn kx), (up M4 185 (3 * one + 2) ((M4 185 (3 * one + 2)) ||| (nI 1 <<< ((M4 178 26) &&& 31))))))))) → Lq X (callw X D) 171 46 [some (.inr (.inl 178)), some (.inl (nI (3 * one)))] (Gk n tot kn kx) M Q := fun D M Q hD hM h15 hK => by
        refine Lq.of (t_171_46_ok X (callw X D) n tot kn kx _ M) ?_
        unfold t_171_46
        simp only [o_nI]
        rw [hM.2.2.2.1, if_pos (by rw [m121.mpr t121])]
        refine Wq.call (m_nextK (by omega) hx.1 hx.2.1 (by decide) hM) ?_
        rintro y M2 ⟨f2, c2⟩
        have e15 : M2 178 15 = nI one := by rw [f2.2 15 (by decide)]; exact h15
        have hk0 := hK M2 (MHr.of f2 (by decide)) c2 e15 (f2.1 185 (by decide))
        simp only [e15, nI_add, inb_nI (show 3 * one + 2 < 100 by omega) (show 100 < 2 ^ 31 by decide), if_true, nI_clamp (show 3 * one + 2 < 2 ^ 31 by omega)]
        exact hk0
      by_cases hnb : k_nb tp L (k + 1) (nI 0) (nI one - nI 1) = 0
      · obtain ⟨t2, hv⟩ := k_nb_s ht (by omega) hnb
        have hk2 := tx_lt hx (show k + 1 ≤ ct by omega) (by omega)
        have pv : 2 ^ k_vl tp L (k + 1) < 2 ^ one := Nat.pow_lt_pow_right (by decide) hv
        have hcur2 : cur ||| 2 ^ k_vl tp L (k + 1) < 2 ^ one := Nat.or_lt_two_pow hcur pv
        obtain ⟨r, r1, r2, r3⟩ := ih (k + 2) (cur ||| 2 ^ k_vl tp L (k + 1)) (by omega) (by omega) hcur2
        have eo : nI cur ||| nI 1 <<< (nI (k_vl tp L (k + 1)) &&& 31) = nI (cur ||| 2 ^ k_vl tp L (k + 1)) := by rw [nI_shl (by omega), Nat.one_mul, nI_or]
        refine ⟨r, fun D it M hD hC hit h0 h9 => ?_, fun D M hD hM h15 h85 => ?_, ?_⟩
        · refine cls D it M _ hD hC hit (fun M2 f2 c2 e6 e7 e8 e9 => ?_)
          refine Wq.call (c_numb (by omega) hx (by omega) c2) ?_
          rintro y M3 ⟨g3, _⟩
          obtain ⟨rfl, f3, c3, v3⟩ := g3 hnb
          rw [if_neg (by decide +kernel), Wq_jmp, v3, f3.1 109 (by decide), e9, h9, eo]
          refine Lq.mono (r1 D (it + 1) _ hD (c3.ne (c := 109) (by decide)) (by omega) (by rw [up_ne (by decide), f3.1 106 (by decide), e6]; exact h0) (by rw [up_at, upW_s])) (fun x M' hq => ?_)
          have fa : CHr M (up M3 109 one (nI (cur ||| 2 ^ k_vl tp L (k + 1)))) := chr_up (f2.tr (CHr.of f3 (by decide))) (by decide)
          rcases r with ⟨a, i⟩ | ⟨k', m⟩
          · obtain ⟨q1, q2, q3⟩ := hq
            exact ⟨q1, fa.tr q2, q3⟩
          · obtain ⟨q1, q2, q3, q4, q5, q6, q7, q8⟩ := hq
            refine ⟨q1, fa.tr q2, q3, q4, q5, fun j hj => ?_, ?_, ?_⟩
            · rw [q6 j hj, up_at, upW_n hj, f3.1 109 (by decide), e9]
            · rw [q7, up_ne (by decide), f3.1 107 (by decide), e7]
            · rw [q8, up_ne (by decide), f3.1 108 (by decide), e8]
        · refine mdl D M _ hD hM h15 (fun M2 f2 c2 e15 e85 => ?_)
          refine Wq.call (m_numb (by omega) hx (by decide) c2) ?_
          rintro y M3 ⟨g3, _⟩
          obtain ⟨rfl, f3, c3, v3⟩ := g3 hnb
          rw [if_neg (by decide +kernel), Wq_jmp, v3, f3.1 185 (by decide), e85, h85, eo]
          refine Lq.mono (r2 D _ hD (c3.ne (c := 185) (by decide)) (by rw [up_ne (by decide), f3.2 15 (by decide)]; exact e15) (by rw [up_at, upW_s])) (fun x M' hq => ?_)
          have fa : MHr M (up M3 185 (3 * one + 2) (nI (cur ||| 2 ^ k_vl tp L (k + 1)))) := mhr_up (f2.tr (MHr.of f3 (by decide)))
          rcases r with ⟨a, i⟩ | ⟨k', m⟩
          · obtain ⟨q1, q2, q3⟩ := hq
            exact ⟨q1, fa.tr q2, q3⟩
          · obtain ⟨q1, q2, q3, q4, q5, q6⟩ := hq
            refine ⟨q1, fa.tr q2, q3, ?_, q5, fun j hj => ?_⟩
            · rw [q4, up_ne (by decide), f3.2 15 (by decide), e15, h15]
            · rw [q6 j hj, up_at, upW_n hj, f3.1 185 (by decide), e85]
        · rcases r with ⟨a, i⟩ | ⟨k', m⟩
          · trivial
          · obtain ⟨d1, d2, d3⟩ := r3
            exact ⟨by omega, d2, d3⟩
      · refine ⟨.inl (k_nb tp L (k + 1) (nI 0) (nI one - nI 1), k + 1), fun D it M hD hC hit h0 h9 => ?_, fun D M hD hM h15 h85 => ?_, trivial⟩
        · refine cls D it M _ hD hC hit (fun M2 f2 c2 e6 e7 e8 e9 => ?_)
          refine Wq.call (c_numb (by omega) hx (by omega) c2) ?_
          rintro y M3 ⟨_, g3⟩
          obtain ⟨rfl, f3, t3⟩ := g3 hnb
          rw [if_pos (by rfl), Wq_ret]
          exact ⟨rfl, f2.tr (CHr.of f3 (by decide)), t3⟩
        · refine mdl D M _ hD hM h15 (fun M2 f2 c2 e15 e85 => ?_)
          refine Wq.call (m_numb (by omega) hx (by decide) c2) ?_
          rintro y M3 ⟨_, g3⟩
          obtain ⟨rfl, f3, t3⟩ := g3 hnb
          rw [if_pos (by rfl), Wq_ret]
          exact ⟨rfl, f2.tr (MHr.of f3 (by decide)), t3⟩
    · exact stop k cur hk hcur t121
end
