section
-- needs: sum2
/-! tests on both sides -/
variable {X : KXw} {n tot kn D : Nat} {kx : Nat → Nat × Nat} {M : MMw}
def GdT (ct k b : Nat) (r : RzT) : Prop := match r with
  | .inl _ => True
  | .inr (k', o) => k < k' ∧ k' ≤ ct ∧ o.length + k ≤ k' ∧ ∀ h, h + b < 64 → LwS o h (h + 1)
def JoT (X : KXw) (n tot kn : Nat) (kx : Nat → Nat × Nat) (tp : Nat → Nat) (L ct rd k m : Nat) (r : RzT) : Prop :=
  (∀ (D : Nat) (acc : List (Nat × Nat)) (M : MMw), 4 + 2 * m ≤ D → ClT tp L ct M k → LwC M acc → acc.length ≤ k → Sq X D 131 [.inr (.inl 95), .inl (nI (8 - m))] (Gk n tot kn kx) M (CoQ tp L ct M acc r)) ∧
  (∀ (D : Nat) (acc : List (Nat × Nat)) (M : MMw), 13 + 3 * m ≤ D → MdT tp L rd M k → StM M acc → acc.length ≤ k → M 178 24 = nI (8 - m) → Sq X D 164 [.inr (.inl 178)] (Gk n tot kn kx) M (MoQ tp L rd M acc r)) ∧ GdT ct k (3 + 2 * m) r
def JoA (X : KXw) (n tot kn : Nat) (kx : Nat → Nat × Nat) (tp : Nat → Nat) (L ct rd k m : Nat) (r : RzT) : Prop :=
  (∀ (D : Nat) (acc : List (Nat × Nat)) (M : MMw), 5 + 2 * m ≤ D → ClT tp L ct M k → LwC M acc → acc.length ≤ k → Sq X D 132 [.inr (.inl 95), .inl (nI (8 - m))] (Gk n tot kn kx) M (CoQ tp L ct M acc r)) ∧
  (∀ (D : Nat) (acc : List (Nat × Nat)) (M : MMw), 15 + 3 * m ≤ D → MdT tp L rd M k → StM M acc → acc.length ≤ k → M 178 24 = nI (8 - m) → Sq X D 166 [.inr (.inl 178)] (Gk n tot kn kx) M (MoQ tp L rd M acc r)) ∧ GdT ct k (5 + 2 * m) r
theorem MdT.up24 {tp : Nat → Nat} {L rd k : Nat} {v : Int32} (h : MdT tp L rd M k) : MdT tp L rd (up M 178 24 v) k := by
  obtain ⟨a1, a2, a3, a4, a5, a6⟩ := h
  refine ⟨a1.f8 (F8.rf.up (fs := [24]) (by decide)) (by decide), ?_, ?_, ?_, ?_, fun hh => ?_⟩
  all_goals rw [up_at, upW_n (by decide)]
  · exact a2
  · exact a3
  · exact a4
  · exact a5
  · exact a6 hh
theorem StM.up24 {acc : List (Nat × Nat)} {v : Int32} (h : StM M acc) : StM (up M 178 24 v) acc := h.f8 (F8.rf.up (fs := [24]) (by decide)) (by decide)
theorem MFr.up24 {M1 : MMw} {v : Int32} (h : MFr M M1) : MFr M (up M1 178 24 v) := h.tr (MFr.of (F8.rf.up (fs := [24]) (by decide)) (by decide))
theorem m_opens (hD : 10 ≤ D) {tp : Nat → Nat} {L ct rd k d : Nat} {acc : List (Nat × Nat)} (hx : TxP tp L ct) (hrd : rd < 4) (hd : d ≤ 8) (h : MdT tp L rd M k) (hS : StM M acc) (h24 : M 178 24 = nI d) : Sq X D 162 [.inr (.inl 178)] (Gk n tot kn kx) M (fun x M' => (d = 8 → FlM tp L M 3 k x M') ∧ (d < 8 → x = nI 1 ∧ MFr M M' ∧ MdT tp L rd M' (k + 1) ∧ StM M' acc ∧ M' 178 24 = nI (d + 1))) :=
  Sq.mk (k := 9) hD (fun D' hD' => by
    refine Lq.of (t_162_0_ok X (callw X D') n tot kn kx M) ?_
    unfold t_162_0
    simp only [o_nI]
    rw [h24]
    by_cases e : d = 8
    · rw [if_pos (by rw [e])]
      refine Wq.call (m_bad (by omega) h) ?_
      rintro x M' ⟨rfl, g1, g2⟩
      rw [if_pos nrw_0, Wq_ret]
      exact ⟨fun _ => ⟨rfl, MFr.of g1 (by decide), g2⟩, fun hh => by omega⟩
    · rw [if_neg (by rw [eq_i (by omega) (by omega)]; exact e), nI_add]
      refine Wq.call (m_nextK hD' hx.1 hx.2.1 hrd h.up24) ?_
      rintro x M' ⟨g1, g2⟩
      rw [Wq_ret]
      exact ⟨fun hh => absurd hh e, fun _ => ⟨rfl, MFr.rf.up24.tr (MFr.of g1 (by decide)), g2, hS.up24.f8 g1 (by decide), by rw [g1.2 24 (by decide), up_at, upW_s]⟩⟩)
theorem k_tT1 : ∀ rd, rd < 2 → ∀ c, c < 126 → (k_mt rd c = 6 ↔ c = 108) ∧ (k_mt rd c = 140 ↔ c = 40) ∧ (k_mt rd c = 141 ↔ c = 41) ∧ (k_mt rd c = 160 ↔ c = 60) ∧ (k_mt rd c = 161 ↔ c = 61) := by decide +kernel
theorem k_tT2 : ∀ rd, rd < 2 → ∀ c, c < 126 → (k_mt rd c = 162 ↔ c = 62) ∧ (k_mt rd c = 5 ↔ c = 107) ∧ (k_mt rd c = 4 ↔ c = 106) ∧ (k_mt rd c = 3 ↔ c = 105) ∧ (k_mt rd c = 159 ↔ c = 59) := by decide +kernel
theorem k_tT {rd : Nat} (hrd : rd < 2) : ∀ c, c < 126 → (k_mt rd c = 6 ↔ c = 108) ∧ (k_mt rd c = 140 ↔ c = 40) ∧ (k_mt rd c = 141 ↔ c = 41) ∧ (k_mt rd c = 160 ↔ c = 60) ∧ (k_mt rd c = 161 ↔ c = 61) ∧ (k_mt rd c = 162 ↔ c = 62) ∧ (k_mt rd c = 5 ↔ c = 107) ∧ (k_mt rd c = 4 ↔ c = 106) ∧ (k_mt rd c = 3 ↔ c = 105) ∧ (k_mt rd c = 159 ↔ c = 59) := fun c hc => by
  obtain ⟨a1, a2, a3, a4, a5⟩ := k_tT1 rd hrd c hc
  obtain ⟨b1, b2, b3, b4, b5⟩ := k_tT2 rd hrd c hc
  exact ⟨a1, a2, a3, a4, a5, b1, b2, b3, b4, b5⟩
theorem J_test {tp : Nat → Nat} {L ct rd k m : Nat} (hx : TxP tp L ct) (hrd : rd < 2) (hk : k ≤ ct) (hm : m ≤ 8) (ihT : ∀ m', m = m' + 1 → k + 1 ≤ ct → ∃ r, JoT X n tot kn kx tp L ct rd (k + 1) m' r) (ihA : ∀ m', m = m' + 1 → k + 1 ≤ ct → ∃ r, JoA X n tot kn kx tp L ct rd (k + 1) m' r) : ∃ r, JoT X n tot kn kx tp L ct rd k m r := by
  have hct := hx.2.2.1
  have hb := tx_tk (k := k) hx
  have hmt := k_mt_lt rd (by omega) _ hb
  obtain ⟨m108, m40, _, _⟩ := k_tT hrd _ hb
  by_cases hop : k_tk tp L k = 108 ∨ k_tk tp L k = 40
  · have hkc := tx_lt hx hk (by omega)
    cases m with
    | zero =>
      refine ⟨.inl (3, k), fun D acc M hD hC hA hl => ?_, fun D acc M hD hM hS hl h24 => ?_, trivial⟩
      · refine Sq.mk (k := 3) (by omega) (fun D' hD' => ?_)
        refine Lq.of (t_131_p95_0_ok X (callw X D') n tot kn kx _ M) ?_
        unfold t_131_p95_0
        simp only [o_nI]
        rw [hC.2.1]
        have fl : ∀ Q : Int32 → MMw → Prop, (∀ x M', FlC tp L M 3 k x M' → Q x M') → Wq X (callw X D') 131 (Gk n tot kn kx) Q (bnd (callw X D' 124 [.inr (.inl 95), .inl (nI 3)] (Gk n tot kn kx) M) fun r1 _ M2 => (if nrw 1 r1 = r1 then some (.inl (r1, Gk n tot kn kx, M2)) else none)) := fun Q hQ => by
          refine Wq.call (c_fail (by omega) hx hk hC) ?_
          rintro x M' ⟨rfl, g1, g2⟩
          rw [if_pos nrw_0, Wq_ret]
          exact hQ _ _ ⟨rfl, CFr.of g1 (by decide), g2, (hA.f9 g1).sz (by omega)⟩
        by_cases t108 : k_tk tp L k = 108
        · rw [if_pos (by rw [t108]), if_neg (by decide +kernel)]
          exact fl _ (fun x M' h => h)
        · rw [if_neg (by rw [eq_i (by omega) (by omega)]; exact t108), if_pos (by rw [show k_tk tp L k = 40 by omega]), if_neg (by decide +kernel)]
          exact fl _ (fun x M' h => h)
      · refine Sq.mk (k := 12) (by omega) (fun D' hD' => ?_)
        refine Lq.of (t_164_0_ok X (callw X D') n tot kn kx M) ?_
        unfold t_164_0
        simp only [o_nI]
        rw [hM.2.2.2.1]
        by_cases t108 : k_tk tp L k = 108
        · rw [if_pos (by rw [m108.mpr t108])]
          refine Wq.call (m_opens (d := 8) (by omega) hx (by omega) (by decide) hM hS h24) ?_
          rintro x M' ⟨g1, _⟩
          have g1 := g1 rfl
          obtain rfl := g1.1
          rw [if_pos (by rfl), Wq_ret]
          exact g1
        · rw [if_neg (by rw [eq_i (by omega) (by omega)]; exact fun e => t108 (m108.mp e)), if_pos (by rw [m40.mpr (by omega)])]
          refine Wq.call (m_opens (d := 8) (by omega) hx (by omega) (by decide) hM hS h24) ?_
          rintro x M' ⟨g1, _⟩
          have g1 := g1 rfl
          obtain rfl := g1.1
          rw [if_pos (by rfl), Wq_ret]
          exact g1
    | succ m =>
      have e7 : 8 - (m + 1) + 1 = 8 - m := by omega
      -- the class comes to the rest
      have cls : ∀ (D : Nat) (acc : List (Nat × Nat)) (M : MMw) (Q : Int32 → MMw → Prop), 4 + 2 * (m + 1) ≤ D + 1 → ClT tp L ct M k → LwC M acc → (∀ M2, CFr M M2 → ClT tp L ct M2 (k + 1) → LwC M2 acc → Wq X (callw X D) 131 (Gk n tot kn kx) Q (if nI (k_tk tp L k) = nI 108 then (bnd (callw X D 131 [.inr (.inl 95), .inl (nI (8 - m))] (Gk n tot kn kx) M2) fun r3 _ M4 => (bnd (callw X D 126 [.inr (.inl 100), .inl (nI 3), .inl (nI 0)] (Gk n tot kn kx) M4) fun _ _ M6 => (if nrw 1 r3 = r3 then some (.inl (r3, Gk n tot kn kx, M6)) else none))) else (bnd (callw X D 132 [.inr (.inl 95), .inl (nI (8 - m))] (Gk n tot kn kx) M2) fun r9 _ M10 => (if r9 = (0 : Int32) then some (.inl (nI 0, Gk n tot kn kx, M10)) else (bnd (callw X D 130 [.inr (.inl 95), .inl (nI 41)] (Gk n tot kn kx) M10) fun r11 _ M12 => (if r11 = (0 : Int32) then some (.inl (nI 0, Gk n tot kn kx, M12)) else some (.inl (nI 1, Gk n tot kn kx, M12)))))))) → Sq X (D + 1) 131 [.inr (.inl 95), .inl (nI (8 - (m + 1)))] (Gk n tot kn kx) M Q := fun D acc M Q hD hC hA hK => by
        refine Sq.of ?_
        refine Lq.of (t_131_p95_0_ok X (callw X D) n tot kn kx _ M) ?_
        unfold t_131_p95_0
        simp only [o_nI]
        have jump : Lq X (callw X D) 131 30 [some (.inr (.inl 95)), some (.inl (nI (8 - (m + 1)))), none, none] (Gk n tot kn kx) M Q := by
          refine Lq.of (t_131_p95_30_ok X (callw X D) n tot kn kx _ M) ?_
          unfold t_131_p95_30
          simp only [o_nI]
          rw [hC.2.1, nI_add, e7]
          by_cases t108 : k_tk tp L k = 108
          · rw [if_pos (by rw [t108])]
            refine Wq.call (c_adv (by omega) hx hkc hC) ?_
            rintro y M2 ⟨f2, c2⟩
            have hk0 := hK M2 (CFr.of f2 (by decide)) c2 (hA.f9 f2)
            rw [if_pos (by rw [t108])] at hk0
            exact hk0
          · rw [if_neg (by rw [eq_i (by omega) (by omega)]; exact t108), if_pos (by rw [show k_tk tp L k = 40 by omega])]
            refine Wq.call (c_adv (by omega) hx hkc hC) ?_
            rintro y M2 ⟨f2, c2⟩
            have hk0 := hK M2 (CFr.of f2 (by decide)) c2 (hA.f9 f2)
            rw [if_neg (by rw [eq_i (by omega) (by omega)]; exact t108)] at hk0
            exact hk0
        rw [hC.2.1]
        by_cases t108 : k_tk tp L k = 108
        · rw [if_pos (by rw [t108]), if_pos (by rw [lt_i (by omega) (by omega)]; omega), Wq_jmp]; exact jump
        · rw [if_neg (by rw [eq_i (by omega) (by omega)]; exact t108), if_pos (by rw [show k_tk tp L k = 40 by omega]), if_pos (by rw [lt_i (by omega) (by omega)]; omega), Wq_jmp]; exact jump
      by_cases t108 : k_tk tp L k = 108
      · obtain ⟨r1, a1, a2, a3⟩ := ihT m rfl (by omega)
        have mdl : ∀ (D : Nat) (acc : List (Nat × Nat)) (M : MMw) (Q : Int32 → MMw → Prop), 13 + 3 * (m + 1) ≤ D + 1 → MdT tp L rd M k → StM M acc → M 178 24 = nI (8 - (m + 1)) → (∀ M2, MFr M M2 → MdT tp L rd M2 (k + 1) → StM M2 acc → M2 178 24 = nI (8 - m) → Wq X (callw X D) 164 (Gk n tot kn kx) Q (bnd (callw X D 164 [.inr (.inl 178)] (Gk n tot kn kx) M2) fun r3 _ M4 => (if r3 = (0 : Int32) then some (.inl (nI 0, Gk n tot kn kx, M4)) else (bnd (callw X D 158 [.inr (.inl 178), .inl (nI 30), .inl (nI 0)] (Gk n tot kn kx) (up M4 178 24 ((M4 178 24) - (nI 1)))) fun _ _ M6 => some (.inl (nI 1, Gk n tot kn kx, M6)))))) → Sq X (D + 1) 164 [.inr (.inl 178)] (Gk n tot kn kx) M Q := fun D acc M Q hD hM hS h24 hK => by
          refine Sq.of ?_
          refine Lq.of (t_164_0_ok X (callw X D) n tot kn kx M) ?_
          unfold t_164_0
          simp only [o_nI]
          rw [hM.2.2.2.1, if_pos (by rw [m108.mpr t108])]
          refine Wq.call (m_opens (d := 8 - (m + 1)) (by omega) hx (by omega) (by omega) hM hS h24) ?_
          rintro x M2 ⟨_, g1⟩
          obtain ⟨rfl, f2, c2, l2, e2⟩ := g1 (by omega)
          rw [if_neg (by decide +kernel)]
          exact hK M2 f2 c2 l2 (by rw [e2, e7])
        rcases r1 with ⟨a, i⟩ | ⟨k2, o⟩
        · refine ⟨.inl (a, i), fun D acc M hD hC hA hl => ?_, fun D acc M hD hM hS hl h24 => ?_, trivial⟩
          · obtain ⟨D', rfl⟩ : ∃ D', D = D' + 1 := ⟨D - 1, by omega⟩
            refine cls D' acc M _ hD hC hA (fun M2 f2 c2 l2 => ?_)
            rw [if_pos (by rw [t108])]
            refine Wq.call (a1 D' acc M2 (by omega) c2 l2 (by omega)) ?_
            rintro y M3 h3
            have h3 : FlC tp L M2 a i y M3 := h3
            obtain rfl := h3.1
            refine Wq.call (c_putx (by omega) h3.2.2.2) ?_
            rintro z M4 ⟨f4, e4, s4⟩
            rw [if_pos nrw_0, Wq_ret]
            exact (h3.put f4 e4 s4).tr f2
          · obtain ⟨D', rfl⟩ : ∃ D', D = D' + 1 := ⟨D - 1, by omega⟩
            refine mdl D' acc M _ hD hM hS h24 (fun M2 f2 c2 l2 e2 => ?_)
            refine Wq.call (a2 D' acc M2 (by omega) c2 l2 (by omega) e2) ?_
            rintro y M3 h3
            have h3 : FlM tp L M2 a i y M3 := h3
            obtain rfl := h3.1
            rw [if_pos (by rfl), Wq_ret]
            exact h3.tr f2
        · obtain ⟨b1, b2, b3, b4⟩ := a3
          refine ⟨.inr (k2, o ++ [(3, 0)]), fun D acc M hD hC hA hl => ?_, fun D acc M hD hM hS hl h24 => ?_, by omega, b2, by rw [List.length_append]; show o.length + 1 + k ≤ k2; omega, fun h hh => (b4 h (by omega)).app ⟨h + 1, Or.inr (Or.inr (Or.inr (Or.inl ⟨rfl, rfl, by omega, rfl⟩))), rfl⟩⟩
          · obtain ⟨D', rfl⟩ : ∃ D', D = D' + 1 := ⟨D - 1, by omega⟩
            refine cls D' acc M _ hD hC hA (fun M2 f2 c2 l2 => ?_)
            rw [if_pos (by rw [t108])]
            refine Wq.call (a1 D' acc M2 (by omega) c2 l2 (by omega)) ?_
            rintro y M3 h3
            obtain ⟨rfl, f3, c3, l3⟩ : y = nI 1 ∧ CFr M2 M3 ∧ ClT tp L ct M3 k2 ∧ LwC M3 (acc ++ o) := h3
            refine Wq.call (c_put (by omega) (by rw [List.length_append]; omega) (by decide) (by decide) l3) ?_
            rintro z M4 ⟨f4, e4, l4⟩
            rw [if_pos nrw_1, Wq_ret]
            exact ⟨rfl, (f2.tr f3).tr f4, c3.cg e4 f4, by rw [← List.append_assoc]; exact l4⟩
          · obtain ⟨D', rfl⟩ : ∃ D', D = D' + 1 := ⟨D - 1, by omega⟩
            refine mdl D' acc M _ hD hM hS h24 (fun M2 f2 c2 l2 e2 => ?_)
            refine Wq.call (a2 D' acc M2 (by omega) c2 l2 (by omega) e2) ?_
            rintro y M3 h3
            obtain ⟨rfl, f3, c3, l3, e3⟩ : y = nI 1 ∧ MFr M2 M3 ∧ MdT tp L rd M3 k2 ∧ StM M3 (acc ++ o) ∧ M3 178 24 = M2 178 24 := h3
            rw [if_neg (by decide +kernel)]
            refine Wq.call (m_lay (op := (3, 0)) (by omega) (by rw [List.length_append]; omega) ⟨rfl, fun hh => (by rcases hh with hh | hh <;> cases hh)⟩ l3.up24) ?_
            rintro z M4 l4
            rw [Wq_ret]
            exact ⟨rfl, ((f2.tr f3).up24).tr l4.1, c3.up24.ly l4, by rw [← List.append_assoc]; exact l4.2.2, by rw [l4.2.1 24 (by decide), up_at, upW_s, e3, e2, h24, nI_sub (by omega), show 8 - m - 1 = 8 - (m + 1) by omega]⟩
      · have t40 : k_tk tp L k = 40 := by omega
        obtain ⟨r1, a1, a2, a3⟩ := ihA m rfl (by omega)
        have mdl : ∀ (D : Nat) (acc : List (Nat × Nat)) (M : MMw) (Q : Int32 → MMw → Prop), 13 + 3 * (m + 1) ≤ D + 1 → MdT tp L rd M k → StM M acc → M 178 24 = nI (8 - (m + 1)) → (∀ M2, MFr M M2 → MdT tp L rd M2 (k + 1) → StM M2 acc → M2 178 24 = nI (8 - m) → Wq X (callw X D) 164 (Gk n tot kn kx) Q (bnd (callw X D 166 [.inr (.inl 178)] (Gk n tot kn kx) M2) fun r9 _ M10 => (if r9 = (0 : Int32) then some (.inl (nI 0, Gk n tot kn kx, M10)) else (bnd (callw X D 163 [.inr (.inl 178), .inl (nI 141)] (Gk n tot kn kx) M10) fun r11 _ M12 => (if r11 = (0 : Int32) then some (.inl (nI 0, Gk n tot kn kx, M12)) else some (.inl (nI 1, Gk n tot kn kx, (up M12 178 24 ((M12 178 24) - (nI 1)))))))))) → Sq X (D + 1) 164 [.inr (.inl 178)] (Gk n tot kn kx) M Q := fun D acc M Q hD hM hS h24 hK => by
          refine Sq.of ?_
          refine Lq.of (t_164_0_ok X (callw X D) n tot kn kx M) ?_
          unfold t_164_0
          simp only [o_nI]
          rw [hM.2.2.2.1, if_neg (by rw [eq_i (by omega) (by omega)]; exact fun e => t108 (m108.mp e)), if_pos (by rw [m40.mpr t40])]
          refine Wq.call (m_opens (d := 8 - (m + 1)) (by omega) hx (by omega) (by omega) hM hS h24) ?_
          rintro x M2 ⟨_, g1⟩
          obtain ⟨rfl, f2, c2, l2, e2⟩ := g1 (by omega)
          rw [if_neg (by decide +kernel)]
          exact hK M2 f2 c2 l2 (by rw [e2, e7])
        rcases r1 with ⟨a, i⟩ | ⟨k2, o⟩
        · refine ⟨.inl (a, i), fun D acc M hD hC hA hl => ?_, fun D acc M hD hM hS hl h24 => ?_, trivial⟩
          · obtain ⟨D', rfl⟩ : ∃ D', D = D' + 1 := ⟨D - 1, by omega⟩
            refine cls D' acc M _ hD hC hA (fun M2 f2 c2 l2 => ?_)
            rw [if_neg (by rw [eq_i (by omega) (by omega)]; exact t108)]
            refine Wq.call (a1 D' acc M2 (by omega) c2 l2 (by omega)) ?_
            rintro y M3 h3
            have h3 : FlC tp L M2 a i y M3 := h3
            obtain rfl := h3.1
            rw [if_pos (by rfl), Wq_ret]
            exact h3.tr f2
          · obtain ⟨D', rfl⟩ : ∃ D', D = D' + 1 := ⟨D - 1, by omega⟩
            refine mdl D' acc M _ hD hM hS h24 (fun M2 f2 c2 l2 e2 => ?_)
            refine Wq.call (a2 D' acc M2 (by omega) c2 l2 (by omega) e2) ?_
            rintro y M3 h3
            have h3 : FlM tp L M2 a i y M3 := h3
            obtain rfl := h3.1
            rw [if_pos (by rfl), Wq_ret]
            exact h3.tr f2
        · obtain ⟨b1, b2, b3, b4⟩ := a3
          have hb2 := tx_tk (k := k2) hx
          obtain ⟨_, _, m41, _⟩ := k_tT hrd _ hb2
          by_cases t41 : k_tk tp L k2 = 41
          · have hk2c := tx_lt hx b2 (by omega)
            refine ⟨.inr (k2 + 1, o), fun D acc M hD hC hA hl => ?_, fun D acc M hD hM hS hl h24 => ?_, by omega, by omega, by omega, fun h hh => b4 h (by omega)⟩
            · obtain ⟨D', rfl⟩ : ∃ D', D = D' + 1 := ⟨D - 1, by omega⟩
              refine cls D' acc M _ hD hC hA (fun M2 f2 c2 l2 => ?_)
              rw [if_neg (by rw [eq_i (by omega) (by omega)]; exact t108)]
              refine Wq.call (a1 D' acc M2 (by omega) c2 l2 (by omega)) ?_
              rintro y M3 h3
              obtain ⟨rfl, f3, c3, l3⟩ : y = nI 1 ∧ CFr M2 M3 ∧ ClT tp L ct M3 k2 ∧ LwC M3 (acc ++ o) := h3
              rw [if_neg (by decide +kernel)]
              refine Wq.call (c_pass (by omega) hx b2 (by decide) (by decide) c3) ?_
              rintro z M4 ⟨g4, _⟩
              obtain ⟨rfl, f4, c4⟩ := g4 t41
              rw [if_neg (by decide +kernel), Wq_ret]
              exact ⟨rfl, (f2.tr f3).tr (CFr.of f4 (by decide)), c4, l3.f9 f4⟩
            · obtain ⟨D', rfl⟩ : ∃ D', D = D' + 1 := ⟨D - 1, by omega⟩
              refine mdl D' acc M _ hD hM hS h24 (fun M2 f2 c2 l2 e2 => ?_)
              refine Wq.call (a2 D' acc M2 (by omega) c2 l2 (by omega) e2) ?_
              rintro y M3 h3
              obtain ⟨rfl, f3, c3, l3, e3⟩ : y = nI 1 ∧ MFr M2 M3 ∧ MdT tp L rd M3 k2 ∧ StM M3 (acc ++ o) ∧ M3 178 24 = M2 178 24 := h3
              rw [if_neg (by decide +kernel)]
              refine Wq.call (m_need (by omega) hx (by omega) (by decide) c3) ?_
              rintro z M4 ⟨g4, _⟩
              obtain ⟨rfl, f4, c4⟩ := g4 (m41.mpr t41)
              rw [if_neg (by decide +kernel), Wq_ret]
              exact ⟨rfl, ((f2.tr f3).tr (MFr.of f4 (by decide))).up24, c4.up24, (l3.f8 f4 (by decide)).up24, by rw [up_at, upW_s, f4.2 24 (by decide), e3, e2, h24, nI_sub (by omega), show 8 - m - 1 = 8 - (m + 1) by omega]⟩
          · refine ⟨.inl (1, k2), fun D acc M hD hC hA hl => ?_, fun D acc M hD hM hS hl h24 => ?_, trivial⟩
            · obtain ⟨D', rfl⟩ : ∃ D', D = D' + 1 := ⟨D - 1, by omega⟩
              refine cls D' acc M _ hD hC hA (fun M2 f2 c2 l2 => ?_)
              rw [if_neg (by rw [eq_i (by omega) (by omega)]; exact t108)]
              refine Wq.call (a1 D' acc M2 (by omega) c2 l2 (by omega)) ?_
              rintro y M3 h3
              obtain ⟨rfl, f3, c3, l3⟩ : y = nI 1 ∧ CFr M2 M3 ∧ ClT tp L ct M3 k2 ∧ LwC M3 (acc ++ o) := h3
              rw [if_neg (by decide +kernel)]
              refine Wq.call (c_pass (by omega) hx b2 (by decide) (by decide) c3) ?_
              rintro z M4 ⟨_, g4⟩
              obtain ⟨rfl, f4, t4⟩ := g4 t41
              rw [if_pos (by rfl), Wq_ret]
              exact ⟨rfl, (f2.tr f3).tr (CFr.of f4 (by decide)), t4, (l3.f9 f4).sz (by rw [List.length_append]; omega)⟩
            · obtain ⟨D', rfl⟩ : ∃ D', D = D' + 1 := ⟨D - 1, by omega⟩
              refine mdl D' acc M _ hD hM hS h24 (fun M2 f2 c2 l2 e2 => ?_)
              refine Wq.call (a2 D' acc M2 (by omega) c2 l2 (by omega) e2) ?_
              rintro y M3 h3
              obtain ⟨rfl, f3, c3, l3, e3⟩ : y = nI 1 ∧ MFr M2 M3 ∧ MdT tp L rd M3 k2 ∧ StM M3 (acc ++ o) ∧ M3 178 24 = M2 178 24 := h3
              rw [if_neg (by decide +kernel)]
              refine Wq.call (m_need (by omega) hx (by omega) (by decide) c3) ?_
              rintro z M4 ⟨_, g4⟩
              obtain ⟨rfl, f4, t4⟩ := g4 (fun e => t41 (m41.mp e))
              rw [if_pos (by rfl), Wq_ret]
              exact ⟨rfl, (f2.tr f3).tr (MFr.of f4 (by decide)), t4⟩
  · -- a sum, a sign, a sum
    have n108 : k_tk tp L k ≠ 108 := fun e => hop (Or.inl e)
    have n40 : k_tk tp L k ≠ 40 := fun e => hop (Or.inr e)
    obtain ⟨r1, a1, a2, a3⟩ := J_sum (X := X) (n := n) (tot := tot) (kn := kn) (kx := kx) hx hrd hk
    have cls : ∀ (D : Nat) (M : MMw) (Q : Int32 → MMw → Prop), ClT tp L ct M k → Lq X (callw X D) 131 30 [some (.inr (.inl 95)), some (.inl (nI (8 - m))), none, none] (Gk n tot kn kx) M Q → Sq X (D + 1) 131 [.inr (.inl 95), .inl (nI (8 - m))] (Gk n tot kn kx) M Q := fun D M Q hC hK => by
      refine Sq.of ?_
      refine Lq.of (t_131_p95_0_ok X (callw X D) n tot kn kx _ M) ?_
      unfold t_131_p95_0
      simp only [o_nI]
      rw [hC.2.1, if_neg (by rw [eq_i (by omega) (by omega)]; exact n108), if_neg (by rw [eq_i (by omega) (by omega)]; exact n40), Wq_jmp]
      exact hK
    rcases r1 with ⟨a, i⟩ | ⟨k2, o⟩
    · refine ⟨.inl (a, i), fun D acc M hD hC hA hl => ?_, fun D acc M hD hM hS hl h24 => ?_, trivial⟩
      · obtain ⟨D', rfl⟩ : ∃ D', D = D' + 1 := ⟨D - 1, by omega⟩
        refine cls D' M _ hC ?_
        refine Lq.of (t_131_p95_30_ok X (callw X D') n tot kn kx _ M) ?_
        unfold t_131_p95_30
        simp only [o_nI]
        rw [hC.2.1, if_neg (by rw [eq_i (by omega) (by omega)]; exact n108), if_neg (by rw [eq_i (by omega) (by omega)]; exact n40)]
        refine Wq.call (a1 D' acc M (by omega) hC hA hl) ?_
        rintro y M3 h3
        have h3 : FlC tp L M a i y M3 := h3
        obtain rfl := h3.1
        rw [if_pos (by rfl), Wq_ret]
        exact h3
      · refine Sq.mk (k := 12) (by omega) (fun D' hD' => ?_)
        refine Lq.of (t_164_0_ok X (callw X D') n tot kn kx M) ?_
        unfold t_164_0
        simp only [o_nI]
        rw [hM.2.2.2.1, if_neg (by rw [eq_i (by omega) (by omega)]; exact fun e => n108 (m108.mp e)), if_neg (by rw [eq_i (by omega) (by omega)]; exact fun e => n40 (m40.mp e))]
        refine Wq.call (a2 D' acc M hD' hM hS hl) ?_
        rintro y M3 h3
        have h3 : FlM tp L M a i y M3 := h3
        obtain rfl := h3.1
        rw [if_pos (by rfl), Wq_ret]
        exact h3
    · obtain ⟨b1, b2, b3, b4⟩ := a3
      have hb2 := tx_tk (k := k2) hx
      have hmt2 := k_mt_lt rd (by omega) _ hb2
      obtain ⟨_, _, _, m60, m61, m62, _⟩ := k_tT hrd _ hb2
      by_cases hs : k_tk tp L k2 = 60 ∨ k_tk tp L k2 = 61 ∨ k_tk tp L k2 = 62
      · have hk2c := tx_lt hx b2 (by omega)
        obtain ⟨r3, c1, c2, c3⟩ := J_sum (X := X) (n := n) (tot := tot) (kn := kn) (kx := kx) hx hrd (show k2 + 1 ≤ ct by omega)
        have hput : ∀ (D : Nat) (M : MMw) (x : Int32) (Q : Int32 → MMw → Prop), Wq X (callw X D) 131 (Gk n tot kn kx) Q (bnd (callw X D 126 [.inr (.inl 100), .inl (nI (k_tk tp L k2 - 53)), .inl (nI 0)] (Gk n tot kn kx) M) fun _ _ M20 => (if nrw 1 x = x then some (.inl (x, Gk n tot kn kx, M20)) else none)) → Wq X (callw X D) 131 (Gk n tot kn kx) Q (if nI (k_tk tp L k2) = nI 60 then (bnd (callw X D 126 [.inr (.inl 100), .inl (nI 7), .inl (nI 0)] (Gk n tot kn kx) M) fun _ _ M20 => (if nrw 1 x = x then some (.inl (x, Gk n tot kn kx, M20)) else none)) else (if nI (k_tk tp L k2) = nI 61 then (bnd (callw X D 126 [.inr (.inl 100), .inl (nI 8), .inl (nI 0)] (Gk n tot kn kx) M) fun _ _ M22 => (if nrw 1 x = x then some (.inl (x, Gk n tot kn kx, M22)) else none)) else (bnd (callw X D 126 [.inr (.inl 100), .inl (nI 9), .inl (nI 0)] (Gk n tot kn kx) M) fun _ _ M24 => (if nrw 1 x = x then some (.inl (x, Gk n tot kn kx, M24)) else none)))) := fun D M x Q h => by
          rcases hs with e | e | e
          · rw [e, if_pos rfl]; rw [e] at h; exact h
          · rw [e, if_neg (by decide +kernel), if_pos rfl]; rw [e] at h; exact h
          · rw [e, if_neg (by decide +kernel), if_neg (by decide +kernel)]; rw [e] at h; exact h
        have cls2 : ∀ (D : Nat) (acc : List (Nat × Nat)) (M : MMw) (Q : Int32 → MMw → Prop), 3 ≤ D → ClT tp L ct M k → LwC M acc → acc.length ≤ k → (∀ M2, CFr M M2 → ClT tp L ct M2 (k2 + 1) → LwC M2 (acc ++ o) → Wq X (callw X D) 131 (Gk n tot kn kx) Q (bnd (callw X D 129 [.inr (.inl 95)] (Gk n tot kn kx) M2) fun r17 _ M18 => (bnd (callw X D 126 [.inr (.inl 100), .inl (nI (k_tk tp L k2 - 53)), .inl (nI 0)] (Gk n tot kn kx) M18) fun _ _ M20 => (if nrw 1 r17 = r17 then some (.inl (r17, Gk n tot kn kx, M20)) else none)))) → Sq X (D + 1) 131 [.inr (.inl 95), .inl (nI (8 - m))] (Gk n tot kn kx) M Q := fun D acc M Q hD hC hA hl hK => by
          refine cls D M _ hC ?_
          refine Lq.of (t_131_p95_30_ok X (callw X D) n tot kn kx _ M) ?_
          unfold t_131_p95_30
          simp only [o_nI]
          rw [hC.2.1, if_neg (by rw [eq_i (by omega) (by omega)]; exact n108), if_neg (by rw [eq_i (by omega) (by omega)]; exact n40)]
          refine Wq.call (a1 D acc M hD hC hA hl) ?_
          rintro y M3 h3
          obtain ⟨rfl, f3, cc3, l3⟩ : y = nI 1 ∧ CFr M M3 ∧ ClT tp L ct M3 k2 ∧ LwC M3 (acc ++ o) := h3
          rw [if_neg (by decide +kernel), cc3.2.1]
          have go : Wq X (callw X D) 131 (Gk n tot kn kx) Q (bnd (callw X D 125 [.inr (.inl 95)] (Gk n tot kn kx) M3) fun _ _ M16 => (bnd (callw X D 129 [.inr (.inl 95)] (Gk n tot kn kx) M16) fun r17 _ M18 => (if nI (k_tk tp L k2) = nI 60 then (bnd (callw X D 126 [.inr (.inl 100), .inl (nI 7), .inl (nI 0)] (Gk n tot kn kx) M18) fun _ _ M20 => (if nrw 1 r17 = r17 then some (.inl (r17, Gk n tot kn kx, M20)) else none)) else (if nI (k_tk tp L k2) = nI 61 then (bnd (callw X D 126 [.inr (.inl 100), .inl (nI 8), .inl (nI 0)] (Gk n tot kn kx) M18) fun _ _ M22 => (if nrw 1 r17 = r17 then some (.inl (r17, Gk n tot kn kx, M22)) else none)) else (bnd (callw X D 126 [.inr (.inl 100), .inl (nI 9), .inl (nI 0)] (Gk n tot kn kx) M18) fun _ _ M24 => (if nrw 1 r17 = r17 then some (.inl (r17, Gk n tot kn kx, M24)) else none)))))) := by
            refine Wq.call (c_adv (by omega) hx hk2c cc3) ?_
            rintro z M4 ⟨f4, c4⟩
            have hk0 := hK M4 (f3.tr (CFr.of f4 (by decide))) c4 (l3.f9 f4)
            obtain ⟨w, M5, h5, h6⟩ : Sq X D 129 [.inr (.inl 95)] (Gk n tot kn kx) M4 (fun _ _ => True) := by
              refine Sq.mono (c1 D (acc ++ o) M4 hD c4 (l3.f9 f4) (by rw [List.length_append]; omega)) (fun _ _ _ => trivial)
            rw [h5, bnd_some] at hk0 ⊢
            exact hput D M5 w Q hk0
          by_cases e60 : k_tk tp L k2 = 60
          · rw [if_pos (by rw [e60])]; exact go
          · rw [if_neg (by rw [eq_i (by omega) (by omega)]; exact e60)]
            by_cases e61 : k_tk tp L k2 = 61
            · rw [if_pos (by rw [e61])]
              exact go
            · rw [if_neg (by rw [eq_i (by omega) (by omega)]; exact e61), if_pos (by rw [show k_tk tp L k2 = 62 by omega])]
              exact go
        have mdl2 : ∀ (D : Nat) (acc : List (Nat × Nat)) (M : MMw) (Q : Int32 → MMw → Prop), 12 ≤ D → MdT tp L rd M k → StM M acc → acc.length ≤ k → (∀ M2, MFr M M2 → M2 178 24 = M 178 24 → MdT tp L rd M2 (k2 + 1) → StM M2 (acc ++ o) → Wq X (callw X D) 164 (Gk n tot kn kx) Q (bnd (callw X D 161 [.inr (.inl 178)] (Gk n tot kn kx) M2) fun r17 _ M18 => (if r17 = (0 : Int32) then some (.inl (nI 0, Gk n tot kn kx, M18)) else (bnd (callw X D 158 [.inr (.inl 178), .inl (nI (k_tk tp L k2 - 33)), .inl (nI 0)] (Gk n tot kn kx) M18) fun _ _ M20 => some (.inl (nI 1, Gk n tot kn kx, M20)))))) → Sq X (D + 1) 164 [.inr (.inl 178)] (Gk n tot kn kx) M Q := fun D acc M Q hD hM hS hl hK => by
          refine Sq.of ?_
          refine Lq.of (t_164_0_ok X (callw X D) n tot kn kx M) ?_
          unfold t_164_0
          simp only [o_nI]
          rw [hM.2.2.2.1, if_neg (by rw [eq_i (by omega) (by omega)]; exact fun e => n108 (m108.mp e)), if_neg (by rw [eq_i (by omega) (by omega)]; exact fun e => n40 (m40.mp e))]
          refine Wq.call (a2 D acc M hD hM hS hl) ?_
          rintro y M3 h3
          obtain ⟨rfl, f3, cc3, l3, e3⟩ : y = nI 1 ∧ MFr M M3 ∧ MdT tp L rd M3 k2 ∧ StM M3 (acc ++ o) ∧ M3 178 24 = M 178 24 := h3
          rw [if_neg (by decide +kernel), cc3.2.2.2.1]
          by_cases e60 : k_tk tp L k2 = 60
          · rw [if_pos (by rw [m60.mpr e60])]
            refine Wq.call (m_nextK (by omega) hx.1 hx.2.1 (by omega) cc3) ?_
            rintro z M4 ⟨f4, c4⟩
            have hk0 := hK M4 (f3.tr (MFr.of f4 (by decide))) (by rw [f4.2 24 (by decide), e3]) c4 (l3.f8 f4 (by decide))
            rw [e60] at hk0
            exact hk0
          · rw [if_neg (by rw [eq_i (by omega) (by omega)]; exact fun e => e60 (m60.mp e))]
            by_cases e61 : k_tk tp L k2 = 61
            · rw [if_pos (by rw [m61.mpr e61])]
              refine Wq.call (m_nextK (by omega) hx.1 hx.2.1 (by omega) cc3) ?_
              rintro z M4 ⟨f4, c4⟩
              have hk0 := hK M4 (f3.tr (MFr.of f4 (by decide))) (by rw [f4.2 24 (by decide), e3]) c4 (l3.f8 f4 (by decide))
              rw [e61] at hk0
              exact hk0
            · have e62 : k_tk tp L k2 = 62 := by omega
              rw [if_neg (by rw [eq_i (by omega) (by omega)]; exact fun e => e61 (m61.mp e)), if_pos (by rw [m62.mpr e62])]
              refine Wq.call (m_nextK (by omega) hx.1 hx.2.1 (by omega) cc3) ?_
              rintro z M4 ⟨f4, c4⟩
              have hk0 := hK M4 (f3.tr (MFr.of f4 (by decide))) (by rw [f4.2 24 (by decide), e3]) c4 (l3.f8 f4 (by decide))
              rw [e62] at hk0
              exact hk0
        rcases r3 with ⟨a, i⟩ | ⟨k4, q⟩
        · refine ⟨.inl (a, i), fun D acc M hD hC hA hl => ?_, fun D acc M hD hM hS hl h24 => ?_, trivial⟩
          · obtain ⟨D', rfl⟩ : ∃ D', D = D' + 1 := ⟨D - 1, by omega⟩
            refine cls2 D' acc M _ (by omega) hC hA hl (fun M2 f2 cc2 l2 => ?_)
            refine Wq.call (c1 D' (acc ++ o) M2 (by omega) cc2 l2 (by rw [List.length_append]; omega)) ?_
            rintro y M3 h3
            have h3 : FlC tp L M2 a i y M3 := h3
            obtain rfl := h3.1
            refine Wq.call (c_putx (by omega) h3.2.2.2) ?_
            rintro z M4 ⟨f4, e4, s4⟩
            rw [if_pos nrw_0, Wq_ret]
            exact (h3.put f4 e4 s4).tr f2
          · obtain ⟨D', rfl⟩ : ∃ D', D = D' + 1 := ⟨D - 1, by omega⟩
            refine mdl2 D' acc M _ (by omega) hM hS hl (fun M2 f2 e2 cc2 l2 => ?_)
            refine Wq.call (c2 D' (acc ++ o) M2 (by omega) cc2 l2 (by rw [List.length_append]; omega)) ?_
            rintro y M3 h3
            have h3 : FlM tp L M2 a i y M3 := h3
            obtain rfl := h3.1
            rw [if_pos (by rfl), Wq_ret]
            exact h3.tr f2
        · obtain ⟨d1, d2, d3, d4⟩ := c3
          refine ⟨.inr (k4, o ++ (q ++ [(k_tk tp L k2 - 53, 0)])), fun D acc M hD hC hA hl => ?_, fun D acc M hD hM hS hl h24 => ?_, by omega, d2, by rw [List.length_append, List.length_append]; show o.length + (q.length + 1) + k ≤ k4; omega, fun h hh => (b4 h (by omega)).app ((d4 (h + 1) (by omega)).app ⟨h + 1, Or.inr (Or.inr (Or.inr (Or.inr ⟨by dsimp only; omega, by dsimp only; omega, rfl, rfl, by omega⟩))), rfl⟩)⟩
          · obtain ⟨D', rfl⟩ : ∃ D', D = D' + 1 := ⟨D - 1, by omega⟩
            refine cls2 D' acc M _ (by omega) hC hA hl (fun M2 f2 cc2 l2 => ?_)
            refine Wq.call (c1 D' (acc ++ o) M2 (by omega) cc2 l2 (by rw [List.length_append]; omega)) ?_
            rintro y M3 h3
            obtain ⟨rfl, f3, cc3, l3⟩ : y = nI 1 ∧ CFr M2 M3 ∧ ClT tp L ct M3 k4 ∧ LwC M3 (acc ++ o ++ q) := h3
            refine Wq.call (c_put (by omega) (by rw [List.length_append, List.length_append]; omega) (by omega) (by decide) l3) ?_
            rintro z M4 ⟨f4, e4, l4⟩
            rw [if_pos nrw_1, Wq_ret]
            refine ⟨rfl, (f2.tr f3).tr f4, cc3.cg e4 f4, ?_⟩
            rw [List.append_assoc, List.append_assoc] at l4
            exact l4
          · obtain ⟨D', rfl⟩ : ∃ D', D = D' + 1 := ⟨D - 1, by omega⟩
            refine mdl2 D' acc M _ (by omega) hM hS hl (fun M2 f2 e2 cc2 l2 => ?_)
            refine Wq.call (c2 D' (acc ++ o) M2 (by omega) cc2 l2 (by rw [List.length_append]; omega)) ?_
            rintro y M3 h3
            obtain ⟨rfl, f3, cc3, l3, e3⟩ : y = nI 1 ∧ MFr M2 M3 ∧ MdT tp L rd M3 k4 ∧ StM M3 (acc ++ o ++ q) ∧ M3 178 24 = M2 178 24 := h3
            rw [if_neg (by decide +kernel)]
            refine Wq.call (m_lay (op := (k_tk tp L k2 - 53, 0)) (by omega) (by rw [List.length_append, List.length_append]; omega) ⟨?_, fun hh => (by dsimp only at hh; omega)⟩ l3) ?_
            · congr 1
              rcases hs with e | e | e <;> rw [e] <;> rfl
            · rintro z M4 l4
              rw [Wq_ret]
              refine ⟨rfl, (f2.tr f3).tr l4.1, cc3.ly l4, ?_, by rw [l4.2.1 24 (by decide), e3, e2]⟩
              have l5 := l4.2.2
              rw [List.append_assoc, List.append_assoc] at l5
              exact l5
      · refine ⟨.inl (1, k2), fun D acc M hD hC hA hl => ?_, fun D acc M hD hM hS hl h24 => ?_, trivial⟩
        · obtain ⟨D', rfl⟩ : ∃ D', D = D' + 1 := ⟨D - 1, by omega⟩
          refine cls D' M _ hC ?_
          refine Lq.of (t_131_p95_30_ok X (callw X D') n tot kn kx _ M) ?_
          unfold t_131_p95_30
          simp only [o_nI]
          rw [hC.2.1, if_neg (by rw [eq_i (by omega) (by omega)]; exact n108), if_neg (by rw [eq_i (by omega) (by omega)]; exact n40)]
          refine Wq.call (a1 D' acc M (by omega) hC hA hl) ?_
          rintro y M3 h3
          obtain ⟨rfl, f3, cc3, l3⟩ : y = nI 1 ∧ CFr M M3 ∧ ClT tp L ct M3 k2 ∧ LwC M3 (acc ++ o) := h3
          rw [if_neg (by decide +kernel), cc3.2.1, if_neg (by rw [eq_i (by omega) (by omega)]; omega), if_neg (by rw [eq_i (by omega) (by omega)]; omega), if_neg (by rw [eq_i (by omega) (by omega)]; omega)]
          refine Wq.call (c_fail (by omega) hx b2 cc3) ?_
          rintro z M4 ⟨rfl, g1, g2⟩
          rw [if_pos nrw_0, Wq_ret]
          exact ⟨rfl, f3.tr (CFr.of g1 (by decide)), g2, (l3.f9 g1).sz (by rw [List.length_append]; omega)⟩
        · refine Sq.mk (k := 12) (by omega) (fun D' hD' => ?_)
          refine Lq.of (t_164_0_ok X (callw X D') n tot kn kx M) ?_
          unfold t_164_0
          simp only [o_nI]
          rw [hM.2.2.2.1, if_neg (by rw [eq_i (by omega) (by omega)]; exact fun e => n108 (m108.mp e)), if_neg (by rw [eq_i (by omega) (by omega)]; exact fun e => n40 (m40.mp e))]
          refine Wq.call (a2 D' acc M hD' hM hS hl) ?_
          rintro y M3 h3
          obtain ⟨rfl, f3, cc3, l3, e3⟩ : y = nI 1 ∧ MFr M M3 ∧ MdT tp L rd M3 k2 ∧ StM M3 (acc ++ o) ∧ M3 178 24 = M 178 24 := h3
          rw [if_neg (by decide +kernel), cc3.2.2.2.1, if_neg (by rw [eq_i (by omega) (by omega)]; exact fun e => hs (Or.inl (m60.mp e))), if_neg (by rw [eq_i (by omega) (by omega)]; exact fun e => hs (Or.inr (Or.inl (m61.mp e)))), if_neg (by rw [eq_i (by omega) (by omega)]; exact fun e => hs (Or.inr (Or.inr (m62.mp e))))]
          refine Wq.call (m_bad (by omega) cc3) ?_
          rintro z M4 ⟨rfl, g1, g2⟩
          rw [if_pos nrw_0, Wq_ret]
          exact ⟨rfl, f3.tr (MFr.of g1 (by decide)), g2⟩
end
