section
-- needs: hull
/-! works on both sides -/
variable {X : KXw} {n tot kn D : Nat} {kx : Nat → Nat × Nat} {M : MMw}
theorem m_told (hD : 11 ≤ D) {tp : Nat → Nat} {L ct rd k p w : Nat} {lo hi : Int32} (hx : TxP tp L ct) (hrd : rd < 4) (hp : p < 100) (hw : w < 2 ^ 31) (h : MdT tp L rd M k) : Sq X D 170 [.inr (.inl 178), .inl (nI p), .inl (nI w), .inl lo, .inl hi] (Gk n tot kn kx) M (fun x M' => (k_mt rd (k_tk tp L k) = w → k_nb tp L (k + 1) lo hi = 0 → x = nI 1 ∧ MHr M M' ∧ MdT tp L rd M' (k + 2) ∧ M' 185 = upW (M 185) p (nI (k_vl tp L (k + 1))) ∧ M' 178 15 = M 178 15) ∧ (k_mt rd (k_tk tp L k) ≠ w → x = nI 0 ∧ MHr M M' ∧ FtM tp L 1 k M') ∧ (k_mt rd (k_tk tp L k) = w → k_nb tp L (k + 1) lo hi ≠ 0 → x = nI 0 ∧ MHr M M' ∧ FtM tp L (k_nb tp L (k + 1) lo hi) (k + 1) M')) :=
  Sq.mk (k := 10) hD (fun D' hD' => by
    refine Lq.of (t_170_0_ok X (callw X D') n tot kn kx _ _ _ _ M) ?_
    unfold t_170_0
    refine Wq.call (m_need hD' hx hrd hw h) ?_
    rintro x M2 ⟨g1, g2⟩
    by_cases e : k_mt rd (k_tk tp L k) = w
    · obtain ⟨rfl, f2, c2⟩ := g1 e
      rw [if_neg (by decide +kernel)]
      refine Wq.call (m_numb hD' hx hrd c2) ?_
      rintro y M3 ⟨g3, g4⟩
      by_cases hnb : k_nb tp L (k + 1) lo hi = 0
      · obtain ⟨rfl, f3, c3, v3⟩ := g3 hnb
        rw [if_neg (by decide +kernel), inb_nI hp (by decide), if_pos rfl, nI_clamp (by omega), v3, Wq_ret]
        refine ⟨fun _ _ => ⟨rfl, mhr_up ((MHr.of f2 (by decide)).tr (MHr.of f3 (by decide))), c3.ne (c := 185) (by decide), ?_, ?_⟩, fun hn => absurd e hn, fun _ hn => absurd hnb hn⟩
        · rw [up_at, f3.1 185 (by decide), f2.1 185 (by decide)]
        · rw [up_ne (by decide), f3.2 15 (by decide), f2.2 15 (by decide)]
      · obtain ⟨rfl, f3, t3⟩ := g4 hnb
        rw [if_pos (by rfl), Wq_ret]
        exact ⟨fun _ hn => absurd hn hnb, fun hn => absurd e hn, fun _ _ => ⟨rfl, (MHr.of f2 (by decide)).tr (MHr.of f3 (by decide)), t3⟩⟩
    · obtain ⟨rfl, f2, c2⟩ := g2 e
      rw [if_pos (by rfl), Wq_ret]
      exact ⟨fun hn => absurd hn e, fun _ => ⟨rfl, MHr.of f2 (by decide), c2⟩, fun hn => absurd hn e⟩)
abbrev RzK : Type := (Nat × Nat) ⊕ (Nat × WkT)
def CkQ (tp : Nat → Nat) (L ct : Nat) (M : MMw) (ws : List WkT) (r : RzK) (x : Int32) (M' : MMw) : Prop := match r with
  | .inl (a, i) => x = nI 0 ∧ CHr M M' ∧ FtC tp L a i M'
  | .inr (k', q) => x = nI 1 ∧ CHr M M' ∧ ClT tp L ct M' k' ∧ HlC M' (ws ++ [q])
def MkQ (tp : Nat → Nat) (L : Nat) (M : MMw) (ws : List WkT) (r : RzK) (F : MMw → Prop) (K : MMw → Prop) : Prop := match r with
  | .inl (a, i) => ∀ M', MHr M M' → FtM tp L a i M' → F M'
  | .inr (k', q) => ∀ M', MHr M M' → MdT tp L 2 M' k' → HlM M' (ws ++ [q]) → K M'
def GdK (ct k one : Nat) (r : RzK) : Prop := match r with
  | .inl _ => True
  | .inr (k', q) => k < k' ∧ k' ≤ ct ∧ one < 8 ∧ q.1 < 4 ∧ 1 ≤ q.2.1 ∧ q.2.1 ≤ 3 ∧ q.2.2 < 2 ^ one
abbrev LrR (X : KXw) (n tot kn : Nat) (kx : Nat → Nat × Nat) (D x : Nat) (M : MMw) (Q : Int32 → MMw → Prop) : Prop := Lq X (callw X D) 173 7 [some (.inr (.inl 178)), some (.inl (nI x))] (Gk n tot kn kx) M Q
theorem m_rowfail {tp : Nat → Nat} {L a i : Nat} {M0 : MMw} {v : Int32} (h : MHr M0 M) (t : FtM tp L a i M) {Q : Int32 → MMw → Prop} (hQ : ∀ M', MHr M0 M' → FtM tp L a i M' → Q (nI 0) M') : LrR X n tot kn kx D 0 (up M 178 15 v) Q := by
  refine Lq.of (t_173_7_ok X (callw X D) n tot kn kx _ _) ?_
  unfold t_173_7
  rw [if_pos (by rfl), if_pos nrw_0, Wq_ret]
  refine hQ _ (mhr_15 h) ⟨?_, ?_⟩
  · rw [up_at, upW_n (by decide)]; exact t.1
  · rw [up_at, upW_n (by decide)]; exact t.2
theorem J_work {tp : Nat → Nat} {L ct k one : Nat} (hx : TxP tp L ct) (hk : k ≤ ct) (h0 : k_tk tp L k ≠ 0) (h1 : one ≤ 8) : ∃ r : RzK,
    (∀ (D : Nat) (ws : List WkT) (M : MMw), 4 ≤ D → ClT tp L ct M k → HlC M ws → ws.length = one → Sq X D 136 [.inr (.inl 95)] (Gk n tot kn kx) M (CkQ tp L ct M ws r)) ∧
    (∀ (D : Nat) (ws : List WkT) (M : MMw) (Q : Int32 → MMw → Prop), 13 ≤ D → MdT tp L 2 M k → HlM M ws → ws.length = one → MkQ tp L M ws r (fun M' => Q (nI 0) M') (fun M' => LrR X n tot kn kx D 1 M' Q) → LrR X n tot kn kx D 1 M Q) ∧ GdK ct k one r := by
  have hct := hx.2.2.1
  have ht := hx.2.1
  have hkc := tx_lt hx hk h0
  have hb := tx_tk (k := k) hx
  have hmt := k_mt_lt 2 (by decide) _ hb
  obtain ⟨m119, _, _, _, m0⟩ := k_tR2 _ hb
  -- the reference comes to the first question
  have mdl0 : ∀ (D : Nat) (ws : List WkT) (M : MMw) (Q : Int32 → MMw → Prop), MdT tp L 2 M k → HlM M ws → ws.length = one → Wq X (callw X D) 173 (Gk n tot kn kx) Q (if nI (k_mt 2 (k_tk tp L k)) = nI 7 then (if nI one = nI 8 then (bnd (callw X D 157 [.inr (.inl 178), .inl (nI 3)] (Gk n tot kn kx) M) fun r1 _ M2 => (if nrw 1 r1 = r1 then some (.inl (r1, Gk n tot kn kx, M2)) else none)) else (bnd (callw X D 171 [.inr (.inl 178)] (Gk n tot kn kx) M) fun r3 _ M4 => (if r3 = (0 : Int32) then some (.inr (7, [some (.inr (.inl 178)), some (.inl r3)], [], (Gk n tot kn kx), (up M4 178 15 ((M4 178 15) + (nI 0))))) else some (.inr (7, [some (.inr (.inl 178)), some (.inl r3)], [], (Gk n tot kn kx), (up M4 178 15 ((M4 178 15) + (nI 1)))))))) else (bnd (callw X D 157 [.inr (.inl 178), .inl (nI 1)] (Gk n tot kn kx) M) fun r13 _ M14 => (if nrw 1 r13 = r13 then some (.inl (r13, Gk n tot kn kx, M14)) else none))) → LrR X n tot kn kx D 1 M Q := fun D ws M Q hM hH hl hK => by
    refine Lq.of (t_173_7_ok X (callw X D) n tot kn kx _ M) ?_
    unfold t_173_7
    simp only [o_nI]
    rw [if_neg (by decide +kernel), hM.2.2.2.1, if_neg (by rw [z_nI, eq_i (by omega) (by omega)]; exact fun e => h0 (m0.mp e)), hM.2.1, if_pos rfl, if_pos rfl, if_pos rfl, hH.1, hl]
    exact hK
  by_cases t119 : k_tk tp L k = 119
  · by_cases h8 : one = 8
    · refine ⟨.inl (3, k), fun D ws M hD hC hH hl => ?_, fun D ws M Q hD hM hH hl hQ => ?_, trivial⟩
      · refine Sq.mk (k := 3) hD (fun D' hD' => ?_)
        refine Lq.of (t_136_p95_0_ok X (callw X D') n tot kn kx M) ?_
        unfold t_136_p95_0
        simp only [o_nI]
        rw [hC.2.1, if_pos (by rw [t119]), hH.1, hl, if_neg (by rw [lt_i (by omega) (by omega)]; omega)]
        refine Wq.call (c_fail (by omega) hx hk hC) ?_
        rintro x M' ⟨rfl, g1, g2⟩
        rw [if_pos nrw_0, Wq_ret]
        exact ⟨rfl, CHr.of g1 (by decide), g2⟩
      · refine mdl0 D ws M Q hM hH hl ?_
        rw [if_pos (by rw [m119.mpr t119]), if_pos (by rw [h8])]
        refine Wq.call (m_bad (by omega) hM) ?_
        rintro x M' ⟨rfl, g1, g2⟩
        rw [if_pos nrw_0, Wq_ret]
        exact hQ M' (MHr.of g1 (by decide)) g2
    · have one8 : one < 8 := by omega
      -- the class after its first word
      have cls : ∀ (D : Nat) (ws : List WkT) (M : MMw) (Q : Int32 → MMw → Prop), 3 ≤ D → ClT tp L ct M k → HlC M ws → ws.length = one → (∀ M2, CHr M M2 → ClT tp L ct M2 (k + 1) → M2 106 = M 106 → M2 107 = M 107 → M2 108 = M 108 → M2 109 = M 109 → Wq X (callw X D) 136 (Gk n tot kn kx) Q (bnd (callw X D 128 [.inr (.inl 95), .inl (nI 0), .inl (nI 3)] (Gk n tot kn kx) M2) fun r3 _ M4 => (if r3 = (0 : Int32) then some (.inl (nI 0, Gk n tot kn kx, M4)) else (bnd (callw X D 130 [.inr (.inl 95), .inl (nI 120)] (Gk n tot kn kx) (up M4 107 one (M4 95 9))) fun r5 _ M6 => (if r5 = (0 : Int32) then some (.inl (nI 0, Gk n tot kn kx, M6)) else (bnd (callw X D 128 [.inr (.inl 95), .inl (nI 1), .inl (nI 3)] (Gk n tot kn kx) M6) fun r7 _ M8 => (if r7 = (0 : Int32) then some (.inl (nI 0, Gk n tot kn kx, M8)) else some (.inr (108, [some (.inr (.inl 95)), some (.inl (nI one)), some (.inl (nI 0))], [], (Gk n tot kn kx), (up (up M8 108 one (M8 95 9)) 109 one (nI 0)))))))))) ) → Sq X (D + 1) 136 [.inr (.inl 95)] (Gk n tot kn kx) M Q := fun D ws M Q hD hC hH hl hK => by
        refine Sq.of ?_
        refine Lq.of (t_136_p95_0_ok X (callw X D) n tot kn kx M) ?_
        unfold t_136_p95_0
        simp only [o_nI]
        rw [hC.2.1, if_pos (by rw [t119]), hH.1, hl, if_pos (by rw [lt_i (by omega) (by omega)]; omega)]
        refine Wq.call (c_adv (by omega) hx hkc hC) ?_
        rintro y M2 ⟨f2, c2⟩
        have hk0 := hK M2 (CHr.of f2 (by decide)) c2 (f2.1 106 (by decide)) (f2.1 107 (by decide)) (f2.1 108 (by decide)) (f2.1 109 (by decide))
        simp only [inb_nI one8 (show 8 < 2 ^ 31 by decide), if_true, nI_clamp (show one < 2 ^ 31 by omega)]
        exact hk0
      have mdl : ∀ (D : Nat) (ws : List WkT) (M : MMw) (Q : Int32 → MMw → Prop), 13 ≤ D → MdT tp L 2 M k → HlM M ws → ws.length = one → (∀ D', D = D' + 1 → Sq X (D' + 1) 171 [.inr (.inl 178)] (Gk n tot kn kx) M (fun r3 M4 => (r3 = nI 0 → LrR X n tot kn kx D 0 (up M4 178 15 ((M4 178 15) + (nI 0))) Q) ∧ (r3 = nI 1 → LrR X n tot kn kx D 1 (up M4 178 15 ((M4 178 15) + (nI 1))) Q) ∧ (r3 = nI 0 ∨ r3 = nI 1))) → LrR X n tot kn kx D 1 M Q := fun D ws M Q hD hM hH hl hK => by
        refine mdl0 D ws M Q hM hH hl ?_
        rw [if_pos (by rw [m119.mpr t119]), if_neg (by rw [eq_i (by omega) (by omega)]; exact h8)]
        obtain ⟨D', rfl⟩ : ∃ D', D = D' + 1 := ⟨D - 1, by omega⟩
        refine Wq.call (hK D' rfl) ?_
        rintro r3 M4 ⟨g1, g2, g3⟩
        rcases g3 with e | e
        · rw [if_pos (by rw [e]; rfl), Wq_jmp, e]; exact g1 e
        · rw [if_neg (by rw [e]; decide +kernel), Wq_jmp, e]; exact g2 e
      -- the two tellings of the reference
      have tell : ∀ (D : Nat) (ws : List WkT) (M : MMw) (Q : Int32 → MMw → Prop), 12 ≤ D → MdT tp L 2 M k → HlM M ws → ws.length = one →
          (k_nb tp L (k + 1) (nI 0) (nI 3) ≠ 0 → ∀ M', MHr M M' → FtM tp L (k_nb tp L (k + 1) (nI 0) (nI 3)) (k + 1) M' → Q (nI 0) M') →
          (k_nb tp L (k + 1) (nI 0) (nI 3) = 0 → k_tk tp L (k + 2) ≠ 120 → ∀ M', MHr M M' → FtM tp L 1 (k + 2) M' → Q (nI 0) M') →
          (k_nb tp L (k + 1) (nI 0) (nI 3) = 0 → k_tk tp L (k + 2) = 120 → k_nb tp L (k + 3) (nI 1) (nI 3) ≠ 0 → ∀ M', MHr M M' → FtM tp L (k_nb tp L (k + 3) (nI 1) (nI 3)) (k + 3) M' → Q (nI 0) M') →
          (k_nb tp L (k + 1) (nI 0) (nI 3) = 0 → k_tk tp L (k + 2) = 120 → k_nb tp L (k + 3) (nI 1) (nI 3) = 0 → ∀ M', MHr M M' → MdT tp L 2 M' (k + 4) → M' 185 = upW (upW (upW (M 185) (3 * one) (nI (k_vl tp L (k + 1)))) (3 * one + 1) (nI (k_vl tp L (k + 3)))) (3 * one + 2) (nI 0) → M' 178 15 = nI one → Lq X (callw X D) 171 46 [some (.inr (.inl 178)), some (.inl (nI (3 * one)))] (Gk n tot kn kx) M' Q) → Sq X (D + 1) 171 [.inr (.inl 178)] (Gk n tot kn kx) M Q := fun D ws M Q hD hM hH hl q1 q2 q3 q4 => by
        refine Sq.of ?_
        refine Lq.of (t_171_0_ok X (callw X D) n tot kn kx M) ?_
        unfold t_171_0
        simp only [o_nI]
        rw [hH.1, hl, nI_mul, nI_add, nI_add, nI_add, Nat.add_zero]
        have hb2 := tx_tk (k := k + 2) hx
        obtain ⟨_, m120, _⟩ := k_tR2 _ hb2
        refine Wq.call (m_told (by omega) hx (by decide) (show 3 * one < 100 by omega) (by decide) hM) ?_
        rintro x M2 ⟨g1, g2, g3⟩
        have e7 := m119.mpr t119
        by_cases n1 : k_nb tp L (k + 1) (nI 0) (nI 3) = 0
        · obtain ⟨rfl, f2, c2, e2, e15⟩ := g1 e7 n1
          rw [if_neg (by decide +kernel)]
          refine Wq.call (m_told (by omega) hx (by decide) (show 3 * one + 1 < 100 by omega) (by decide) c2) ?_
          rintro y M3 ⟨g4, g5, g6⟩
          by_cases t120 : k_tk tp L (k + 2) = 120
          · by_cases n2 : k_nb tp L (k + 3) (nI 1) (nI 3) = 0
            · obtain ⟨rfl, f3, c3, e3, e153⟩ := g4 (m120.mpr t120) n2
              rw [if_neg (by decide +kernel), inb_nI (show 3 * one + 2 < 100 by omega) (by decide), if_pos rfl, nI_clamp (by omega), Wq_jmp]
              exact q4 n1 t120 n2 _ (mhr_up (f2.tr f3)) (c3.ne (c := 185) (by decide)) (by rw [up_at, e3, e2]) (by rw [up_ne (by decide), e153, e15, hH.1, hl])
            · obtain ⟨rfl, f3, t3⟩ := g6 (m120.mpr t120) n2
              rw [if_pos (by rfl), Wq_ret]
              exact q3 n1 t120 n2 M3 (f2.tr f3) t3
          · obtain ⟨rfl, f3, t3⟩ := g5 (fun e => t120 (m120.mp e))
            rw [if_pos (by rfl), Wq_ret]
            exact q2 n1 t120 M3 (f2.tr f3) t3
        · obtain ⟨rfl, f2, t2⟩ := g3 e7 n1
          rw [if_pos (by rfl), Wq_ret]
          exact q1 n1 M2 f2 t2
      have ff : ∀ (D a i : Nat) (M M' : MMw) (Q : Int32 → MMw → Prop), MHr M M' → FtM tp L a i M' → (∀ M', MHr M M' → FtM tp L a i M' → Q (nI 0) M') → (nI 0 = nI 0 → LrR X n tot kn kx D 0 (up M' 178 15 ((M' 178 15) + (nI 0))) Q) ∧ (nI 0 = nI 1 → LrR X n tot kn kx D 1 (up M' 178 15 ((M' 178 15) + (nI 1))) Q) ∧ (nI 0 = nI 0 ∨ nI 0 = nI 1) := fun D a i M M' Q g1 g2 hQ => ⟨fun _ => m_rowfail g1 g2 hQ, fun e => absurd e (by decide +kernel), Or.inl rfl⟩
      by_cases n1 : k_nb tp L (k + 1) (nI 0) (nI 3) = 0
      · obtain ⟨t2, v1, v2⟩ := k_nb_t ht (by decide) (by decide) n1
        have hk1 := tx_lt hx (show k + 1 ≤ ct by omega) (by omega)
        by_cases t120 : k_tk tp L (k + 2) = 120
        · have hk2 := tx_lt hx (show k + 2 ≤ ct by omega) (by omega)
          by_cases n2 : k_nb tp L (k + 3) (nI 1) (nI 3) = 0
          · obtain ⟨t4, v3, v4⟩ := k_nb_t ht (by decide) (by decide) n2
            have hk3 := tx_lt hx (show k + 3 ≤ ct by omega) (by omega)
            obtain ⟨r, r1, r2, r3⟩ := J_after (X := X) (n := n) (tot := tot) (kn := kn) (kx := kx) hx one8 ct (k + 4) 0 (by omega) (by omega) (Nat.pow_pos (by decide))
            have cls2 : ∀ (D : Nat) (ws : List WkT) (M : MMw) (Q : Int32 → MMw → Prop), 3 ≤ D → ClT tp L ct M k → HlC M ws → ws.length = one → (∀ M8, CHr M M8 → ClT tp L ct M8 (k + 4) → M8 106 = M 106 → M8 107 = upW (M 107) one (nI (k_vl tp L (k + 1))) → M8 108 = upW (M 108) one (nI (k_vl tp L (k + 3))) → M8 109 = upW (M 109) one (nI 0) → Lq X (callw X D) 136 108 [some (.inr (.inl 95)), some (.inl (nI one)), some (.inl (nI 0))] (Gk n tot kn kx) M8 Q) → Sq X (D + 1) 136 [.inr (.inl 95)] (Gk n tot kn kx) M Q := fun D ws M Q hD hC hH hl hK => by
              refine cls D ws M Q hD hC hH hl (fun M2 f2 c2 e6 e7 e8 e9 => ?_)
              refine Wq.call (c_numb (by omega) hx (by omega) c2) ?_
              rintro y M3 ⟨g3, _⟩
              obtain ⟨rfl, f3, c3, w3⟩ := g3 n1
              rw [if_neg (by decide +kernel), w3]
              refine Wq.call (c_pass (by omega) hx (by omega) (by decide) (by decide) (c3.ne (c := 107) (by decide))) ?_
              rintro y M4 ⟨g4, _⟩
              obtain ⟨rfl, f4, c4⟩ := g4 t120
              rw [if_neg (by decide +kernel)]
              refine Wq.call (c_numb (by omega) hx (by omega) c4) ?_
              rintro y M5 ⟨g5, _⟩
              obtain ⟨rfl, f5, c5, w5⟩ := g5 n2
              rw [if_neg (by decide +kernel), w5, Wq_jmp]
              have fa : CHr M M5 := ((chr_up (c := 107) (k := one) (v := nI (k_vl tp L (k + 1))) (f2.tr (CHr.of f3 (by decide))) (by decide)).tr (CHr.of f4 (by decide))).tr (CHr.of f5 (by decide))
              refine hK _ (chr_up (chr_up fa (by decide)) (by decide)) ((c5.ne (c := 108) (by decide)).ne (c := 109) (by decide)) ?_ ?_ ?_ ?_
              · rw [up_ne (by decide), up_ne (by decide), f5.1 106 (by decide), f4.1 106 (by decide), up_ne (by decide), f3.1 106 (by decide), e6]
              · rw [up_ne (by decide), up_ne (by decide), f5.1 107 (by decide), f4.1 107 (by decide), up_at, f3.1 107 (by decide), e7]
              · rw [up_ne (by decide), up_at, f5.1 108 (by decide), f4.1 108 (by decide), up_ne (by decide), f3.1 108 (by decide), e8]
              · rw [up_at, up_ne (by decide), f5.1 109 (by decide), f4.1 109 (by decide), up_ne (by decide), f3.1 109 (by decide), e9]
            rcases r with ⟨a, i⟩ | ⟨k', m⟩
            · refine ⟨.inl (a, i), fun D ws M hD hC hH hl => ?_, fun D ws M Q hD hM hH hl hQ => ?_, trivial⟩
              · obtain ⟨D', rfl⟩ : ∃ D', D = D' + 1 := ⟨D - 1, by omega⟩
                refine cls2 D' ws M _ (by omega) hC hH hl (fun M8 f8 c8 e6 e7 e8 e9 => ?_)
                refine Lq.mono (r1 D' 0 M8 (by omega) c8 (by omega) (by rw [e6, hH.1, hl]) (by rw [e9, upW_s])) (fun x M' hq => ?_)
                obtain ⟨q1, q2, q3⟩ := hq
                exact ⟨q1, f8.tr q2, q3⟩
              · refine mdl D ws M Q hD hM hH hl (fun D' hD' => ?_)
                refine tell D' ws M _ (by omega) hM hH hl (fun hn => absurd n1 hn) (fun _ hn => absurd t120 hn) (fun _ _ hn => absurd n2 hn) (fun _ _ _ M' g1 g2 g3 g4 => ?_)
                refine Lq.mono (r2 D' M' (by omega) g2 g4 (by rw [g3, upW_s])) (fun x M'' hq => ?_)
                obtain ⟨rfl, q2, q3⟩ := hq
                exact ff D a i M M'' Q (g1.tr q2) q3 hQ
            · obtain ⟨d1, d2, d3⟩ := r3
              refine ⟨.inr (k', (k_vl tp L (k + 1), k_vl tp L (k + 3), m)), fun D ws M hD hC hH hl => ?_, fun D ws M Q hD hM hH hl hQ => ?_, by omega, d2, one8, by show k_vl tp L (k + 1) < 4; omega, v3, v4, d3⟩
              · obtain ⟨D', rfl⟩ : ∃ D', D = D' + 1 := ⟨D - 1, by omega⟩
                refine cls2 D' ws M _ (by omega) hC hH hl (fun M8 f8 c8 e6 e7 e8 e9 => ?_)
                refine Lq.mono (r1 D' 0 M8 (by omega) c8 (by omega) (by rw [e6, hH.1, hl]) (by rw [e9, upW_s])) (fun x M' hq => ?_)
                obtain ⟨q1, q2, q3, q4, q5, q6, q7, q8⟩ := hq
                refine ⟨q1, f8.tr q2, q3, by rw [q4, List.length_append, hl]; rfl, fun j p hp => ?_⟩
                rcases k_app_at hp with ⟨hlt, hp⟩ | ⟨rfl, rfl⟩
                · rw [q7, q8, q6 j (by omega), e7, e8, e9, upW_n (by omega), upW_n (by omega), upW_n (by omega)]
                  exact hH.2 j p hp
                · rw [q7, q8, hl, q5, e7, e8, upW_s, upW_s]
                  exact ⟨rfl, rfl, rfl⟩
              · refine mdl D ws M Q hD hM hH hl (fun D' hD' => ?_)
                refine tell D' ws M _ (by omega) hM hH hl (fun hn => absurd n1 hn) (fun _ hn => absurd t120 hn) (fun _ _ hn => absurd n2 hn) (fun _ _ _ M' g1 g2 g3 g4 => ?_)
                refine Lq.mono (r2 D' M' (by omega) g2 g4 (by rw [g3, upW_s])) (fun x M'' hq => ?_)
                obtain ⟨rfl, q2, q3, q4, q5, q6⟩ := hq
                refine ⟨fun e => absurd e (by decide +kernel), fun _ => ?_, Or.inr rfl⟩
                rw [q4, g4, nI_add]
                refine hQ _ (mhr_15 (g1.tr q2)) (mdt_15 q3) ⟨by rw [up_at, upW_s, List.length_append, hl]; rfl, fun j p hp => ?_⟩
                rw [up_ne (by decide)]
                rcases k_app_at hp with ⟨hlt, hp⟩ | ⟨rfl, rfl⟩
                · rw [q6 (3 * j) (by omega), q6 (3 * j + 1) (by omega), q6 (3 * j + 2) (by omega), g3]
                  rw [upW_n (show 3 * j ≠ 3 * one + 2 by omega), upW_n (show 3 * j ≠ 3 * one + 1 by omega), upW_n (show 3 * j ≠ 3 * one by omega), upW_n (show 3 * j + 1 ≠ 3 * one + 2 by omega), upW_n (show 3 * j + 1 ≠ 3 * one + 1 by omega), upW_n (show 3 * j + 1 ≠ 3 * one by omega), upW_n (show 3 * j + 2 ≠ 3 * one + 2 by omega), upW_n (show 3 * j + 2 ≠ 3 * one + 1 by omega), upW_n (show 3 * j + 2 ≠ 3 * one by omega)]
                  exact hH.2 j p hp
                · rw [hl, q5, q6 (3 * one) (by omega), q6 (3 * one + 1) (by omega), g3, upW_n (show 3 * one ≠ 3 * one + 2 by omega), upW_n (show 3 * one ≠ 3 * one + 1 by omega), upW_s, upW_n (show 3 * one + 1 ≠ 3 * one + 2 by omega), upW_s]
                  exact ⟨rfl, rfl, rfl⟩
          · refine ⟨.inl (k_nb tp L (k + 3) (nI 1) (nI 3), k + 3), fun D ws M hD hC hH hl => ?_, fun D ws M Q hD hM hH hl hQ => ?_, trivial⟩
            · obtain ⟨D', rfl⟩ : ∃ D', D = D' + 1 := ⟨D - 1, by omega⟩
              refine cls D' ws M _ (by omega) hC hH hl (fun M2 f2 c2 e6 e7 e8 e9 => ?_)
              refine Wq.call (c_numb (by omega) hx (by omega) c2) ?_
              rintro y M3 ⟨g3, _⟩
              obtain ⟨rfl, f3, c3, w3⟩ := g3 n1
              rw [if_neg (by decide +kernel)]
              refine Wq.call (c_pass (by omega) hx (by omega) (by decide) (by decide) (c3.ne (c := 107) (by decide))) ?_
              rintro y M4 ⟨g4, _⟩
              obtain ⟨rfl, f4, c4⟩ := g4 t120
              rw [if_neg (by decide +kernel)]
              refine Wq.call (c_numb (by omega) hx (by omega) c4) ?_
              rintro y M5 ⟨_, g5⟩
              obtain ⟨rfl, f5, t5⟩ := g5 n2
              rw [if_pos (by rfl), Wq_ret]
              exact ⟨rfl, ((chr_up (f2.tr (CHr.of f3 (by decide))) (by decide)).tr (CHr.of f4 (by decide))).tr (CHr.of f5 (by decide)), t5⟩
            · refine mdl D ws M Q hD hM hH hl (fun D' hD' => ?_)
              exact tell D' ws M _ (by omega) hM hH hl (fun hn => absurd n1 hn) (fun _ hn => absurd t120 hn) (fun _ _ hn M' g1 g2 => ff D _ _ M M' Q g1 g2 hQ) (fun _ _ hn => absurd hn n2)
        · refine ⟨.inl (1, k + 2), fun D ws M hD hC hH hl => ?_, fun D ws M Q hD hM hH hl hQ => ?_, trivial⟩
          · obtain ⟨D', rfl⟩ : ∃ D', D = D' + 1 := ⟨D - 1, by omega⟩
            refine cls D' ws M _ (by omega) hC hH hl (fun M2 f2 c2 e6 e7 e8 e9 => ?_)
            refine Wq.call (c_numb (by omega) hx (by omega) c2) ?_
            rintro y M3 ⟨g3, _⟩
            obtain ⟨rfl, f3, c3, w3⟩ := g3 n1
            rw [if_neg (by decide +kernel)]
            refine Wq.call (c_pass (by omega) hx (by omega) (by decide) (by decide) (c3.ne (c := 107) (by decide))) ?_
            rintro y M4 ⟨_, g4⟩
            obtain ⟨rfl, f4, t4⟩ := g4 t120
            rw [if_pos (by rfl), Wq_ret]
            exact ⟨rfl, (chr_up (f2.tr (CHr.of f3 (by decide))) (by decide)).tr (CHr.of f4 (by decide)), t4⟩
          · refine mdl D ws M Q hD hM hH hl (fun D' hD' => ?_)
            exact tell D' ws M _ (by omega) hM hH hl (fun hn => absurd n1 hn) (fun _ hn M' g1 g2 => ff D _ _ M M' Q g1 g2 hQ) (fun _ hn => absurd hn t120) (fun _ hn => absurd hn t120)
      · refine ⟨.inl (k_nb tp L (k + 1) (nI 0) (nI 3), k + 1), fun D ws M hD hC hH hl => ?_, fun D ws M Q hD hM hH hl hQ => ?_, trivial⟩
        · obtain ⟨D', rfl⟩ : ∃ D', D = D' + 1 := ⟨D - 1, by omega⟩
          refine cls D' ws M _ (by omega) hC hH hl (fun M2 f2 c2 e6 e7 e8 e9 => ?_)
          refine Wq.call (c_numb (by omega) hx (by omega) c2) ?_
          rintro y M3 ⟨_, g3⟩
          obtain ⟨rfl, f3, t3⟩ := g3 n1
          rw [if_pos (by rfl), Wq_ret]
          exact ⟨rfl, f2.tr (CHr.of f3 (by decide)), t3⟩
        · refine mdl D ws M Q hD hM hH hl (fun D' hD' => ?_)
          exact tell D' ws M _ (by omega) hM hH hl (fun hn M' g1 g2 => ff D _ _ M M' Q g1 g2 hQ) (fun hn => absurd hn n1) (fun hn => absurd hn n1) (fun hn => absurd hn n1)
  · refine ⟨.inl (1, k), fun D ws M hD hC hH hl => ?_, fun D ws M Q hD hM hH hl hQ => ?_, trivial⟩
    · refine Sq.mk (k := 3) hD (fun D' hD' => ?_)
      refine Lq.of (t_136_p95_0_ok X (callw X D') n tot kn kx M) ?_
      unfold t_136_p95_0
      simp only [o_nI]
      rw [hC.2.1, if_neg (by rw [eq_i (by omega) (by omega)]; exact t119)]
      refine Wq.call (c_fail (by omega) hx hk hC) ?_
      rintro x M' ⟨rfl, g1, g2⟩
      rw [if_pos nrw_0, Wq_ret]
      exact ⟨rfl, CHr.of g1 (by decide), g2⟩
    · refine mdl0 D ws M Q hM hH hl ?_
      rw [if_neg (by rw [eq_i (by omega) (by omega)]; exact fun e => t119 (m119.mp e))]
      refine Wq.call (m_bad (by omega) hM) ?_
      rintro x M' ⟨rfl, g1, g2⟩
      rw [if_pos nrw_0, Wq_ret]
      exact hQ M' (MHr.of g1 (by decide)) g2
end
