section
-- needs: rota
/-! all lines of a rota -/
variable {X : KXw} {n tot kn D : Nat} {kx : Nat → Nat × Nat} {M : MMw}
theorem k_du_ok {tp : Nat → Nat} {L ct k T N W k' : Nat} {q : DuT} (hx : TxP tp L ct) (hT : T < 2 ^ 31) (hN : N < 2 ^ 31) (hW : W < 2 ^ 31) (hk : k ≤ ct) (h : k_du tp L k T N W = .inr (k', q)) : k' = k + 11 ∧ k' ≤ ct ∧ q.1 < T ∧ q.2.1 < N ∧ q.2.2.1 < W ∧ q.2.2.2.1 ≤ 9999 ∧ 1 ≤ q.2.2.2.2 ∧ q.2.2.2.2 ≤ 99 := by
  have ht := hx.2.1
  unfold k_du at h
  by_cases n1 : k_nb tp L (k + 1) (nI 0) (nI T - nI 1) = 0
  case neg => rw [if_neg n1] at h; cases h
  rw [if_pos n1] at h
  by_cases t2 : k_tk tp L (k + 2) = 123
  case neg => rw [if_neg t2] at h; cases h
  rw [if_pos t2] at h
  by_cases n3 : k_nb tp L (k + 3) (nI 0) (nI N - nI 1) = 0
  case neg => rw [if_neg n3] at h; cases h
  rw [if_pos n3] at h
  by_cases t4 : k_tk tp L (k + 4) = 119
  case neg => rw [if_neg t4] at h; cases h
  rw [if_pos t4] at h
  by_cases n5 : k_nb tp L (k + 5) (nI 0) (nI W - nI 1) = 0
  case neg => rw [if_neg n5] at h; cases h
  rw [if_pos n5] at h
  by_cases t6 : k_tk tp L (k + 6) = 124
  case neg => rw [if_neg t6] at h; cases h
  rw [if_pos t6] at h
  by_cases n7 : k_nb tp L (k + 7) (nI 0) (nI 9999) = 0
  case neg => rw [if_neg n7] at h; cases h
  rw [if_pos n7] at h
  by_cases t8 : k_tk tp L (k + 8) = 125
  case neg => rw [if_neg t8] at h; cases h
  rw [if_pos t8] at h
  by_cases n9 : k_nb tp L (k + 9) (nI 1) (nI 99) = 0
  case neg => rw [if_neg n9] at h; cases h
  rw [if_pos n9] at h
  by_cases t10 : k_tk tp L (k + 10) = 59
  case neg => rw [if_neg t10] at h; cases h
  rw [if_pos t10] at h
  cases h
  obtain ⟨u1, v1⟩ := k_nb_s ht hT n1
  obtain ⟨u3, v3⟩ := k_nb_s ht hN n3
  obtain ⟨u5, v5⟩ := k_nb_s ht hW n5
  obtain ⟨u7, _, v7⟩ := k_nb_t ht (by decide) (by decide) n7
  obtain ⟨u9, w9, v9⟩ := k_nb_t ht (by decide) (by decide) n9
  have lt : ∀ j, k + j ≤ ct → k_tk tp L (k + j) ≠ 0 → k + (j + 1) ≤ ct := fun j h1 h2 => by have := tx_lt hx h1 h2; omega
  by_cases t0 : k_tk tp L k = 0
  · -- behind the end there is no number
    exfalso
    have e0 : k_pl tp L k = L := (k_tk_n ht).mp t0
    have e1 : k_pl tp L (k + 1) = L := by rw [k_pl, if_neg (by omega), e0]
    have := (k_tk_n ht).mpr e1
    omega
  have b1 := lt 0 hk t0
  have b2 := lt 1 b1 (by omega)
  have b3 := lt 2 b2 (by omega)
  have b4 := lt 3 b3 (by omega)
  have b5 := lt 4 b4 (by omega)
  have b6 := lt 5 b5 (by omega)
  have b7 := lt 6 b6 (by omega)
  have b8 := lt 7 b7 (by omega)
  have b9 := lt 8 b8 (by omega)
  have b10 := lt 9 b9 (by omega)
  have b11 := lt 10 b10 (by omega)
  exact ⟨rfl, b11, v1, v3, v5, v7, w9, v9⟩
def CrQ (tp : Nat → Nat) (L : Nat) (M : MMw) (rs : List DuT) (r : (Nat × Nat) ⊕ List DuT) (x : Int32) (M' : MMw) : Prop := match r with
  | .inl (a, i) => x = nI 0 ∧ CRr M M' ∧ FtC tp L a i M'
  | .inr rx => x = nI 1 ∧ CRr M M' ∧ RtC M' (rs ++ rx) ∧ M' 95 2 = nI 0 ∧ M' 95 3 = -1
def MrQ (tp : Nat → Nat) (L : Nat) (M : MMw) (rs : List DuT) (r : (Nat × Nat) ⊕ List DuT) (x : Int32) (M' : MMw) : Prop := match r with
  | .inl (a, i) => x = nI 0 ∧ MHr M M' ∧ FtM tp L a i M'
  | .inr rx => x = nI 1 ∧ MHr M M' ∧ RtM M' (rs ++ rx)
def GdR (T N W one : Nat) (r : (Nat × Nat) ⊕ List DuT) : Prop := match r with
  | .inl _ => True
  | .inr rx => one + rx.length ≤ 20 ∧ ∀ (j : Nat) (q : DuT), rx[j]? = some q → q.1 < T ∧ q.2.1 < N ∧ q.2.2.1 < W ∧ q.2.2.2.1 ≤ 9999 ∧ 1 ≤ q.2.2.2.2 ∧ q.2.2.2.2 ≤ 99
theorem J_rota {tp : Nat → Nat} {L ct T N W : Nat} (hx : TxP tp L ct) (hT : T < 2 ^ 31) (hN : N < 2 ^ 31) (hW : W < 2 ^ 31) : ∀ (c k one : Nat), ct ≤ k + c → k ≤ ct → one ≤ 20 → ∃ r : (Nat × Nat) ⊕ List DuT,
    (∀ (D : Nat) (rs : List DuT) (M : MMw), 4 ≤ D → ClT tp L ct M k → NmC M T N W → RtC M rs → rs.length = one → Lq X (callw X D) 143 10 [some (.inr (.inl 95)), some (.inr (.inl 1)), some (.inl (nI one))] (Gk n tot kn kx) M (CrQ tp L M rs r)) ∧
    (∀ (D : Nat) (rs : List DuT) (M : MMw), 13 ≤ D → MdT tp L 3 M k → NmM M T N W → RtM M rs → rs.length = one → LrR X n tot kn kx D 1 M (MrQ tp L M rs r)) ∧ GdR T N W one r := by
  have stop : ∀ (k one : Nat), k_tk tp L k = 0 → one ≤ 20 → (∀ (D : Nat) (rs : List DuT) (M : MMw), 4 ≤ D → ClT tp L ct M k → NmC M T N W → RtC M rs → rs.length = one → Lq X (callw X D) 143 10 [some (.inr (.inl 95)), some (.inr (.inl 1)), some (.inl (nI one))] (Gk n tot kn kx) M (CrQ tp L M rs (.inr []))) ∧
    (∀ (D : Nat) (rs : List DuT) (M : MMw), 13 ≤ D → MdT tp L 3 M k → NmM M T N W → RtM M rs → rs.length = one → LrR X n tot kn kx D 1 M (MrQ tp L M rs (.inr []))) ∧ GdR T N W one (.inr []) := fun k one t0 h1 => by
    refine ⟨fun D rs M hD hC hn hR hl => ?_, fun D rs M hD hM hn hR hl => ?_, h1, fun j q hq => by cases hq⟩
    · refine Lq.of (t_143_p95_p1_10_ok X (callw X D) n tot kn kx _ M) ?_
      unfold t_143_p95_p1_10
      simp only [o_nI]
      rw [hC.2.1, t0, if_neg (by rw [lt_i (by omega) (by omega)]; omega), if_pos (by rfl), Wq_ret]
      exact ⟨rfl, CRr.rf, by rw [List.append_nil]; exact hR, hC.1.2⟩
    · refine Lq.of (t_173_7_ok X (callw X D) n tot kn kx _ M) ?_
      unfold t_173_7
      rw [if_neg (by decide +kernel), hM.2.2.2.1, t0, if_pos (by rfl), if_pos nrw_1, Wq_ret]
      exact ⟨rfl, MHr.rf, by rw [List.append_nil]; exact hR⟩
  intro c
  induction c with
  | zero =>
    intro k one hc hk h1
    have e0 : k_tk tp L k = 0 := by rw [show k = ct by omega]; exact tx_end hx
    exact ⟨_, stop k one e0 h1⟩
  | succ c ih =>
    intro k one hc hk h1
    by_cases t0 : k_tk tp L k = 0
    · exact ⟨_, stop k one t0 h1⟩
    · have hb := tx_tk (k := k) hx
      have hmt := k_mt_lt 3 (by decide) _ hb
      obtain ⟨m122, _, _, _, _⟩ := k_tR3 _ hb
      obtain ⟨_, m0⟩ := k_tR3b _ hb
      have cls : ∀ (D : Nat) (M : MMw) (Q : Int32 → MMw → Prop), ClT tp L ct M k → Wq X (callw X D) 143 (Gk n tot kn kx) Q (bnd (callw X D 142 [.inr (.inl 95), .inr (.inl 1)] (Gk n tot kn kx) M) fun r1 _ M2 => (if r1 = (0 : Int32) then some (.inl (nI 0, Gk n tot kn kx, M2)) else some (.inr (10, [some (.inr (.inl 95)), some (.inr (.inl 1)), some (.inl (nI (one + 1)))], [], (Gk n tot kn kx), M2)))) → Lq X (callw X D) 143 10 [some (.inr (.inl 95)), some (.inr (.inl 1)), some (.inl (nI one))] (Gk n tot kn kx) M Q := fun D M Q hC hK => by
        refine Lq.of (t_143_p95_p1_10_ok X (callw X D) n tot kn kx _ M) ?_
        unfold t_143_p95_p1_10
        simp only [o_nI]
        rw [hC.2.1, if_neg (by rw [lt_i (by omega) (by omega)]; omega), if_neg (by rw [z_nI, eq_i (by omega) (by omega)]; exact t0), i1_nI, nI_add]
        exact hK
      have mdl : ∀ (D : Nat) (rs : List DuT) (M : MMw) (Q : Int32 → MMw → Prop), MdT tp L 3 M k → RtM M rs → rs.length = one → Wq X (callw X D) 173 (Gk n tot kn kx) Q (if nI (k_mt 3 (k_tk tp L k)) = nI 10 then (if nI one = nI 20 then (bnd (callw X D 157 [.inr (.inl 178), .inl (nI 3)] (Gk n tot kn kx) M) fun r1 _ M2 => (if nrw 1 r1 = r1 then some (.inl (r1, Gk n tot kn kx, M2)) else none)) else (bnd (callw X D 172 [.inr (.inl 178)] (Gk n tot kn kx) M) fun r3 _ M4 => (if r3 = (0 : Int32) then some (.inr (7, [some (.inr (.inl 178)), some (.inl r3)], [], (Gk n tot kn kx), (up M4 178 15 ((M4 178 15) + (nI 0))))) else some (.inr (7, [some (.inr (.inl 178)), some (.inl r3)], [], (Gk n tot kn kx), (up M4 178 15 ((M4 178 15) + (nI 1)))))))) else (bnd (callw X D 157 [.inr (.inl 178), .inl (nI 1)] (Gk n tot kn kx) M) fun r13 _ M14 => (if nrw 1 r13 = r13 then some (.inl (r13, Gk n tot kn kx, M14)) else none))) → LrR X n tot kn kx D 1 M Q := fun D rs M Q hM hR hl hK => by
        refine Lq.of (t_173_7_ok X (callw X D) n tot kn kx _ M) ?_
        unfold t_173_7
        simp only [o_nI]
        rw [if_neg (by decide +kernel), hM.2.2.2.1, if_neg (by rw [z_nI, eq_i (by omega) (by omega)]; exact fun e => t0 (m0.mp e)), hM.2.1, if_neg (show ¬ nI 3 = nI 2 by decide +kernel), if_neg (show ¬ nI 3 = nI 2 by decide +kernel), if_neg (show ¬ nI 3 = nI 2 by decide +kernel), hR.1, hl]
        exact hK
      by_cases t122 : k_tk tp L k = 122
      · by_cases h20 : one = 20
        · refine ⟨.inl (3, k), fun D rs M hD hC hn hR hl => ?_, fun D rs M hD hM hn hR hl => ?_, trivial⟩
          · refine cls D M _ hC ?_
            refine Wq.call (Q1 := fun x M' => x = nI 0 ∧ CRr M M' ∧ FtC tp L 3 k M') (Sq.mk (k := 3) hD (fun D' hD' => ?_)) ?_
            · refine Lq.of (t_142_p95_p1_0_ok X (callw X D') n tot kn kx M) ?_
              unfold t_142_p95_p1_0
              simp only [o_nI]
              rw [hC.2.1, if_pos (by rw [t122]), hR.1, hl, if_neg (by rw [lt_i (by omega) (by omega)]; omega)]
              refine Wq.call (c_fail (by omega) hx hk hC) ?_
              rintro x M' ⟨rfl, g1, g2⟩
              rw [if_pos nrw_0, Wq_ret]
              exact ⟨rfl, CRr.of g1 (by decide), g2⟩
            · rintro x M' ⟨rfl, g1, g2⟩
              rw [if_pos (by rfl), Wq_ret]
              exact ⟨rfl, g1, g2⟩
          · refine mdl D rs M _ hM hR hl ?_
            rw [if_pos (by rw [m122.mpr t122]), if_pos (by rw [h20])]
            refine Wq.call (m_bad (by omega) hM) ?_
            rintro x M' ⟨rfl, g1, g2⟩
            rw [if_pos nrw_0, Wq_ret]
            exact ⟨rfl, MHr.of g1 (by decide), g2⟩
        · have one20 : one < 20 := by omega
          cases hdu : k_du tp L k T N W with
          | inl e =>
            obtain ⟨a, i⟩ := e
            refine ⟨.inl (a, i), fun D rs M hD hC hn hR hl => ?_, fun D rs M hD hM hn hR hl => ?_, trivial⟩
            · refine cls D M _ hC ?_
              refine Wq.call (c_duty hD hx hk t122 one20 hC hn hR hl) ?_
              rw [hdu]
              rintro x M' ⟨rfl, g1, g2⟩
              rw [if_pos (by rfl), Wq_ret]
              exact ⟨rfl, g1, g2⟩
            · refine mdl D rs M _ hM hR hl ?_
              rw [if_pos (by rw [m122.mpr t122]), if_neg (by rw [eq_i (by omega) (by omega)]; exact h20)]
              refine Wq.call (m_duty (by omega) hx t122 one20 hM hn hR hl) ?_
              rw [hdu]
              rintro x M' ⟨rfl, g1, g2⟩
              rw [if_pos (by rfl), Wq_jmp]
              exact m_rowfail g1 g2 (fun M'' h1 h2 => ⟨rfl, h1, h2⟩)
          | inr e =>
            obtain ⟨k', q⟩ := e
            obtain ⟨b1, b2, b3⟩ := k_du_ok hx hT hN hW hk hdu
            obtain ⟨r2, c1, c2, c3⟩ := ih k' (one + 1) (by omega) b2 (by omega)
            obtain ⟨r, hr⟩ : ∃ r : (Nat × Nat) ⊕ List DuT, r = (match r2 with | .inl e => .inl e | .inr rx => .inr (q :: rx)) := ⟨_, rfl⟩
            refine ⟨r, fun D rs M hD hC hn hR hl => ?_, fun D rs M hD hM hn hR hl => ?_, ?_⟩
            · refine cls D M _ hC ?_
              refine Wq.call (c_duty hD hx hk t122 one20 hC hn hR hl) ?_
              rw [hdu]
              rintro x M' ⟨rfl, g1, g2, g3⟩
              rw [if_neg (by decide +kernel), Wq_jmp]
              refine Lq.mono (c1 D (rs ++ [q]) M' hD g2 (hn.fr g1) g3 (by rw [List.length_append, hl]; rfl)) (fun x M'' hq => ?_)
              rw [hr]
              rcases r2 with ⟨a, i⟩ | rx
              · obtain ⟨q1, q2, q3⟩ := hq
                exact ⟨q1, g1.tr q2, q3⟩
              · obtain ⟨q1, q2, q3, q4⟩ := hq
                exact ⟨q1, g1.tr q2, by rw [List.append_assoc] at q3; exact q3, q4⟩
            · refine mdl D rs M _ hM hR hl ?_
              rw [if_pos (by rw [m122.mpr t122]), if_neg (by rw [eq_i (by omega) (by omega)]; exact h20)]
              refine Wq.call (m_duty (by omega) hx t122 one20 hM hn hR hl) ?_
              rw [hdu]
              rintro x M' ⟨rfl, g1, g2, g3, g4⟩
              rw [if_neg (by decide +kernel), Wq_jmp, g3, hR.1, nI_add]
              refine Lq.mono (c2 D (rs ++ [q]) _ hD (mdt_15 g2) ((hn.fr g1).fr (mhr_15 MHr.rf)) g4 (by rw [List.length_append, hl]; rfl)) (fun x M'' hq => ?_)
              rw [hr]
              rcases r2 with ⟨a, i⟩ | rx
              · obtain ⟨q1, q2, q3⟩ := hq
                exact ⟨q1, (mhr_15 g1).tr q2, q3⟩
              · obtain ⟨q1, q2, q3⟩ := hq
                exact ⟨q1, (mhr_15 g1).tr q2, by rw [List.append_assoc] at q3; exact q3⟩
            · rw [hr]
              rcases r2 with ⟨a, i⟩ | rx
              · trivial
              · obtain ⟨d1, d2⟩ := c3
                refine ⟨by rw [List.length_cons]; omega, fun j p hp => ?_⟩
                cases j with
                | zero =>
                  cases hp
                  exact b3
                | succ j => exact d2 j p hp
      · refine ⟨.inl (1, k), fun D rs M hD hC hn hR hl => ?_, fun D rs M hD hM hn hR hl => ?_, trivial⟩
        · refine cls D M _ hC ?_
          refine Wq.call (Q1 := fun x M' => x = nI 0 ∧ CRr M M' ∧ FtC tp L 1 k M') (Sq.mk (k := 3) hD (fun D' hD' => ?_)) ?_
          · refine Lq.of (t_142_p95_p1_0_ok X (callw X D') n tot kn kx M) ?_
            unfold t_142_p95_p1_0
            simp only [o_nI]
            rw [hC.2.1, if_neg (by rw [eq_i (by omega) (by omega)]; exact t122)]
            refine Wq.call (c_fail (by omega) hx hk hC) ?_
            rintro x M' ⟨rfl, g1, g2⟩
            rw [if_pos nrw_0, Wq_ret]
            exact ⟨rfl, CRr.of g1 (by decide), g2⟩
          · rintro x M' ⟨rfl, g1, g2⟩
            rw [if_pos (by rfl), Wq_ret]
            exact ⟨rfl, g1, g2⟩
        · refine mdl D rs M _ hM hR hl ?_
          rw [if_neg (by rw [eq_i (by omega) (by omega)]; exact fun e => t122 (m122.mp e))]
          refine Wq.call (m_bad (by omega) hM) ?_
          rintro x M' ⟨rfl, g1, g2⟩
          rw [if_pos nrw_0, Wq_ret]
          exact ⟨rfl, MHr.of g1 (by decide), g2⟩
end
