section
-- needs: image
/-! undo, seen -/
variable {X : KXw} {n tot kn D : Nat} {kx : Nat → Nat × Nat} {M : MMw}
/-- one goes back, on the class's side -/
def UnP (M : MMw) (b p : Nat) (M' : MMw) : Prop := M' 0 = upW (upW (M 0) 6 (nI ((p + 5) % 6))) 5 (nI (b - 1)) ∧ (∀ W, CRm M (136 + 7 * ((p + 5) % 6)) W → CRm M' 10 W) ∧ Fr [0, 10, 11, 12, 13, 14, 15, 16] M M'
set_option maxHeartbeats 4000000 in
theorem c_undo (hD : 4 ≤ D) {b p : Nat} (hb : b ≤ 6) (hb0 : 0 < b) (hp : p < 6) (h5 : M 0 5 = nI b) (h6 : M 0 6 = nI p) : Sq X D 304 [.inr (.inl 0)] (Gk n tot kn kx) M (fun x M' => x = nI 1 ∧ UnP M b p M') :=
  Sq.mk (k := 3) hD (fun D' hD' => by
    refine Lq.of (t_304_0_ok X (callw X D') n tot kn kx M) ?_
    unfold t_304_0
    rw [h5, if_neg (by rw [z_nI, eq_i (by omega) (by omega)]; omega)]
    have h3 : p = 0 ∨ p = 1 ∨ p = 2 ∨ p = 3 ∨ p = 4 ∨ p = 5 := by omega
    rcases h3 with rfl | rfl | rfl | rfl | rfl | rfl
    · have er : nI 0 + nI 6 - nI 1 - (nI 0 + nI 6 - nI 1) / nI 6 * nI 6 = nI 5 := by decide +kernel
      simp only [o_nI, h6, er]
      have e6 : up (up M 0 6 (nI 5)) 0 5 (up M 0 6 (nI 5) 0 5 - nI 1) 0 6 = nI 5 := by rw [up_at, upW_n (by decide), up_at, upW_s]
      rw [e6, inb_nI (by decide) (by decide), if_pos rfl, nI_clamp (by decide), show (Gk n tot kn kx).2.2.2 94 5 = 171 + 1 from rfl]
      dsimp only
      refine Wq.call (c_mcopy_10_171 hD') ?_
      rintro x M1 ⟨hf, hlo, hc⟩
      rw [Wq_ret]
      refine ⟨rfl, ?_, fun W hW => ?_, ((Fr.rf.up (by decide)).up (by decide)).tr (hf.mono (by decide))⟩
      · rw [hf 0 (by decide), up_at, up_at, upW_n (by decide), h5, nI_sub (by omega)]
      · exact hc W (hW.fr (L := [0]) ((Fr.rf.up (by decide)).up (by decide)) (by decide))
    · have er : nI 1 + nI 6 - nI 1 - (nI 1 + nI 6 - nI 1) / nI 6 * nI 6 = nI 0 := by decide +kernel
      simp only [o_nI, h6, er]
      have e6 : up (up M 0 6 (nI 0)) 0 5 (up M 0 6 (nI 0) 0 5 - nI 1) 0 6 = nI 0 := by rw [up_at, upW_n (by decide), up_at, upW_s]
      rw [e6, inb_nI (by decide) (by decide), if_pos rfl, nI_clamp (by decide), show (Gk n tot kn kx).2.2.2 94 0 = 136 + 1 from rfl]
      dsimp only
      refine Wq.call (c_mcopy_10_136 hD') ?_
      rintro x M1 ⟨hf, hlo, hc⟩
      rw [Wq_ret]
      refine ⟨rfl, ?_, fun W hW => ?_, ((Fr.rf.up (by decide)).up (by decide)).tr (hf.mono (by decide))⟩
      · rw [hf 0 (by decide), up_at, up_at, upW_n (by decide), h5, nI_sub (by omega)]
      · exact hc W (hW.fr (L := [0]) ((Fr.rf.up (by decide)).up (by decide)) (by decide))
    · have er : nI 2 + nI 6 - nI 1 - (nI 2 + nI 6 - nI 1) / nI 6 * nI 6 = nI 1 := by decide +kernel
      simp only [o_nI, h6, er]
      have e6 : up (up M 0 6 (nI 1)) 0 5 (up M 0 6 (nI 1) 0 5 - nI 1) 0 6 = nI 1 := by rw [up_at, upW_n (by decide), up_at, upW_s]
      rw [e6, inb_nI (by decide) (by decide), if_pos rfl, nI_clamp (by decide), show (Gk n tot kn kx).2.2.2 94 1 = 143 + 1 from rfl]
      dsimp only
      refine Wq.call (c_mcopy_10_143 hD') ?_
      rintro x M1 ⟨hf, hlo, hc⟩
      rw [Wq_ret]
      refine ⟨rfl, ?_, fun W hW => ?_, ((Fr.rf.up (by decide)).up (by decide)).tr (hf.mono (by decide))⟩
      · rw [hf 0 (by decide), up_at, up_at, upW_n (by decide), h5, nI_sub (by omega)]
      · exact hc W (hW.fr (L := [0]) ((Fr.rf.up (by decide)).up (by decide)) (by decide))
    · have er : nI 3 + nI 6 - nI 1 - (nI 3 + nI 6 - nI 1) / nI 6 * nI 6 = nI 2 := by decide +kernel
      simp only [o_nI, h6, er]
      have e6 : up (up M 0 6 (nI 2)) 0 5 (up M 0 6 (nI 2) 0 5 - nI 1) 0 6 = nI 2 := by rw [up_at, upW_n (by decide), up_at, upW_s]
      rw [e6, inb_nI (by decide) (by decide), if_pos rfl, nI_clamp (by decide), show (Gk n tot kn kx).2.2.2 94 2 = 150 + 1 from rfl]
      dsimp only
      refine Wq.call (c_mcopy_10_150 hD') ?_
      rintro x M1 ⟨hf, hlo, hc⟩
      rw [Wq_ret]
      refine ⟨rfl, ?_, fun W hW => ?_, ((Fr.rf.up (by decide)).up (by decide)).tr (hf.mono (by decide))⟩
      · rw [hf 0 (by decide), up_at, up_at, upW_n (by decide), h5, nI_sub (by omega)]
      · exact hc W (hW.fr (L := [0]) ((Fr.rf.up (by decide)).up (by decide)) (by decide))
    · have er : nI 4 + nI 6 - nI 1 - (nI 4 + nI 6 - nI 1) / nI 6 * nI 6 = nI 3 := by decide +kernel
      simp only [o_nI, h6, er]
      have e6 : up (up M 0 6 (nI 3)) 0 5 (up M 0 6 (nI 3) 0 5 - nI 1) 0 6 = nI 3 := by rw [up_at, upW_n (by decide), up_at, upW_s]
      rw [e6, inb_nI (by decide) (by decide), if_pos rfl, nI_clamp (by decide), show (Gk n tot kn kx).2.2.2 94 3 = 157 + 1 from rfl]
      dsimp only
      refine Wq.call (c_mcopy_10_157 hD') ?_
      rintro x M1 ⟨hf, hlo, hc⟩
      rw [Wq_ret]
      refine ⟨rfl, ?_, fun W hW => ?_, ((Fr.rf.up (by decide)).up (by decide)).tr (hf.mono (by decide))⟩
      · rw [hf 0 (by decide), up_at, up_at, upW_n (by decide), h5, nI_sub (by omega)]
      · exact hc W (hW.fr (L := [0]) ((Fr.rf.up (by decide)).up (by decide)) (by decide))
    · have er : nI 5 + nI 6 - nI 1 - (nI 5 + nI 6 - nI 1) / nI 6 * nI 6 = nI 4 := by decide +kernel
      simp only [o_nI, h6, er]
      have e6 : up (up M 0 6 (nI 4)) 0 5 (up M 0 6 (nI 4) 0 5 - nI 1) 0 6 = nI 4 := by rw [up_at, upW_n (by decide), up_at, upW_s]
      rw [e6, inb_nI (by decide) (by decide), if_pos rfl, nI_clamp (by decide), show (Gk n tot kn kx).2.2.2 94 4 = 164 + 1 from rfl]
      dsimp only
      refine Wq.call (c_mcopy_10_164 hD') ?_
      rintro x M1 ⟨hf, hlo, hc⟩
      rw [Wq_ret]
      refine ⟨rfl, ?_, fun W hW => ?_, ((Fr.rf.up (by decide)).up (by decide)).tr (hf.mono (by decide))⟩
      · rw [hf 0 (by decide), up_at, up_at, upW_n (by decide), h5, nI_sub (by omega)]
      · exact hc W (hW.fr (L := [0]) ((Fr.rf.up (by decide)).up (by decide)) (by decide)))
theorem m_undo_loop {b : Nat} {R W S : Nat → Int32} {cl : CLw} {M0 : MMw} {Q : Int32 → MMw → Prop} (hb : b < 6) (hS : S 4 = nI b) (hend : ∀ M1 : MMw, Fr [179] M0 M1 → M1 179 = (fun i => if i < 96 then R (96 * b + i) else W i) → Q (nI 1) M1) (h8 : M0 178 = S) (h1 : M0 181 = R) :
    ∀ (c k : Nat) (M1 : MMw), k + c = 96 → Fr [179] M0 M1 → M1 179 = (fun i => if i < k then R (96 * b + i) else W i) → Lq X cl 305 21 [some (.inr (.inl 178)), some (.inl (nI k))] (Gk n tot kn kx) M1 Q
  | 0, k, M1, hk, hf, h9 => by
    refine Lq.of (t_305_21_ok X cl n tot kn kx _ M1) ?_
    unfold t_305_21
    have e : k = 96 := by omega
    subst e
    rw [o_nI, if_neg (by decide +kernel), Wq_ret]
    exact hend M1 hf h9
  | c + 1, k, M1, hk, hf, h9 => by
    refine Lq.of (t_305_21_ok X cl n tot kn kx _ M1) ?_
    unfold t_305_21
    have e8 : M1 178 4 = nI b := by rw [hf 178 (by decide), h8]; exact hS
    simp only [o_nI, i1_nI]
    rw [if_pos (by rw [lt_i (by omega) (by omega)]; omega), e8, nI_mul, nI_add, inb_nI (show 96 * b + k < 576 by omega) (by decide), if_pos rfl, inb_nI (show k < 2834 by omega) (by decide), if_pos rfl, nI_clamp (by omega), nI_clamp (by omega), nI_add, Wq_jmp]
    refine m_undo_loop hb hS hend h8 h1 c (k + 1) _ (by omega) (hf.up (by decide)) ?_
    rw [up_at, h9, hf 181 (by decide), h1]
    funext i
    unfold upW
    by_cases e : i = k
    · subst e; rw [if_pos rfl, if_pos (Nat.lt_succ_self i)]
    · rw [if_neg e]
      dsimp only
      by_cases e2 : i < k
      · rw [if_pos e2, if_pos (by omega)]
      · rw [if_neg e2, if_neg (by omega)]
set_option maxHeartbeats 4000000 in
theorem P_undo (hD : 5 ≤ D) {len s : Nat} (h : Rl kn len s M) : Pr X D 304 305 [.inr (.inl 0)] [.inr (.inl 178)] (Gk n tot kn kx) M (Rl kn len s) := by
  obtain ⟨b, p, Bs, hb, hp, h3, h6, h8⟩ := h.2.2.1
  have hX := h.1.1
  have h98 := hX.2.2.1.1.2.2.1.2
  by_cases hb0 : 0 < b
  · refine Pr.mk (Q1 := fun x M1 => x = nI 1 ∧ UnP M b p M1) (c_undo (by omega) hb hb0 hp h3.1 h3.2.1) ?_
    rintro x M1 ⟨rfl, u0, um, uf⟩
    have e9 : M1 179 = M 179 := uf 179 (by decide)
    have e8 : M1 178 = M 178 := uf 178 (by decide)
    refine Sq.mk (k := 4) hD (fun D' hD' => ?_)
    refine Lq.of (t_305_0_ok X (callw X D') n tot kn kx M1) ?_
    unfold t_305_0
    rw [e8, h6.1, if_neg (by rw [z_nI, eq_i (by omega) (by omega)]; omega), Wq_jmp, o_nI, o_nI, nI_sub (by omega)]
    refine m_undo_loop (b := b - 1) (R := M 181) (W := M 179) (S := upW (M 178) 4 (nI (b - 1))) (M0 := up M1 178 4 (nI (b - 1))) (by omega) (upW_s _ _ _) ?_ (by rw [up_at, e8]) (by rw [up_ne (by decide), uf 181 (by decide)]) 96 0 _ (by decide) Fr.rf ?_
    · intro M2 f2 g9
      refine ⟨rfl, ?_⟩
      have hf : Fr [0, 10, 11, 12, 13, 14, 15, 16, 178, 179] M M2 := ((uf.mono (by decide)).up (by decide)).tr (f2.mono (by decide))
      have g0 : M2 0 = upW (upW (M 0) 6 (nI ((p + 5) % 6))) 5 (nI (b - 1)) := by rw [f2 0 (by decide), up_ne (by decide)]; exact u0
      have g8 : M2 178 = upW (M 178) 4 (nI (b - 1)) := by rw [f2 178 (by decide), up_at, e8]
      obtain ⟨k1, k2⟩ := h8 (b - 1) (by omega)
      have kk : ∀ k, k < 96 → M2 179 k = Bs (b - 1) k := fun k hk => by
        rw [g9]
        dsimp only
        rw [if_pos hk]
        exact h6.2 (b - 1) (by omega) k hk
      have kh : ∀ k, 96 ≤ k → M2 179 k = M 179 k := fun k hk => by
        rw [g9]
        dsimp only
        rw [if_neg (by omega)]
      have hY : sameY (M 179) (M2 179) := fun i hi => by
        rcases Nat.lt_or_ge i 96 with hl | hl
        · rw [kk i hl]; exact k2 i hi
        · exact kh i hl
      have hE : eqE (Bs (b - 1)) (M2 179) := fun k hk => by
        rcases Nat.lt_or_ge k 96 with hl | hl
        · exact kk k hl
        · rw [kh k hl]
          exact (k2 k (by unfold mvI; omega)).symm
      have st : Stat M M2 := Stat.of2 hf (by decide) (by rw [g0, upW_n (by decide), upW_n (by decide)]) (fun k hk => by rw [g8, upW_n (by omega)])
      refine ⟨⟨⟨?_, ?_, hX.2.2.1.ch hY, k1.chE hE (by rw [q_n_eq (k2 98 (by unfold mvI; omega))]; omega)⟩, ?_⟩, h.2.1.st st, ?_, h.2.2.2.1.st st, h.2.2.2.2.st st⟩
      · exact hX.1.ch (fun d hd => hf d (by unfold Yp at hd; simp; omega)) hY hX.2.2.1.1
      · have hr : q_ring p b (b - 1) = 136 + 7 * ((p + 5) % 6) := by unfold q_ring; omega
        have hc := um (Bs (b - 1)) (by rw [← hr]; exact h3.2.2 (b - 1) (by omega))
        exact (hc.hi kk).fr (L := [178, 179]) ((Fr.rf.up (by decide)).tr (f2.mono (by decide))) (by decide)
      · refine lkr.ch h.1.2 (hf 43 (by decide)) (fun t ht => kh _ (by omega))
      · refine ⟨b - 1, (p + 5) % 6, Bs, by omega, by omega, ⟨by rw [g0, upW_s], by rw [g0, upW_n (by decide), upW_s], fun j hj => ?_⟩, ⟨by rw [g8, upW_s], fun j hj k hk => ?_⟩, fun j hj => ?_⟩
        · have er : q_ring ((p + 5) % 6) (b - 1) j = q_ring p b j := by unfold q_ring; omega
          rw [er]
          exact (h3.2.2 j (by omega)).fr hf (fun d hd => by
            have : 136 ≤ q_ring p b j := by unfold q_ring; omega
            simp at hd
            unfold q_ring at this ⊢
            omega)
        · rw [hf 181 (by decide)]
          exact h6.2 j (by omega) k hk
        · obtain ⟨j1, j2⟩ := h8 j (by omega)
          exact ⟨j1, fun i hi => by rw [hY i hi]; exact j2 i hi⟩
    · rw [up_ne (by decide), e9]
      funext i
      rw [if_neg (Nat.not_lt_zero i)]
  · have e : b = 0 := by omega
    subst e
    refine Pr.mk (Q1 := fun x M1 => x = nI 0 ∧ M1 = M) (Sq.mk (k := 4) hD (fun D' hD' => ?_)) ?_
    · refine Lq.of (t_304_0_ok X (callw X D') n tot kn kx M) ?_
      unfold t_304_0
      rw [h3.1, if_pos (by rfl), Wq_ret]
      exact ⟨rfl, rfl⟩
    · rintro x M1 ⟨rfl, rfl⟩
      refine Sq.mk (k := 4) hD (fun D' hD' => ?_)
      refine Lq.of (t_305_0_ok X (callw X D') n tot kn kx M1) ?_
      unfold t_305_0
      rw [h6.1, if_pos (by rfl), Wq_ret]
      exact ⟨rfl, h⟩
end
