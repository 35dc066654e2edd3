section
-- needs: cpass2
/-! rows copied, what is kept, undoing -/
variable {X : KXw} {n tot kn D : Nat} {kx : Nat → Nat × Nat} {M : MMw}
noncomputable def t_35 (X : KXw) (cl : CLw) (n tot kn : Nat) (kx : Nat → Nat × Nat) (s d : Nat) (M : MMw) : Option TRw := (if 100 ≤ ((Gk n tot kn kx).2.2.1 s).1 then (if 100 ≤ ((Gk n tot kn kx).2.2.1 d).1 then bnd (cl 34 [.inl (Int32.ofNat ((Gk n tot kn kx).2.2.1 s).2), .inl (Int32.ofNat ((Gk n tot kn kx).2.2.1 d).2)] (Gk n tot kn kx) M) fun r _ M2 => (if ((Gk n tot kn kx).2.2.1 s).1 = 100 ∧ ((Gk n tot kn kx).2.2.1 d).1 = 100 ∧ d ≠ s then (if 0 ≤ (Int32.ofNat 0).toInt ∧ 0 ≤ (Int32.ofNat 0).toInt ∧ 0 ≤ r.toInt ∧ (Int32.ofNat 0).toInt + r.toInt ≤ (((Gk n tot kn kx).2.2.1 s).2 : Int) ∧ (Int32.ofNat 0).toInt + r.toInt ≤ (((Gk n tot kn kx).2.2.1 d).2 : Int) ∧ 0 ≤ 8 then some (.inl (0, (Gk n tot kn kx), fun c' k' => if c' = d then (if (Int32.ofNat 0).toNatClampNeg ≤ k' ∧ k' < (Int32.ofNat 0).toNatClampNeg + r.toNatClampNeg then M2 s ((Int32.ofNat 0).toNatClampNeg + (k' - (Int32.ofNat 0).toNatClampNeg)) else M2 c' k') else M2 c' k')) else none) else none) else none) else none)
set_option maxRecDepth 100000 in
theorem t_35_ok (X : KXw) (cl : CLw) (n tot kn : Nat) (kx : Nat → Nat × Nat) (s d : Nat) (M : MMw) : seg X cl 35 1000 0 [some (.inr (.inl s)), some (.inr (.inl d))] [] (Gk n tot kn kx) M = t_35 X cl n tot kn kx s d M := (rfl)
/-- a row copied -/
def cpy (M : MMw) (s d L : Nat) : MMw := fun c k => if c = d then (if k < L then M s k else M c k) else M c k
theorem cpy_ne {M : MMw} {s d L c : Nat} (h : c ≠ d) : cpy M s d L c = M c := by
  funext k
  unfold cpy
  rw [if_neg h]
theorem cpy_at {M : MMw} {s d L k : Nat} (h : k < L) : cpy M s d L d k = M s k := by
  unfold cpy
  rw [if_pos rfl, if_pos h]
theorem Fr.cpy {Ls : List Nat} {M M' : MMw} {s d L : Nat} (h : Fr Ls M M') (hd : d ∈ Ls) : Fr Ls M (cpy M' s d L) := fun c hc => by
  rw [cpy_ne (fun e => hc (by rw [e]; exact hd))]
  exact h c hc
theorem c_copyRow (hD : 2 ≤ D) {s d L : Nat} (hs : ((Gk n tot kn kx).2.2.1 s) = (100, L)) (hd : ((Gk n tot kn kx).2.2.1 d) = (100, L)) (hne : d ≠ s) (hL : L < 2 ^ 31) : callw X D 35 [.inr (.inl s), .inr (.inl d)] (Gk n tot kn kx) M = some (0, Gk n tot kn kx, cpy M s d L) :=
  exk (k := 1) hD (fun D' hD' => t_35_ok X (callw X D') n tot kn kx s d M) (fun D' hD' => by
    unfold t_35
    rw [hs, hd, if_pos (show 100 ≤ (100, L).1 from Nat.le_refl 100), if_pos (show 100 ≤ (100, L).1 from Nat.le_refl 100)]
    dsimp only
    rw [c_min hD', bnd_some, if_pos ⟨rfl, rfl, hne⟩]
    have e0 : (Int32.ofNat 0).toInt = 0 := by decide +kernel
    have e1 : (Int32.ofNat 0).toNatClampNeg = 0 := by decide +kernel
    have e2 : (if Int32.ofNat L < Int32.ofNat L then Int32.ofNat L else Int32.ofNat L) = nI L := by rw [ite_self]; rfl
    rw [e2, e0, e1, nI_toInt hL, nI_clamp hL, if_pos (by omega)]
    congr 4
    funext c k
    unfold cpy
    by_cases h : c = d
    · subst h
      rw [if_pos rfl, if_pos rfl, Nat.zero_add, Nat.zero_add, Nat.sub_zero]
      by_cases h2 : k < L
      · rw [if_pos ⟨Nat.zero_le _, h2⟩, if_pos h2]
      · rw [if_neg (fun h => h2 h.2), if_neg h2]
    · rw [if_neg h, if_neg h])
theorem CRm.cp {M M' : MMw} {p q : Nat} {W : Nat → Int32} (h : CRm M p W) (e : ∀ k, 6 ≤ k → k ≤ 9 → M' q k = M p k) (e8 : ∀ i, 1 ≤ i → i ≤ 5 → ∀ k, k < 8 → M' (q + i) k = M (p + i) k) (e4 : ∀ k, k < 4 → M' (q + 6) k = M (p + 6) k) : CRm M' q W := by
  obtain ⟨m1, m2, m3, m4, b1, b2, b3, b4, b5, b6⟩ := h
  refine ⟨by rw [e _ (by omega) (by omega)]; exact m1, by rw [e _ (by omega) (by omega)]; exact m2, by rw [e _ (by omega) (by omega)]; exact m3, by rw [e _ (by omega) (by omega)]; exact m4, ?_, ?_, ?_, ?_, ?_, ?_⟩
  · intro t ht; rw [e8 1 (by omega) (by omega) t ht]; exact b1 t ht
  · intro t ht; rw [e8 2 (by omega) (by omega) t ht]; exact b2 t ht
  · intro t ht; rw [e8 3 (by omega) (by omega) t ht]; exact b3 t ht
  · intro t ht; rw [e8 4 (by omega) (by omega) t ht]; exact b4 t ht
  · intro t ht; rw [e8 5 (by omega) (by omega) t ht]; exact b5 t ht
  · intro t ht; rw [e4 t ht]; exact b6 t ht
set_option maxHeartbeats 2000000 in
theorem c_mcopy_10_136 (hD : 3 ≤ D) : Sq X D 36 [.inr (.inl 10), .inr (.inl 136)] (Gk n tot kn kx) M (fun _ M' => Fr [10, 11, 12, 13, 14, 15, 16] M M' ∧ (∀ k, k < 6 → M' 10 k = M 10 k) ∧ ∀ W, CRm M 136 W → CRm M' 10 W) :=
  Sq.mk (k := 2) hD (fun D' hD' => by
    refine Lq.of (t_36_p10_p136_0_ok X (callw X D') n tot kn kx M) ?_
    unfold t_36_p10_p136_0
    rw [c_copyRow (L := 8) hD' rfl rfl (by decide) (by decide), bnd_some, c_copyRow (L := 8) hD' rfl rfl (by decide) (by decide), bnd_some, c_copyRow (L := 8) hD' rfl rfl (by decide) (by decide), bnd_some, c_copyRow (L := 8) hD' rfl rfl (by decide) (by decide), bnd_some, c_copyRow (L := 8) hD' rfl rfl (by decide) (by decide), bnd_some, c_copyRow (L := 4) hD' rfl rfl (by decide) (by decide), bnd_some, Wq_ret]
    refine ⟨?_, ?_, fun W h => h.cp ?_ ?_ ?_⟩
    · exact (((((((((Fr.rf.cpy (by decide)).cpy (by decide)).cpy (by decide)).cpy (by decide)).cpy (by decide)).cpy (by decide)).up (by decide)).up (by decide)).up (by decide)).up (by decide)
    · intro k hk
      simp (disch := omega) only [up_at, upW_n, cpy_ne]
    · intro k h1 h2
      have h3 : k = 6 ∨ k = 7 ∨ k = 8 ∨ k = 9 := by omega
      rcases h3 with rfl | rfl | rfl | rfl <;> simp (disch := omega) only [up_at, up_ne, upW_n, upW_s, cpy_ne]
    · intro i h1 h2 k hk
      have h3 : i = 1 ∨ i = 2 ∨ i = 3 ∨ i = 4 ∨ i = 5 := by omega
      rcases h3 with rfl | rfl | rfl | rfl | rfl <;> simp (disch := omega) only [up_ne, cpy_ne, cpy_at, Nat.reduceAdd]
    · intro k hk
      simp (disch := omega) only [up_ne, cpy_ne, cpy_at, Nat.reduceAdd])
set_option maxHeartbeats 2000000 in
theorem c_mcopy_10_143 (hD : 3 ≤ D) : Sq X D 36 [.inr (.inl 10), .inr (.inl 143)] (Gk n tot kn kx) M (fun _ M' => Fr [10, 11, 12, 13, 14, 15, 16] M M' ∧ (∀ k, k < 6 → M' 10 k = M 10 k) ∧ ∀ W, CRm M 143 W → CRm M' 10 W) :=
  Sq.mk (k := 2) hD (fun D' hD' => by
    refine Lq.of (t_36_p10_p143_0_ok X (callw X D') n tot kn kx M) ?_
    unfold t_36_p10_p143_0
    rw [c_copyRow (L := 8) hD' rfl rfl (by decide) (by decide), bnd_some, c_copyRow (L := 8) hD' rfl rfl (by decide) (by decide), bnd_some, c_copyRow (L := 8) hD' rfl rfl (by decide) (by decide), bnd_some, c_copyRow (L := 8) hD' rfl rfl (by decide) (by decide), bnd_some, c_copyRow (L := 8) hD' rfl rfl (by decide) (by decide), bnd_some, c_copyRow (L := 4) hD' rfl rfl (by decide) (by decide), bnd_some, Wq_ret]
    refine ⟨?_, ?_, fun W h => h.cp ?_ ?_ ?_⟩
    · exact (((((((((Fr.rf.cpy (by decide)).cpy (by decide)).cpy (by decide)).cpy (by decide)).cpy (by decide)).cpy (by decide)).up (by decide)).up (by decide)).up (by decide)).up (by decide)
    · intro k hk
      simp (disch := omega) only [up_at, upW_n, cpy_ne]
    · intro k h1 h2
      have h3 : k = 6 ∨ k = 7 ∨ k = 8 ∨ k = 9 := by omega
      rcases h3 with rfl | rfl | rfl | rfl <;> simp (disch := omega) only [up_at, up_ne, upW_n, upW_s, cpy_ne]
    · intro i h1 h2 k hk
      have h3 : i = 1 ∨ i = 2 ∨ i = 3 ∨ i = 4 ∨ i = 5 := by omega
      rcases h3 with rfl | rfl | rfl | rfl | rfl <;> simp (disch := omega) only [up_ne, cpy_ne, cpy_at, Nat.reduceAdd]
    · intro k hk
      simp (disch := omega) only [up_ne, cpy_ne, cpy_at, Nat.reduceAdd])
set_option maxHeartbeats 2000000 in
theorem c_mcopy_10_150 (hD : 3 ≤ D) : Sq X D 36 [.inr (.inl 10), .inr (.inl 150)] (Gk n tot kn kx) M (fun _ M' => Fr [10, 11, 12, 13, 14, 15, 16] M M' ∧ (∀ k, k < 6 → M' 10 k = M 10 k) ∧ ∀ W, CRm M 150 W → CRm M' 10 W) :=
  Sq.mk (k := 2) hD (fun D' hD' => by
    refine Lq.of (t_36_p10_p150_0_ok X (callw X D') n tot kn kx M) ?_
    unfold t_36_p10_p150_0
    rw [c_copyRow (L := 8) hD' rfl rfl (by decide) (by decide), bnd_some, c_copyRow (L := 8) hD' rfl rfl (by decide) (by decide), bnd_some, c_copyRow (L := 8) hD' rfl rfl (by decide) (by decide), bnd_some, c_copyRow (L := 8) hD' rfl rfl (by decide) (by decide), bnd_some, c_copyRow (L := 8) hD' rfl rfl (by decide) (by decide), bnd_some, c_copyRow (L := 4) hD' rfl rfl (by decide) (by decide), bnd_some, Wq_ret]
    refine ⟨?_, ?_, fun W h => h.cp ?_ ?_ ?_⟩
    · exact (((((((((Fr.rf.cpy (by decide)).cpy (by decide)).cpy (by decide)).cpy (by decide)).cpy (by decide)).cpy (by decide)).up (by decide)).up (by decide)).up (by decide)).up (by decide)
    · intro k hk
      simp (disch := omega) only [up_at, upW_n, cpy_ne]
    · intro k h1 h2
      have h3 : k = 6 ∨ k = 7 ∨ k = 8 ∨ k = 9 := by omega
      rcases h3 with rfl | rfl | rfl | rfl <;> simp (disch := omega) only [up_at, up_ne, upW_n, upW_s, cpy_ne]
    · intro i h1 h2 k hk
      have h3 : i = 1 ∨ i = 2 ∨ i = 3 ∨ i = 4 ∨ i = 5 := by omega
      rcases h3 with rfl | rfl | rfl | rfl | rfl <;> simp (disch := omega) only [up_ne, cpy_ne, cpy_at, Nat.reduceAdd]
    · intro k hk
      simp (disch := omega) only [up_ne, cpy_ne, cpy_at, Nat.reduceAdd])
set_option maxHeartbeats 2000000 in
theorem c_mcopy_10_157 (hD : 3 ≤ D) : Sq X D 36 [.inr (.inl 10), .inr (.inl 157)] (Gk n tot kn kx) M (fun _ M' => Fr [10, 11, 12, 13, 14, 15, 16] M M' ∧ (∀ k, k < 6 → M' 10 k = M 10 k) ∧ ∀ W, CRm M 157 W → CRm M' 10 W) :=
  Sq.mk (k := 2) hD (fun D' hD' => by
    refine Lq.of (t_36_p10_p157_0_ok X (callw X D') n tot kn kx M) ?_
    unfold t_36_p10_p157_0
    rw [c_copyRow (L := 8) hD' rfl rfl (by decide) (by decide), bnd_some, c_copyRow (L := 8) hD' rfl rfl (by decide) (by decide), bnd_some, c_copyRow (L := 8) hD' rfl rfl (by decide) (by decide), bnd_some, c_copyRow (L := 8) hD' rfl rfl (by decide) (by decide), bnd_some, c_copyRow (L := 8) hD' rfl rfl (by decide) (by decide), bnd_some, c_copyRow (L := 4) hD' rfl rfl (by decide) (by decide), bnd_some, Wq_ret]
    refine ⟨?_, ?_, fun W h => h.cp ?_ ?_ ?_⟩
    · exact (((((((((Fr.rf.cpy (by decide)).cpy (by decide)).cpy (by decide)).cpy (by decide)).cpy (by decide)).cpy (by decide)).up (by decide)).up (by decide)).up (by decide)).up (by decide)
    · intro k hk
      simp (disch := omega) only [up_at, upW_n, cpy_ne]
    · intro k h1 h2
      have h3 : k = 6 ∨ k = 7 ∨ k = 8 ∨ k = 9 := by omega
      rcases h3 with rfl | rfl | rfl | rfl <;> simp (disch := omega) only [up_at, up_ne, upW_n, upW_s, cpy_ne]
    · intro i h1 h2 k hk
      have h3 : i = 1 ∨ i = 2 ∨ i = 3 ∨ i = 4 ∨ i = 5 := by omega
      rcases h3 with rfl | rfl | rfl | rfl | rfl <;> simp (disch := omega) only [up_ne, cpy_ne, cpy_at, Nat.reduceAdd]
    · intro k hk
      simp (disch := omega) only [up_ne, cpy_ne, cpy_at, Nat.reduceAdd])
set_option maxHeartbeats 2000000 in
theorem c_mcopy_10_164 (hD : 3 ≤ D) : Sq X D 36 [.inr (.inl 10), .inr (.inl 164)] (Gk n tot kn kx) M (fun _ M' => Fr [10, 11, 12, 13, 14, 15, 16] M M' ∧ (∀ k, k < 6 → M' 10 k = M 10 k) ∧ ∀ W, CRm M 164 W → CRm M' 10 W) :=
  Sq.mk (k := 2) hD (fun D' hD' => by
    refine Lq.of (t_36_p10_p164_0_ok X (callw X D') n tot kn kx M) ?_
    unfold t_36_p10_p164_0
    rw [c_copyRow (L := 8) hD' rfl rfl (by decide) (by decide), bnd_some, c_copyRow (L := 8) hD' rfl rfl (by decide) (by decide), bnd_some, c_copyRow (L := 8) hD' rfl rfl (by decide) (by decide), bnd_some, c_copyRow (L := 8) hD' rfl rfl (by decide) (by decide), bnd_some, c_copyRow (L := 8) hD' rfl rfl (by decide) (by decide), bnd_some, c_copyRow (L := 4) hD' rfl rfl (by decide) (by decide), bnd_some, Wq_ret]
    refine ⟨?_, ?_, fun W h => h.cp ?_ ?_ ?_⟩
    · exact (((((((((Fr.rf.cpy (by decide)).cpy (by decide)).cpy (by decide)).cpy (by decide)).cpy (by decide)).cpy (by decide)).up (by decide)).up (by decide)).up (by decide)).up (by decide)
    · intro k hk
      simp (disch := omega) only [up_at, upW_n, cpy_ne]
    · intro k h1 h2
      have h3 : k = 6 ∨ k = 7 ∨ k = 8 ∨ k = 9 := by omega
      rcases h3 with rfl | rfl | rfl | rfl <;> simp (disch := omega) only [up_at, up_ne, upW_n, upW_s, cpy_ne]
    · intro i h1 h2 k hk
      have h3 : i = 1 ∨ i = 2 ∨ i = 3 ∨ i = 4 ∨ i = 5 := by omega
      rcases h3 with rfl | rfl | rfl | rfl | rfl <;> simp (disch := omega) only [up_ne, cpy_ne, cpy_at, Nat.reduceAdd]
    · intro k hk
      simp (disch := omega) only [up_ne, cpy_ne, cpy_at, Nat.reduceAdd])
set_option maxHeartbeats 2000000 in
theorem c_mcopy_10_171 (hD : 3 ≤ D) : Sq X D 36 [.inr (.inl 10), .inr (.inl 171)] (Gk n tot kn kx) M (fun _ M' => Fr [10, 11, 12, 13, 14, 15, 16] M M' ∧ (∀ k, k < 6 → M' 10 k = M 10 k) ∧ ∀ W, CRm M 171 W → CRm M' 10 W) :=
  Sq.mk (k := 2) hD (fun D' hD' => by
    refine Lq.of (t_36_p10_p171_0_ok X (callw X D') n tot kn kx M) ?_
    unfold t_36_p10_p171_0
    rw [c_copyRow (L := 8) hD' rfl rfl (by decide) (by decide), bnd_some, c_copyRow (L := 8) hD' rfl rfl (by decide) (by decide), bnd_some, c_copyRow (L := 8) hD' rfl rfl (by decide) (by decide), bnd_some, c_copyRow (L := 8) hD' rfl rfl (by decide) (by decide), bnd_some, c_copyRow (L := 8) hD' rfl rfl (by decide) (by decide), bnd_some, c_copyRow (L := 4) hD' rfl rfl (by decide) (by decide), bnd_some, Wq_ret]
    refine ⟨?_, ?_, fun W h => h.cp ?_ ?_ ?_⟩
    · exact (((((((((Fr.rf.cpy (by decide)).cpy (by decide)).cpy (by decide)).cpy (by decide)).cpy (by decide)).cpy (by decide)).up (by decide)).up (by decide)).up (by decide)).up (by decide)
    · intro k hk
      simp (disch := omega) only [up_at, upW_n, cpy_ne]
    · intro k h1 h2
      have h3 : k = 6 ∨ k = 7 ∨ k = 8 ∨ k = 9 := by omega
      rcases h3 with rfl | rfl | rfl | rfl <;> simp (disch := omega) only [up_at, up_ne, upW_n, upW_s, cpy_ne]
    · intro i h1 h2 k hk
      have h3 : i = 1 ∨ i = 2 ∨ i = 3 ∨ i = 4 ∨ i = 5 := by omega
      rcases h3 with rfl | rfl | rfl | rfl | rfl <;> simp (disch := omega) only [up_ne, cpy_ne, cpy_at, Nat.reduceAdd]
    · intro k hk
      simp (disch := omega) only [up_ne, cpy_ne, cpy_at, Nat.reduceAdd])
set_option maxHeartbeats 2000000 in
theorem c_mcopy_10_53 (hD : 3 ≤ D) : Sq X D 36 [.inr (.inl 10), .inr (.inl 53)] (Gk n tot kn kx) M (fun _ M' => Fr [10, 11, 12, 13, 14, 15, 16] M M' ∧ (∀ k, k < 6 → M' 10 k = M 10 k) ∧ ∀ W, CRm M 53 W → CRm M' 10 W) :=
  Sq.mk (k := 2) hD (fun D' hD' => by
    refine Lq.of (t_36_p10_p53_0_ok X (callw X D') n tot kn kx M) ?_
    unfold t_36_p10_p53_0
    rw [c_copyRow (L := 8) hD' rfl rfl (by decide) (by decide), bnd_some, c_copyRow (L := 8) hD' rfl rfl (by decide) (by decide), bnd_some, c_copyRow (L := 8) hD' rfl rfl (by decide) (by decide), bnd_some, c_copyRow (L := 8) hD' rfl rfl (by decide) (by decide), bnd_some, c_copyRow (L := 8) hD' rfl rfl (by decide) (by decide), bnd_some, c_copyRow (L := 4) hD' rfl rfl (by decide) (by decide), bnd_some, Wq_ret]
    refine ⟨?_, ?_, fun W h => h.cp ?_ ?_ ?_⟩
    · exact (((((((((Fr.rf.cpy (by decide)).cpy (by decide)).cpy (by decide)).cpy (by decide)).cpy (by decide)).cpy (by decide)).up (by decide)).up (by decide)).up (by decide)).up (by decide)
    · intro k hk
      simp (disch := omega) only [up_at, upW_n, cpy_ne]
    · intro k h1 h2
      have h3 : k = 6 ∨ k = 7 ∨ k = 8 ∨ k = 9 := by omega
      rcases h3 with rfl | rfl | rfl | rfl <;> simp (disch := omega) only [up_at, up_ne, upW_n, upW_s, cpy_ne]
    · intro i h1 h2 k hk
      have h3 : i = 1 ∨ i = 2 ∨ i = 3 ∨ i = 4 ∨ i = 5 := by omega
      rcases h3 with rfl | rfl | rfl | rfl | rfl <;> simp (disch := omega) only [up_ne, cpy_ne, cpy_at, Nat.reduceAdd]
    · intro k hk
      simp (disch := omega) only [up_ne, cpy_ne, cpy_at, Nat.reduceAdd])
set_option maxHeartbeats 2000000 in
theorem c_mcopy_136_10 (hD : 3 ≤ D) : Sq X D 36 [.inr (.inl 136), .inr (.inl 10)] (Gk n tot kn kx) M (fun _ M' => Fr [136, 137, 138, 139, 140, 141, 142] M M' ∧ (∀ k, k < 6 → M' 136 k = M 136 k) ∧ ∀ W, CRm M 10 W → CRm M' 136 W) :=
  Sq.mk (k := 2) hD (fun D' hD' => by
    refine Lq.of (t_36_p136_p10_0_ok X (callw X D') n tot kn kx M) ?_
    unfold t_36_p136_p10_0
    rw [c_copyRow (L := 8) hD' rfl rfl (by decide) (by decide), bnd_some, c_copyRow (L := 8) hD' rfl rfl (by decide) (by decide), bnd_some, c_copyRow (L := 8) hD' rfl rfl (by decide) (by decide), bnd_some, c_copyRow (L := 8) hD' rfl rfl (by decide) (by decide), bnd_some, c_copyRow (L := 8) hD' rfl rfl (by decide) (by decide), bnd_some, c_copyRow (L := 4) hD' rfl rfl (by decide) (by decide), bnd_some, Wq_ret]
    refine ⟨?_, ?_, fun W h => h.cp ?_ ?_ ?_⟩
    · exact (((((((((Fr.rf.cpy (by decide)).cpy (by decide)).cpy (by decide)).cpy (by decide)).cpy (by decide)).cpy (by decide)).up (by decide)).up (by decide)).up (by decide)).up (by decide)
    · intro k hk
      simp (disch := omega) only [up_at, upW_n, cpy_ne]
    · intro k h1 h2
      have h3 : k = 6 ∨ k = 7 ∨ k = 8 ∨ k = 9 := by omega
      rcases h3 with rfl | rfl | rfl | rfl <;> simp (disch := omega) only [up_at, up_ne, upW_n, upW_s, cpy_ne]
    · intro i h1 h2 k hk
      have h3 : i = 1 ∨ i = 2 ∨ i = 3 ∨ i = 4 ∨ i = 5 := by omega
      rcases h3 with rfl | rfl | rfl | rfl | rfl <;> simp (disch := omega) only [up_ne, cpy_ne, cpy_at, Nat.reduceAdd]
    · intro k hk
      simp (disch := omega) only [up_ne, cpy_ne, cpy_at, Nat.reduceAdd])
set_option maxHeartbeats 2000000 in
theorem c_mcopy_143_10 (hD : 3 ≤ D) : Sq X D 36 [.inr (.inl 143), .inr (.inl 10)] (Gk n tot kn kx) M (fun _ M' => Fr [143, 144, 145, 146, 147, 148, 149] M M' ∧ (∀ k, k < 6 → M' 143 k = M 143 k) ∧ ∀ W, CRm M 10 W → CRm M' 143 W) :=
  Sq.mk (k := 2) hD (fun D' hD' => by
    refine Lq.of (t_36_p143_p10_0_ok X (callw X D') n tot kn kx M) ?_
    unfold t_36_p143_p10_0
    rw [c_copyRow (L := 8) hD' rfl rfl (by decide) (by decide), bnd_some, c_copyRow (L := 8) hD' rfl rfl (by decide) (by decide), bnd_some, c_copyRow (L := 8) hD' rfl rfl (by decide) (by decide), bnd_some, c_copyRow (L := 8) hD' rfl rfl (by decide) (by decide), bnd_some, c_copyRow (L := 8) hD' rfl rfl (by decide) (by decide), bnd_some, c_copyRow (L := 4) hD' rfl rfl (by decide) (by decide), bnd_some, Wq_ret]
    refine ⟨?_, ?_, fun W h => h.cp ?_ ?_ ?_⟩
    · exact (((((((((Fr.rf.cpy (by decide)).cpy (by decide)).cpy (by decide)).cpy (by decide)).cpy (by decide)).cpy (by decide)).up (by decide)).up (by decide)).up (by decide)).up (by decide)
    · intro k hk
      simp (disch := omega) only [up_at, upW_n, cpy_ne]
    · intro k h1 h2
      have h3 : k = 6 ∨ k = 7 ∨ k = 8 ∨ k = 9 := by omega
      rcases h3 with rfl | rfl | rfl | rfl <;> simp (disch := omega) only [up_at, up_ne, upW_n, upW_s, cpy_ne]
    · intro i h1 h2 k hk
      have h3 : i = 1 ∨ i = 2 ∨ i = 3 ∨ i = 4 ∨ i = 5 := by omega
      rcases h3 with rfl | rfl | rfl | rfl | rfl <;> simp (disch := omega) only [up_ne, cpy_ne, cpy_at, Nat.reduceAdd]
    · intro k hk
      simp (disch := omega) only [up_ne, cpy_ne, cpy_at, Nat.reduceAdd])
set_option maxHeartbeats 2000000 in
theorem c_mcopy_150_10 (hD : 3 ≤ D) : Sq X D 36 [.inr (.inl 150), .inr (.inl 10)] (Gk n tot kn kx) M (fun _ M' => Fr [150, 151, 152, 153, 154, 155, 156] M M' ∧ (∀ k, k < 6 → M' 150 k = M 150 k) ∧ ∀ W, CRm M 10 W → CRm M' 150 W) :=
  Sq.mk (k := 2) hD (fun D' hD' => by
    refine Lq.of (t_36_p150_p10_0_ok X (callw X D') n tot kn kx M) ?_
    unfold t_36_p150_p10_0
    rw [c_copyRow (L := 8) hD' rfl rfl (by decide) (by decide), bnd_some, c_copyRow (L := 8) hD' rfl rfl (by decide) (by decide), bnd_some, c_copyRow (L := 8) hD' rfl rfl (by decide) (by decide), bnd_some, c_copyRow (L := 8) hD' rfl rfl (by decide) (by decide), bnd_some, c_copyRow (L := 8) hD' rfl rfl (by decide) (by decide), bnd_some, c_copyRow (L := 4) hD' rfl rfl (by decide) (by decide), bnd_some, Wq_ret]
    refine ⟨?_, ?_, fun W h => h.cp ?_ ?_ ?_⟩
    · exact (((((((((Fr.rf.cpy (by decide)).cpy (by decide)).cpy (by decide)).cpy (by decide)).cpy (by decide)).cpy (by decide)).up (by decide)).up (by decide)).up (by decide)).up (by decide)
    · intro k hk
      simp (disch := omega) only [up_at, upW_n, cpy_ne]
    · intro k h1 h2
      have h3 : k = 6 ∨ k = 7 ∨ k = 8 ∨ k = 9 := by omega
      rcases h3 with rfl | rfl | rfl | rfl <;> simp (disch := omega) only [up_at, up_ne, upW_n, upW_s, cpy_ne]
    · intro i h1 h2 k hk
      have h3 : i = 1 ∨ i = 2 ∨ i = 3 ∨ i = 4 ∨ i = 5 := by omega
      rcases h3 with rfl | rfl | rfl | rfl | rfl <;> simp (disch := omega) only [up_ne, cpy_ne, cpy_at, Nat.reduceAdd]
    · intro k hk
      simp (disch := omega) only [up_ne, cpy_ne, cpy_at, Nat.reduceAdd])
set_option maxHeartbeats 2000000 in
theorem c_mcopy_157_10 (hD : 3 ≤ D) : Sq X D 36 [.inr (.inl 157), .inr (.inl 10)] (Gk n tot kn kx) M (fun _ M' => Fr [157, 158, 159, 160, 161, 162, 163] M M' ∧ (∀ k, k < 6 → M' 157 k = M 157 k) ∧ ∀ W, CRm M 10 W → CRm M' 157 W) :=
  Sq.mk (k := 2) hD (fun D' hD' => by
    refine Lq.of (t_36_p157_p10_0_ok X (callw X D') n tot kn kx M) ?_
    unfold t_36_p157_p10_0
    rw [c_copyRow (L := 8) hD' rfl rfl (by decide) (by decide), bnd_some, c_copyRow (L := 8) hD' rfl rfl (by decide) (by decide), bnd_some, c_copyRow (L := 8) hD' rfl rfl (by decide) (by decide), bnd_some, c_copyRow (L := 8) hD' rfl rfl (by decide) (by decide), bnd_some, c_copyRow (L := 8) hD' rfl rfl (by decide) (by decide), bnd_some, c_copyRow (L := 4) hD' rfl rfl (by decide) (by decide), bnd_some, Wq_ret]
    refine ⟨?_, ?_, fun W h => h.cp ?_ ?_ ?_⟩
    · exact (((((((((Fr.rf.cpy (by decide)).cpy (by decide)).cpy (by decide)).cpy (by decide)).cpy (by decide)).cpy (by decide)).up (by decide)).up (by decide)).up (by decide)).up (by decide)
    · intro k hk
      simp (disch := omega) only [up_at, upW_n, cpy_ne]
    · intro k h1 h2
      have h3 : k = 6 ∨ k = 7 ∨ k = 8 ∨ k = 9 := by omega
      rcases h3 with rfl | rfl | rfl | rfl <;> simp (disch := omega) only [up_at, up_ne, upW_n, upW_s, cpy_ne]
    · intro i h1 h2 k hk
      have h3 : i = 1 ∨ i = 2 ∨ i = 3 ∨ i = 4 ∨ i = 5 := by omega
      rcases h3 with rfl | rfl | rfl | rfl | rfl <;> simp (disch := omega) only [up_ne, cpy_ne, cpy_at, Nat.reduceAdd]
    · intro k hk
      simp (disch := omega) only [up_ne, cpy_ne, cpy_at, Nat.reduceAdd])
set_option maxHeartbeats 2000000 in
theorem c_mcopy_164_10 (hD : 3 ≤ D) : Sq X D 36 [.inr (.inl 164), .inr (.inl 10)] (Gk n tot kn kx) M (fun _ M' => Fr [164, 165, 166, 167, 168, 169, 170] M M' ∧ (∀ k, k < 6 → M' 164 k = M 164 k) ∧ ∀ W, CRm M 10 W → CRm M' 164 W) :=
  Sq.mk (k := 2) hD (fun D' hD' => by
    refine Lq.of (t_36_p164_p10_0_ok X (callw X D') n tot kn kx M) ?_
    unfold t_36_p164_p10_0
    rw [c_copyRow (L := 8) hD' rfl rfl (by decide) (by decide), bnd_some, c_copyRow (L := 8) hD' rfl rfl (by decide) (by decide), bnd_some, c_copyRow (L := 8) hD' rfl rfl (by decide) (by decide), bnd_some, c_copyRow (L := 8) hD' rfl rfl (by decide) (by decide), bnd_some, c_copyRow (L := 8) hD' rfl rfl (by decide) (by decide), bnd_some, c_copyRow (L := 4) hD' rfl rfl (by decide) (by decide), bnd_some, Wq_ret]
    refine ⟨?_, ?_, fun W h => h.cp ?_ ?_ ?_⟩
    · exact (((((((((Fr.rf.cpy (by decide)).cpy (by decide)).cpy (by decide)).cpy (by decide)).cpy (by decide)).cpy (by decide)).up (by decide)).up (by decide)).up (by decide)).up (by decide)
    · intro k hk
      simp (disch := omega) only [up_at, upW_n, cpy_ne]
    · intro k h1 h2
      have h3 : k = 6 ∨ k = 7 ∨ k = 8 ∨ k = 9 := by omega
      rcases h3 with rfl | rfl | rfl | rfl <;> simp (disch := omega) only [up_at, up_ne, upW_n, upW_s, cpy_ne]
    · intro i h1 h2 k hk
      have h3 : i = 1 ∨ i = 2 ∨ i = 3 ∨ i = 4 ∨ i = 5 := by omega
      rcases h3 with rfl | rfl | rfl | rfl | rfl <;> simp (disch := omega) only [up_ne, cpy_ne, cpy_at, Nat.reduceAdd]
    · intro k hk
      simp (disch := omega) only [up_ne, cpy_ne, cpy_at, Nat.reduceAdd])
set_option maxHeartbeats 2000000 in
theorem c_mcopy_171_10 (hD : 3 ≤ D) : Sq X D 36 [.inr (.inl 171), .inr (.inl 10)] (Gk n tot kn kx) M (fun _ M' => Fr [171, 172, 173, 174, 175, 176, 177] M M' ∧ (∀ k, k < 6 → M' 171 k = M 171 k) ∧ ∀ W, CRm M 10 W → CRm M' 171 W) :=
  Sq.mk (k := 2) hD (fun D' hD' => by
    refine Lq.of (t_36_p171_p10_0_ok X (callw X D') n tot kn kx M) ?_
    unfold t_36_p171_p10_0
    rw [c_copyRow (L := 8) hD' rfl rfl (by decide) (by decide), bnd_some, c_copyRow (L := 8) hD' rfl rfl (by decide) (by decide), bnd_some, c_copyRow (L := 8) hD' rfl rfl (by decide) (by decide), bnd_some, c_copyRow (L := 8) hD' rfl rfl (by decide) (by decide), bnd_some, c_copyRow (L := 8) hD' rfl rfl (by decide) (by decide), bnd_some, c_copyRow (L := 4) hD' rfl rfl (by decide) (by decide), bnd_some, Wq_ret]
    refine ⟨?_, ?_, fun W h => h.cp ?_ ?_ ?_⟩
    · exact (((((((((Fr.rf.cpy (by decide)).cpy (by decide)).cpy (by decide)).cpy (by decide)).cpy (by decide)).cpy (by decide)).up (by decide)).up (by decide)).up (by decide)).up (by decide)
    · intro k hk
      simp (disch := omega) only [up_at, upW_n, cpy_ne]
    · intro k h1 h2
      have h3 : k = 6 ∨ k = 7 ∨ k = 8 ∨ k = 9 := by omega
      rcases h3 with rfl | rfl | rfl | rfl <;> simp (disch := omega) only [up_at, up_ne, upW_n, upW_s, cpy_ne]
    · intro i h1 h2 k hk
      have h3 : i = 1 ∨ i = 2 ∨ i = 3 ∨ i = 4 ∨ i = 5 := by omega
      rcases h3 with rfl | rfl | rfl | rfl | rfl <;> simp (disch := omega) only [up_ne, cpy_ne, cpy_at, Nat.reduceAdd]
    · intro k hk
      simp (disch := omega) only [up_ne, cpy_ne, cpy_at, Nat.reduceAdd])
set_option maxHeartbeats 2000000 in
theorem c_mcopy_53_10 (hD : 3 ≤ D) : Sq X D 36 [.inr (.inl 53), .inr (.inl 10)] (Gk n tot kn kx) M (fun _ M' => Fr [53, 54, 55, 56, 57, 58, 59] M M' ∧ (∀ k, k < 6 → M' 53 k = M 53 k) ∧ ∀ W, CRm M 10 W → CRm M' 53 W) :=
  Sq.mk (k := 2) hD (fun D' hD' => by
    refine Lq.of (t_36_p53_p10_0_ok X (callw X D') n tot kn kx M) ?_
    unfold t_36_p53_p10_0
    rw [c_copyRow (L := 8) hD' rfl rfl (by decide) (by decide), bnd_some, c_copyRow (L := 8) hD' rfl rfl (by decide) (by decide), bnd_some, c_copyRow (L := 8) hD' rfl rfl (by decide) (by decide), bnd_some, c_copyRow (L := 8) hD' rfl rfl (by decide) (by decide), bnd_some, c_copyRow (L := 8) hD' rfl rfl (by decide) (by decide), bnd_some, c_copyRow (L := 4) hD' rfl rfl (by decide) (by decide), bnd_some, Wq_ret]
    refine ⟨?_, ?_, fun W h => h.cp ?_ ?_ ?_⟩
    · exact (((((((((Fr.rf.cpy (by decide)).cpy (by decide)).cpy (by decide)).cpy (by decide)).cpy (by decide)).cpy (by decide)).up (by decide)).up (by decide)).up (by decide)).up (by decide)
    · intro k hk
      simp (disch := omega) only [up_at, upW_n, cpy_ne]
    · intro k h1 h2
      have h3 : k = 6 ∨ k = 7 ∨ k = 8 ∨ k = 9 := by omega
      rcases h3 with rfl | rfl | rfl | rfl <;> simp (disch := omega) only [up_at, up_ne, upW_n, upW_s, cpy_ne]
    · intro i h1 h2 k hk
      have h3 : i = 1 ∨ i = 2 ∨ i = 3 ∨ i = 4 ∨ i = 5 := by omega
      rcases h3 with rfl | rfl | rfl | rfl | rfl <;> simp (disch := omega) only [up_ne, cpy_ne, cpy_at, Nat.reduceAdd]
    · intro k hk
      simp (disch := omega) only [up_ne, cpy_ne, cpy_at, Nat.reduceAdd])
set_option maxHeartbeats 2000000 in
theorem c_mcopy_87_10 (hD : 3 ≤ D) : Sq X D 36 [.inr (.inl 87), .inr (.inl 10)] (Gk n tot kn kx) M (fun _ M' => Fr [87, 88, 89, 90, 91, 92, 93] M M' ∧ (∀ k, k < 6 → M' 87 k = M 87 k) ∧ ∀ W, CRm M 10 W → CRm M' 87 W) :=
  Sq.mk (k := 2) hD (fun D' hD' => by
    refine Lq.of (t_36_p87_p10_0_ok X (callw X D') n tot kn kx M) ?_
    unfold t_36_p87_p10_0
    rw [c_copyRow (L := 8) hD' rfl rfl (by decide) (by decide), bnd_some, c_copyRow (L := 8) hD' rfl rfl (by decide) (by decide), bnd_some, c_copyRow (L := 8) hD' rfl rfl (by decide) (by decide), bnd_some, c_copyRow (L := 8) hD' rfl rfl (by decide) (by decide), bnd_some, c_copyRow (L := 8) hD' rfl rfl (by decide) (by decide), bnd_some, c_copyRow (L := 4) hD' rfl rfl (by decide) (by decide), bnd_some, Wq_ret]
    refine ⟨?_, ?_, fun W h => h.cp ?_ ?_ ?_⟩
    · exact (((((((((Fr.rf.cpy (by decide)).cpy (by decide)).cpy (by decide)).cpy (by decide)).cpy (by decide)).cpy (by decide)).up (by decide)).up (by decide)).up (by decide)).up (by decide)
    · intro k hk
      simp (disch := omega) only [up_at, upW_n, cpy_ne]
    · intro k h1 h2
      have h3 : k = 6 ∨ k = 7 ∨ k = 8 ∨ k = 9 := by omega
      rcases h3 with rfl | rfl | rfl | rfl <;> simp (disch := omega) only [up_at, up_ne, upW_n, upW_s, cpy_ne]
    · intro i h1 h2 k hk
      have h3 : i = 1 ∨ i = 2 ∨ i = 3 ∨ i = 4 ∨ i = 5 := by omega
      rcases h3 with rfl | rfl | rfl | rfl | rfl <;> simp (disch := omega) only [up_ne, cpy_ne, cpy_at, Nat.reduceAdd]
    · intro k hk
      simp (disch := omega) only [up_ne, cpy_ne, cpy_at, Nat.reduceAdd])
/-- which of the six -/
def q_ring (p b j : Nat) : Nat := 136 + 7 * ((p + 6 - b + j) % 6)
/-- what is kept, on the class's side and on the other -/
def BCc (M : MMw) (b p : Nat) (Bs : Nat → Nat → Int32) : Prop := M 0 5 = nI b ∧ M 0 6 = nI p ∧ ∀ j, j < b → CRm M (q_ring p b j) (Bs j)
def BCm (M : MMw) (b : Nat) (Bs : Nat → Nat → Int32) : Prop := M 178 4 = nI b ∧ ∀ j, j < b → ∀ k, k < 96 → M 181 (96 * j + k) = Bs j k
def BCp (W : Nat → Int32) (b : Nat) (Bs : Nat → Nat → Int32) : Prop := ∀ j, j < b → q_invM (Bs j) ∧ sameY W (Bs j)
def q_push (Bs : Nat → Nat → Int32) (b : Nat) (W : Nat → Int32) : Nat → Nat → Int32 := fun j => if b = 6 then (if j = 5 then W else Bs (j + 1)) else (if j = b then W else Bs j)
theorem BCp.push {W W' : Nat → Int32} {b : Nat} {Bs : Nat → Nat → Int32} (h : BCp W b Bs) (hb : b ≤ 6) (hm : q_invM W) (hW : sameY W W') : BCp W' (min (b + 1) 6) (q_push Bs b W) := by
  have back : sameY W' W := fun i hi => (hW i hi).symm
  intro j hj
  unfold q_push
  by_cases e : b = 6
  · rw [if_pos e]
    by_cases e5 : j = 5
    · rw [if_pos e5]; exact ⟨hm, back⟩
    · rw [if_neg e5]
      obtain ⟨h1, h2⟩ := h (j + 1) (by omega)
      exact ⟨h1, back.tr h2⟩
  · rw [if_neg e]
    by_cases e5 : j = b
    · rw [if_pos e5]; exact ⟨hm, back⟩
    · rw [if_neg e5]
      obtain ⟨h1, h2⟩ := h j (by omega)
      exact ⟨h1, back.tr h2⟩
def q_kept (R W : Nat → Int32) (b : Nat) : Nat → Int32 := fun i => if b = 6 then (if 480 ≤ i ∧ i < 576 then W (i - 480) else if i < 480 then R (i + 96) else R i) else (if 96 * b ≤ i ∧ i < 96 * b + 96 then W (i - 96 * b) else R i)
theorem m_keeps_2 {M0 : MMw} {R W S : Nat → Int32} {b : Nat} (hb : b < 6) {Q : Int32 → MMw → Prop} {cl : CLw} (hend : ∀ M1 : MMw, M1 178 = upW S 4 (nI (b + 1)) → M1 181 = (fun i => if 96 * b ≤ i ∧ i < 96 * b + 96 then W (i - 96 * b) else R i) → Fr [178, 181] M0 M1 → Q 0 M1) (hS : S 4 = nI b) :
    ∀ (c k : Nat) (M1 : MMw), k + c = 96 → M1 178 = S → M1 179 = W → M1 181 = (fun i => if 96 * b ≤ i ∧ i < 96 * b + k then W (i - 96 * b) else R i) → Fr [178, 181] M0 M1 → Lq X cl 43 51 [some (.inr (.inl 178)), some (.inl (nI k))] (Gk n tot kn kx) M1 Q
  | 0, k, M1, hkc, h8, h9, h1, hf => by
    refine Lq.of (t_43_51_ok X cl n tot kn kx _ M1) ?_
    unfold t_43_51
    rw [o_nI, if_neg (by rw [lt_i (by omega) (by omega)]; omega), Wq_ret]
    refine hend _ ?_ ?_ (hf.up (by decide))
    · rw [up_at, h8, hS, o_nI, nI_add]
    · rw [up_ne (by decide), h1, show k = 96 by omega]
  | c + 1, k, M1, hkc, h8, h9, h1, hf => by
    refine Lq.of (t_43_51_ok X cl n tot kn kx _ M1) ?_
    unfold t_43_51
    have hk : k < 96 := by omega
    rw [h8, hS]
    simp (disch := omega) only [Nat.one_mul, m1_nI, m1n, o_nI, z_nI, i1_nI, im1_nI, nI_add, nI_mul, lt_i, eq_i, inb_nI, ↓reduceIte, nI_clamp, bnd_some, b2i_0, b2i_1, b2i_t, b2i_f, Wq_ret, Wq_jmp, upW_s, upW_n, Nat.reduceAdd, Nat.reduceMul, Nat.reduceLT, Nat.reduceEqDiff, Nat.add_zero, Nat.zero_add, reduceCtorEq, hk]
    refine m_keeps_2 hb hend hS c (k + 1) _ (by omega) (by rw [up_ne (by decide)]; exact h8) (by rw [up_ne (by decide)]; exact h9) ?_ (hf.up (by decide))
    rw [up_at, h1, h9]
    funext i
    unfold upW
    by_cases e : i = 96 * b + k
    · subst e
      rw [if_pos rfl, if_pos (by omega), Nat.add_sub_cancel_left]
    · rw [if_neg e]
      dsimp only
      by_cases e2 : 96 * b ≤ i ∧ i < 96 * b + k
      · rw [if_pos e2, if_pos (by omega)]
      · rw [if_neg e2, if_neg (by omega)]
theorem m_keeps (hD : 1 ≤ D) {b : Nat} (hb : b ≤ 6) (h4 : M 178 4 = nI b) : Sq X D 43 [.inr (.inl 178)] (Gk n tot kn kx) M (fun _ M' => M' 178 = upW (M 178) 4 (nI (min (b + 1) 6)) ∧ M' 181 = q_kept (M 181) (M 179) b ∧ Fr [178, 181] M M') :=
  Sq.mk (k := 0) hD (fun D' hD' => by
    refine Lq.of (t_43_0_ok X (callw X D') n tot kn kx M) ?_
    unfold t_43_0
    rw [h4, o_nI]
    by_cases e : b = 6
    · subst e
      rw [if_pos rfl, Wq_jmp, o_nI]
      have loop : ∀ (c k : Nat) (M1 : MMw), k + c = 480 → M1 178 = M 178 → M1 179 = M 179 → M1 181 = (fun i => if i < k then M 181 (i + 96) else M 181 i) → Fr [178, 181] M M1 → Lq X (callw X D') 43 11 [some (.inr (.inl 178)), some (.inl (nI k))] (Gk n tot kn kx) M1 (fun _ M' => M' 178 = upW (M 178) 4 (nI (min (6 + 1) 6)) ∧ M' 181 = q_kept (M 181) (M 179) 6 ∧ Fr [178, 181] M M') := by
        intro c
        induction c with
        | zero =>
          intro k M1 hkc h8 h9 h1 hf
          refine Lq.of (t_43_11_ok X (callw X D') n tot kn kx _ M1) ?_
          unfold t_43_11
          rw [o_nI, if_neg (by rw [lt_i (by omega) (by omega)]; omega), Wq_jmp, o_nI, o_nI, h8, h4, nI_sub (by omega)]
          refine m_keeps_2 (M0 := M) (R := fun i => if i < 480 then M 181 (i + 96) else M 181 i) (W := M 179) (S := upW (M 178) 4 (nI 5)) (b := 5) (by decide) ?_ (upW_s _ _ _) 96 0 _ (by decide) ?_ ?_ ?_ (hf.up (by decide))
          · intro M2 g8 g1 gf
            refine ⟨?_, ?_, gf⟩
            · rw [g8]
              funext i
              unfold upW
              by_cases ei : i = 4
              · rw [if_pos ei, if_pos ei]; rfl
              · rw [if_neg ei, if_neg ei, if_neg ei]
            · rw [g1]
              funext i
              unfold q_kept
              rw [if_pos rfl]
          · rw [up_at, h8]
          · rw [up_ne (by decide)]; exact h9
          · rw [up_ne (by decide), h1]
            funext i
            rw [if_neg (show ¬ (96 * 5 ≤ i ∧ i < 96 * 5 + 0) by omega), show k = 480 by omega]
        | succ c ih =>
          intro k M1 hkc h8 h9 h1 hf
          refine Lq.of (t_43_11_ok X (callw X D') n tot kn kx _ M1) ?_
          unfold t_43_11
          have hk : k < 480 := by omega
          simp (disch := omega) only [Nat.one_mul, m1_nI, m1n, o_nI, z_nI, i1_nI, im1_nI, nI_add, nI_mul, lt_i, eq_i, inb_nI, ↓reduceIte, nI_clamp, bnd_some, b2i_0, b2i_1, b2i_t, b2i_f, Wq_ret, Wq_jmp, upW_s, upW_n, Nat.reduceAdd, Nat.reduceMul, Nat.reduceLT, Nat.reduceEqDiff, Nat.add_zero, Nat.zero_add, reduceCtorEq, hk]
          refine ih (k + 1) _ (by omega) (by rw [up_ne (by decide)]; exact h8) (by rw [up_ne (by decide)]; exact h9) ?_ (hf.up (by decide))
          rw [up_at, h1]
          funext i
          unfold upW
          by_cases ei : i = k
          · subst ei
            rw [if_pos rfl, if_pos (show i < i + 1 by omega)]
            dsimp only
            rw [if_neg (by omega)]
          · rw [if_neg ei]
            dsimp only
            by_cases e2 : i < k
            · rw [if_pos e2, if_pos (by omega)]
            · rw [if_neg e2, if_neg (by omega)]
      refine loop 480 0 M (by decide) rfl rfl ?_ Fr.rf
      funext i
      rw [if_neg (by omega)]
    · rw [if_neg (by rw [eq_i (by omega) (by omega)]; exact e), Wq_jmp, o_nI]
      refine m_keeps_2 (M0 := M) (R := M 181) (W := M 179) (S := M 178) (b := b) (by omega) ?_ h4 96 0 M (by decide) rfl rfl ?_ Fr.rf
      · intro M2 g8 g1 gf
        refine ⟨by rw [g8, show min (b + 1) 6 = b + 1 by omega], ?_, gf⟩
        rw [g1]
        funext i
        unfold q_kept
        rw [if_neg e]
      · funext i
        rw [if_neg (by omega)])
theorem BCm.push {M M' : MMw} {b : Nat} {Bs : Nat → Nat → Int32} (h : BCm M b Bs) (hb : b ≤ 6) (h8 : M' 178 4 = nI (min (b + 1) 6)) (h1 : M' 181 = q_kept (M 181) (M 179) b) : BCm M' (min (b + 1) 6) (q_push Bs b (M 179)) := by
  refine ⟨h8, fun j hj k hk => ?_⟩
  rw [h1]
  unfold q_kept q_push
  by_cases e : b = 6
  · rw [if_pos e, if_pos e]
    by_cases e5 : j = 5
    · subst e5
      rw [if_pos rfl, if_pos (by omega), show 96 * 5 + k - 480 = k by omega]
    · rw [if_neg e5, if_neg (by omega), if_pos (by omega), show 96 * j + k + 96 = 96 * (j + 1) + k by omega]
      exact h.2 (j + 1) (by omega) k hk
  · rw [if_neg e, if_neg e]
    by_cases e5 : j = b
    · subst e5
      rw [if_pos rfl, if_pos (by omega), show 96 * j + k - 96 * j = k by omega]
    · rw [if_neg e5, if_neg (by omega)]
      exact h.2 j (by omega) k hk
/-- the class keeps: the place p of the ring -/
def KpP (W : Nat → Int32) (M : MMw) (b p : Nat) (M' : MMw) : Prop := M' 0 5 = nI (min (b + 1) 6) ∧ M' 0 6 = nI ((p + 1) % 6) ∧ (∀ k, k ≠ 5 → k ≠ 6 → M' 0 k = M 0 k) ∧ CRm M' (136 + 7 * p) W ∧ ∀ c, c ≠ 0 → (c < 136 + 7 * p ∨ 136 + 7 * p + 7 ≤ c) → M' c = M c
theorem min_b6 : ∀ b, b ≤ 6 → (if b + 1 < 6 then nI (b + 1) else nI 6) = nI (min (b + 1) 6) := by decide +kernel
set_option maxHeartbeats 4000000 in
theorem c_keep (hD : 4 ≤ D) {W : Nat → Int32} {b p : Nat} (hb : b ≤ 6) (hp : p < 6) (h5 : M 0 5 = nI b) (h6 : M 0 6 = nI p) (hm : CRm M 10 W) : Sq X D 37 [.inr (.inl 0)] (Gk n tot kn kx) M (fun _ M' => KpP W M b p M') :=
  Sq.mk (k := 3) hD (fun D' hD' => by
    refine Lq.of (t_37_0_ok X (callw X D') n tot kn kx M) ?_
    unfold t_37_0
    rw [h6, inb_nI hp (by decide), if_pos rfl, nI_clamp (by omega)]
    have h3 : p = 0 ∨ p = 1 ∨ p = 2 ∨ p = 3 ∨ p = 4 ∨ p = 5 := by omega
    rcases h3 with rfl | rfl | rfl | rfl | rfl | rfl
    · rw [show (Gk n tot kn kx).2.2.2 94 0 = 136 + 1 from rfl]
      dsimp only
      rw [if_pos ⟨by decide, rfl⟩]
      refine Wq.call (c_mcopy_136_10 hD') ?_
      rintro x M1 ⟨hf, hlo, hc⟩
      have e0 : M1 0 = M 0 := hf 0 (by decide)
      have er : nI 1 - nI 1 / nI 6 * nI 6 = nI 1 := by decide +kernel
      simp (disch := omega) only [Nat.one_mul, m1_nI, m1n, o_nI, z_nI, i1_nI, im1_nI, nI_add, nI_mul, lt_i, eq_i, inb_nI, ↓reduceIte, nI_clamp, bnd_some, b2i_0, b2i_1, b2i_t, b2i_f, Wq_ret, Wq_jmp, up_ne, up_at, upW_s, upW_n, Nat.reduceAdd, Nat.reduceMul, Nat.reduceLT, Nat.reduceEqDiff, Nat.add_zero, Nat.zero_add, reduceCtorEq, e0, h5, h6, er, c_min (show 1 ≤ D' by omega)]
      refine ⟨?_, ?_, fun k k5 k6 => ?_, ?_, fun c c0 hc2 => ?_⟩
      · rw [up_at, upW_s]; exact min_b6 b hb
      · rw [up_at, upW_n (by decide), up_at, upW_s]
      · rw [up_at, upW_n k5, up_at, upW_n k6, e0]
      · exact (hc W hm).fr (L := [0]) ((Fr.rf.up (by decide)).up (by decide)) (by decide)
      · rw [up_ne c0, up_ne c0]
        exact hf c (by simp; omega)
    · rw [show (Gk n tot kn kx).2.2.2 94 1 = 143 + 1 from rfl]
      dsimp only
      rw [if_pos ⟨by decide, rfl⟩]
      refine Wq.call (c_mcopy_143_10 hD') ?_
      rintro x M1 ⟨hf, hlo, hc⟩
      have e0 : M1 0 = M 0 := hf 0 (by decide)
      have er : nI 2 - nI 2 / nI 6 * nI 6 = nI 2 := by decide +kernel
      simp (disch := omega) only [Nat.one_mul, m1_nI, m1n, o_nI, z_nI, i1_nI, im1_nI, nI_add, nI_mul, lt_i, eq_i, inb_nI, ↓reduceIte, nI_clamp, bnd_some, b2i_0, b2i_1, b2i_t, b2i_f, Wq_ret, Wq_jmp, up_ne, up_at, upW_s, upW_n, Nat.reduceAdd, Nat.reduceMul, Nat.reduceLT, Nat.reduceEqDiff, Nat.add_zero, Nat.zero_add, reduceCtorEq, e0, h5, h6, er, c_min (show 1 ≤ D' by omega)]
      refine ⟨?_, ?_, fun k k5 k6 => ?_, ?_, fun c c0 hc2 => ?_⟩
      · rw [up_at, upW_s]; exact min_b6 b hb
      · rw [up_at, upW_n (by decide), up_at, upW_s]
      · rw [up_at, upW_n k5, up_at, upW_n k6, e0]
      · exact (hc W hm).fr (L := [0]) ((Fr.rf.up (by decide)).up (by decide)) (by decide)
      · rw [up_ne c0, up_ne c0]
        exact hf c (by simp; omega)
    · rw [show (Gk n tot kn kx).2.2.2 94 2 = 150 + 1 from rfl]
      dsimp only
      rw [if_pos ⟨by decide, rfl⟩]
      refine Wq.call (c_mcopy_150_10 hD') ?_
      rintro x M1 ⟨hf, hlo, hc⟩
      have e0 : M1 0 = M 0 := hf 0 (by decide)
      have er : nI 3 - nI 3 / nI 6 * nI 6 = nI 3 := by decide +kernel
      simp (disch := omega) only [Nat.one_mul, m1_nI, m1n, o_nI, z_nI, i1_nI, im1_nI, nI_add, nI_mul, lt_i, eq_i, inb_nI, ↓reduceIte, nI_clamp, bnd_some, b2i_0, b2i_1, b2i_t, b2i_f, Wq_ret, Wq_jmp, up_ne, up_at, upW_s, upW_n, Nat.reduceAdd, Nat.reduceMul, Nat.reduceLT, Nat.reduceEqDiff, Nat.add_zero, Nat.zero_add, reduceCtorEq, e0, h5, h6, er, c_min (show 1 ≤ D' by omega)]
      refine ⟨?_, ?_, fun k k5 k6 => ?_, ?_, fun c c0 hc2 => ?_⟩
      · rw [up_at, upW_s]; exact min_b6 b hb
      · rw [up_at, upW_n (by decide), up_at, upW_s]
      · rw [up_at, upW_n k5, up_at, upW_n k6, e0]
      · exact (hc W hm).fr (L := [0]) ((Fr.rf.up (by decide)).up (by decide)) (by decide)
      · rw [up_ne c0, up_ne c0]
        exact hf c (by simp; omega)
    · rw [show (Gk n tot kn kx).2.2.2 94 3 = 157 + 1 from rfl]
      dsimp only
      rw [if_pos ⟨by decide, rfl⟩]
      refine Wq.call (c_mcopy_157_10 hD') ?_
      rintro x M1 ⟨hf, hlo, hc⟩
      have e0 : M1 0 = M 0 := hf 0 (by decide)
      have er : nI 4 - nI 4 / nI 6 * nI 6 = nI 4 := by decide +kernel
      simp (disch := omega) only [Nat.one_mul, m1_nI, m1n, o_nI, z_nI, i1_nI, im1_nI, nI_add, nI_mul, lt_i, eq_i, inb_nI, ↓reduceIte, nI_clamp, bnd_some, b2i_0, b2i_1, b2i_t, b2i_f, Wq_ret, Wq_jmp, up_ne, up_at, upW_s, upW_n, Nat.reduceAdd, Nat.reduceMul, Nat.reduceLT, Nat.reduceEqDiff, Nat.add_zero, Nat.zero_add, reduceCtorEq, e0, h5, h6, er, c_min (show 1 ≤ D' by omega)]
      refine ⟨?_, ?_, fun k k5 k6 => ?_, ?_, fun c c0 hc2 => ?_⟩
      · rw [up_at, upW_s]; exact min_b6 b hb
      · rw [up_at, upW_n (by decide), up_at, upW_s]
      · rw [up_at, upW_n k5, up_at, upW_n k6, e0]
      · exact (hc W hm).fr (L := [0]) ((Fr.rf.up (by decide)).up (by decide)) (by decide)
      · rw [up_ne c0, up_ne c0]
        exact hf c (by simp; omega)
    · rw [show (Gk n tot kn kx).2.2.2 94 4 = 164 + 1 from rfl]
      dsimp only
      rw [if_pos ⟨by decide, rfl⟩]
      refine Wq.call (c_mcopy_164_10 hD') ?_
      rintro x M1 ⟨hf, hlo, hc⟩
      have e0 : M1 0 = M 0 := hf 0 (by decide)
      have er : nI 5 - nI 5 / nI 6 * nI 6 = nI 5 := by decide +kernel
      simp (disch := omega) only [Nat.one_mul, m1_nI, m1n, o_nI, z_nI, i1_nI, im1_nI, nI_add, nI_mul, lt_i, eq_i, inb_nI, ↓reduceIte, nI_clamp, bnd_some, b2i_0, b2i_1, b2i_t, b2i_f, Wq_ret, Wq_jmp, up_ne, up_at, upW_s, upW_n, Nat.reduceAdd, Nat.reduceMul, Nat.reduceLT, Nat.reduceEqDiff, Nat.add_zero, Nat.zero_add, reduceCtorEq, e0, h5, h6, er, c_min (show 1 ≤ D' by omega)]
      refine ⟨?_, ?_, fun k k5 k6 => ?_, ?_, fun c c0 hc2 => ?_⟩
      · rw [up_at, upW_s]; exact min_b6 b hb
      · rw [up_at, upW_n (by decide), up_at, upW_s]
      · rw [up_at, upW_n k5, up_at, upW_n k6, e0]
      · exact (hc W hm).fr (L := [0]) ((Fr.rf.up (by decide)).up (by decide)) (by decide)
      · rw [up_ne c0, up_ne c0]
        exact hf c (by simp; omega)
    · rw [show (Gk n tot kn kx).2.2.2 94 5 = 171 + 1 from rfl]
      dsimp only
      rw [if_pos ⟨by decide, rfl⟩]
      refine Wq.call (c_mcopy_171_10 hD') ?_
      rintro x M1 ⟨hf, hlo, hc⟩
      have e0 : M1 0 = M 0 := hf 0 (by decide)
      have er : nI 6 - nI 6 / nI 6 * nI 6 = nI 0 := by decide +kernel
      simp (disch := omega) only [Nat.one_mul, m1_nI, m1n, o_nI, z_nI, i1_nI, im1_nI, nI_add, nI_mul, lt_i, eq_i, inb_nI, ↓reduceIte, nI_clamp, bnd_some, b2i_0, b2i_1, b2i_t, b2i_f, Wq_ret, Wq_jmp, up_ne, up_at, upW_s, upW_n, Nat.reduceAdd, Nat.reduceMul, Nat.reduceLT, Nat.reduceEqDiff, Nat.add_zero, Nat.zero_add, reduceCtorEq, e0, h5, h6, er, c_min (show 1 ≤ D' by omega)]
      refine ⟨?_, ?_, fun k k5 k6 => ?_, ?_, fun c c0 hc2 => ?_⟩
      · rw [up_at, upW_s]; exact min_b6 b hb
      · rw [up_at, upW_n (by decide), up_at, upW_s]
      · rw [up_at, upW_n k5, up_at, upW_n k6, e0]
      · exact (hc W hm).fr (L := [0]) ((Fr.rf.up (by decide)).up (by decide)) (by decide)
      · rw [up_ne c0, up_ne c0]
        exact hf c (by simp; omega))
theorem BCc.push {M M' : MMw} {b p : Nat} {Bs : Nat → Nat → Int32} {W : Nat → Int32} (h : BCc M b p Bs) (hb : b ≤ 6) (hp : p < 6) (hk : KpP W M b p M') : BCc M' (min (b + 1) 6) ((p + 1) % 6) (q_push Bs b W) := by
  obtain ⟨h1, h2, h3⟩ := h
  obtain ⟨k1, k2, _, k3, k4⟩ := hk
  refine ⟨k1, k2, fun j hj => ?_⟩
  have keep : ∀ i, i < b → q_ring p b i ≠ 136 + 7 * p → CRm M' (q_ring p b i) (Bs i) := by
    intro i hi hne
    have e := h3 i hi
    obtain ⟨m1, m2, m3, m4, b1, b2, b3, b4, b5, b6⟩ := e
    have hr : q_ring p b i < 136 + 7 * p ∨ 136 + 7 * p + 7 ≤ q_ring p b i := by unfold q_ring at hne ⊢; omega
    have hr0 : 136 ≤ q_ring p b i := by unfold q_ring; omega
    have hr7 : (q_ring p b i - 136) % 7 = 0 := by unfold q_ring; omega
    have g : ∀ d, d < 7 → M' (q_ring p b i + d) = M (q_ring p b i + d) := fun d hd => k4 _ (by omega) (by omega)
    have g0 : M' (q_ring p b i) = M (q_ring p b i) := g 0 (by omega)
    rw [← g0] at m1 m2 m3 m4
    rw [← g _ (by omega)] at b1 b2 b3 b4 b5 b6
    exact ⟨m1, m2, m3, m4, b1, b2, b3, b4, b5, b6⟩
  by_cases e : b = 6
  · subst e
    by_cases e5 : j = 5
    · subst e5
      have er : q_ring ((p + 1) % 6) (min (6 + 1) 6) 5 = 136 + 7 * p := by unfold q_ring; omega
      rw [er]
      exact k3
    · have er : q_ring ((p + 1) % 6) (min (6 + 1) 6) j = q_ring p 6 (j + 1) := by unfold q_ring; omega
      have eq : q_push Bs 6 W j = Bs (j + 1) := by unfold q_push; rw [if_pos rfl, if_neg e5]
      rw [er, eq]
      exact keep (j + 1) (by omega) (by unfold q_ring; omega)
  · by_cases e5 : j = b
    · subst e5
      have er : q_ring ((p + 1) % 6) (min (j + 1) 6) j = 136 + 7 * p := by unfold q_ring; omega
      have eq : q_push Bs j W j = W := by unfold q_push; rw [if_neg e, if_pos rfl]
      rw [er, eq]
      exact k3
    · have er : q_ring ((p + 1) % 6) (min (b + 1) 6) j = q_ring p b j := by unfold q_ring; omega
      have eq : q_push Bs b W j = Bs j := by unfold q_push; rw [if_neg e, if_neg e5]
      rw [er, eq]
      exact keep j (by omega) (by unfold q_ring; omega)
end
