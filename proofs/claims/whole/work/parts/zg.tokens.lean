section
-- needs: psoon
/-! letters, blanks, words -/
def k_let (c : Nat) : Bool := (decide (97 ≤ c) && decide (c ≤ 122)) || (decide (65 ≤ c) && decide (c ≤ 90))
def k_dig (c : Nat) : Bool := decide (48 ≤ c) && decide (c ≤ 57)
def k_blk (c : Nat) : Bool := decide (c = 32) || decide (c = 10)
def k_sgn (c : Nat) : Bool := [59, 43, 45, 42, 47, 40, 41, 60, 61, 62].contains c
/-- from i on as long as p goes, no further than L -/
def k_run (p : Nat → Bool) (L : Nat) : Nat → Nat → Nat
  | 0, i => i
  | f + 1, i => if i < L ∧ p i = true then k_run p L f (i + 1) else i
def k_go (p : Nat → Bool) (L i : Nat) : Nat := k_run p L (L - i) i
theorem k_go_s {p : Nat → Bool} {L i : Nat} (h : i < L) (hp : p i = true) : k_go p L i = k_go p L (i + 1) := by
  unfold k_go
  obtain ⟨f, hf⟩ : ∃ f, L - i = f + 1 := ⟨L - i - 1, by omega⟩
  rw [hf, k_run, if_pos ⟨h, hp⟩, show L - (i + 1) = f by omega]
theorem k_go_e {p : Nat → Bool} {L i : Nat} (h : ¬ (i < L ∧ p i = true)) : k_go p L i = i := by
  unfold k_go
  cases hf : L - i with
  | zero => rfl
  | succ f => rw [k_run, if_neg h]
theorem k_go_b {p : Nat → Bool} {L : Nat} : ∀ (c i : Nat), i + c = L → i ≤ k_go p L i ∧ k_go p L i ≤ L ∧ (∀ j, i ≤ j → j < k_go p L i → p j = true) ∧ (k_go p L i < L → p (k_go p L i) = false)
  | 0, i, h => by
    rw [k_go_e (fun hh => by omega)]
    exact ⟨Nat.le_refl _, by omega, fun j h1 h2 => by omega, fun h1 => by omega⟩
  | c + 1, i, h => by
    by_cases hp : p i = true
    · rw [k_go_s (by omega) hp]
      obtain ⟨h1, h2, h3, h4⟩ := k_go_b (p := p) (L := L) c (i + 1) (by omega)
      refine ⟨by omega, h2, fun j j1 j2 => ?_, h4⟩
      by_cases e : j = i
      · rw [e]; exact hp
      · exact h3 j (by omega) j2
    · rw [k_go_e (fun hh => hp hh.2)]
      exact ⟨Nat.le_refl _, by omega, fun j h1 h2 => by omega, fun _ => Bool.eq_false_iff.mpr hp⟩
/-- the bytes of the constant j -/
def k_ch (j i : Nat) : Nat := ((bytJ.getD j []).getD i 0).toNatClampNeg
def k_ln (j : Nat) : Nat := (bytJ.getD j []).length
theorem k_ch_ok : ∀ j, j < 28 → ∀ i, i < k_ln j → ((((bytJ.getD j []).getD i 0) &&& (Int32.ofNat 255)).toUInt32 % 65536).toInt32 = nI (k_ch j i) ∧ nrw 2 (nI (k_ch j i)) = nI (k_ch j i) ∧ (bytJ.getD j []).getD i 0 = nI (k_ch j i) ∧ k_ch j i < 128 := by decide +kernel
theorem k_ln_lt : ∀ j, j < 28 → k_ln j < 200 := by decide +kernel
theorem k_kind : ∀ j, j < 28 → kKind (j + 28) = 103 := by decide +kernel
variable {X : KXw} {n tot kn D : Nat} {kx : Nat → Nat × Nat} {M : MMw}
theorem k_at {j i : Nat} (hj : j < 28) : kAt X (j + 28) i = (bytJ.getD j []).getD i 0 := by
  unfold kAt
  rw [if_pos (by omega), Nat.add_sub_cancel]
theorem k_len {j : Nat} (hj : j < 28) : kLen X (j + 28) = k_ln j := by
  unfold kLen
  rw [if_pos (by omega), Nat.add_sub_cancel]
  rfl
theorem c_chk (hD : 1 ≤ D) {i l j : Nat} (hi : i < l) (hl : l < 2 ^ 31) : callw X D 110 [.inl (nI i), .inl (nI l), .inr (.inr j)] (Gk n tot kn kx) M = some (nI i, Gk n tot kn kx, M) :=
  ex1 hD (fun cl => t_110_cj_0_ok X cl n tot kn kx j _ _ M) (fun cl => by
    unfold t_110_cj_0
    simp only [z_nI]
    rw [if_neg (by rw [lt_i (by omega) (by omega)]; omega), if_pos (by rw [lt_i (by omega) hl]; exact hi)])
theorem c_chk2 (hD : 2 ≤ D) {i l : Nat} (hi : i < l) (hl : l < 2 ^ 31) : callw X D 111 [.inl (nI i), .inl (nI l)] (Gk n tot kn kx) M = some (0, Gk n tot kn kx, M) :=
  exk (k := 1) hD (fun D' _ => t_111_0_ok X (callw X D') n tot kn kx _ _ M) (fun D' hD' => by
    unfold t_111_0
    rw [c_chk hD' hi hl, bnd_some])
theorem c_chL (hD : 3 ≤ D) {j i : Nat} (hj : j < 28) (hi : i < k_ln j) : callw X D 112 [.inr (.inr (j + 28)), .inl (nI i)] (Gk n tot kn kx) M = some (nI (k_ch j i), Gk n tot kn kx, M) :=
  exk (k := 2) hD (fun D' _ => t_112_cj_0_ok X (callw X D') n tot kn kx (j + 28) _ M) (fun D' hD' => by
    unfold t_112_cj_0
    obtain ⟨h1, h2, _, _⟩ := k_ch_ok j hj i hi
    have h3 := k_ln_lt j hj
    have hk := k_kind j hj
    simp only [k_len hj, o_nI]
    rw [if_pos (by omega), if_pos (Or.inr hk), c_chk2 hD' hi (by omega), bnd_some, if_pos (by omega), if_pos hk, inb_nI hi (by omega), if_pos rfl, nI_clamp (by omega), k_at hj]
    simp only [o_nI] at h1
    rw [h1, if_pos h2])
theorem c_lat (hD : 1 ≤ D) {j : Nat} (hj : j < 28) : callw X D 109 [.inr (.inr j)] (Gk n tot kn kx) M = some (nI 1, Gk n tot kn kx, M) :=
  ex1 hD (fun cl => t_109_cj_0_ok X cl n tot kn kx j M) (fun cl => by
    unfold t_109_cj_0
    rw [if_pos (by omega), if_pos hj]
    rfl)
theorem c_charAt (hD : 4 ≤ D) {j i : Nat} (hj : j < 28) (hi : i < k_ln j) : callw X D 113 [.inr (.inr j), .inl (nI i)] (Gk n tot kn kx) M = some (nI (k_ch j i), Gk n tot kn kx, M) :=
  exk (k := 3) hD (fun D' _ => t_113_cj_0_ok X (callw X D') n tot kn kx j _ M) (fun D' hD' => by
    unfold t_113_cj_0
    obtain ⟨_, h2, _, _⟩ := k_ch_ok j hj i hi
    rw [if_pos (by omega), if_pos ⟨by decide, by unfold rcv; simp [hj]⟩, c_lat (by omega) hj, bnd_some, if_neg (by decide +kernel), if_pos (by omega), if_pos hj, c_chL (by omega) hj hi, bnd_some, if_pos h2])
theorem c_coder (hD : 1 ≤ D) {j : Nat} (hj : j < 28) : callw X D 107 [.inr (.inr j)] (Gk n tot kn kx) M = some (nI 0, Gk n tot kn kx, M) :=
  ex1 hD (fun cl => t_107_cj_0_ok X cl n tot kn kx j M) (fun cl => by
    unfold t_107_cj_0
    rw [if_pos (by omega), if_pos hj, if_pos (by decide +kernel)]
    rfl)
theorem c_length (hD : 2 ≤ D) {j : Nat} (hj : j < 28) : callw X D 108 [.inr (.inr j)] (Gk n tot kn kx) M = some (nI (k_ln j), Gk n tot kn kx, M) :=
  exk (k := 1) hD (fun D' _ => t_108_cj_0_ok X (callw X D') n tot kn kx j M) (fun D' hD' => by
    unfold t_108_cj_0
    have h3 := k_ln_lt j hj
    rw [if_pos (by omega), if_pos hj, if_pos (Or.inr (k_kind j hj)), if_pos (by omega), if_pos ⟨by decide, by unfold rcv; simp [hj]⟩, c_coder hD' hj, bnd_some, k_len hj, o_nI, nI_shr (by omega) (by decide), Nat.shiftRight_zero])
end
