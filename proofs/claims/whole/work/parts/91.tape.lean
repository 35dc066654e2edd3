section
-- needs: ask
/-! the tape -/
def q_byte (x : Int32) (s : Nat) : Int32 := (x >>> (nI s &&& 31)) &&& nI 255
theorem byte_eq {x : Int32} {s : Nat} (hs : s ≤ 24) : ((x).toUInt32 >>> ((nI s).toUInt32 &&& Int32.toUInt32 31)).toInt32 &&& nI 255 = q_byte x s := by
  unfold q_byte
  apply Int32.toBitVec_inj.mp
  rw [Int32.toBitVec_and, Int32.toBitVec_and]
  show (x.toBitVec >>> (((nI s).toUInt32 &&& Int32.toUInt32 31).toBitVec % 32).toNat) &&& (nI 255).toBitVec = (x.toBitVec.sshiftRight ((nI s &&& 31).toBitVec.smod 32).toNat) &&& (nI 255).toBitVec
  rw [sh_cu s (by omega), sh_ct s (by omega)]
  apply BitVec.eq_of_getLsbD_eq
  intro i hi
  have e : (nI 255).toBitVec.getLsbD i = decide (i < 8) := by
    rw [nI_bv, BitVec.getLsbD_ofNat, show (255 : Nat) = 2 ^ 8 - 1 from rfl, Nat.testBit_two_pow_sub_one]
    by_cases h : i < 8
    · simp [h, hi]
    · simp [h]
  rw [BitVec.getLsbD_and, BitVec.getLsbD_and, e, BitVec.getLsbD_ushiftRight, BitVec.getLsbD_sshiftRight]
  by_cases h : i < 8
  · have h2 : s + i < 32 := by omega
    have h3 : ¬ 32 ≤ i := by omega
    simp [h, h2, h3]
  · simp [h]
theorem byte_lt {x : Int32} {s : Nat} : ∃ v, v < 256 ∧ q_byte x s = nI v := by
  unfold q_byte
  generalize x >>> (nI s &&& 31) = y
  have e : y = nI y.toBitVec.toNat := Int32.toBitVec_inj.mp (by rw [nI_bv]; simp)
  refine ⟨y.toBitVec.toNat &&& 255, ?_, by rw [← nI_and, ← e]⟩
  have : y.toBitVec.toNat &&& 255 ≤ 255 := Nat.and_le_right
  omega
variable {X : KXw} {n tot kn D : Nat} {kx : Nat → Nat × Nat} {M : MMw}
theorem P_end (hD : 2 ≤ D) {v : Int32} {len s : Nat} (h : Rl kn len s M) : Pr X D 101 102 [.inr (.inl 0), .inl v] [.inr (.inl 178), .inl v] (Gk n tot kn kx) M (Rl kn len s) := by
  obtain ⟨t2, t3, L, hL, l1, l2, l3⟩ := h.2.2.2.1
  cases hq : q_in v 0 L with
  | false =>
    refine Pr.mk (Q1 := fun x M1 => x = nI 0 ∧ M1 = M) (Sq.mk (k := 1) hD (fun D' hD' => ?_)) ?_
    · refine Lq.of (t_101_0_ok X (callw X D') n tot kn kx _ M) ?_
      unfold t_101_0
      simp only [o_nI]
      rw [l1]
      by_cases h0 : v < nI 0
      · rw [if_pos (show v < 0 from h0), Wq_ret]; exact ⟨rfl, rfl⟩
      · rw [if_neg (show ¬ v < 0 from h0)]
        by_cases h1 : nI L < v
        · rw [if_pos h1, Wq_ret]; exact ⟨rfl, rfl⟩
        · exfalso
          unfold q_in at hq
          rw [decide_eq_false h0, decide_eq_false h1] at hq
          cases hq
    · rintro x M1 ⟨rfl, rfl⟩
      refine Sq.mk (k := 1) hD (fun D' hD' => ?_)
      refine Lq.of (t_102_0_ok X (callw X D') n tot kn kx _ M1) ?_
      unfold t_102_0
      simp only [o_nI]
      rw [l2, m_in (by omega), bnd_some, hq, if_pos (by rfl), Wq_ret]
      exact ⟨rfl, h⟩
  | true =>
    obtain ⟨j, _, hj, rfl⟩ := q_in_t (by omega) (by decide) hq
    refine Pr.mk (Q1 := fun x M1 => x = nI 1 ∧ M1 = up M 95 1 (nI j)) (Sq.mk (k := 1) hD (fun D' hD' => ?_)) ?_
    · refine Lq.of (t_101_0_ok X (callw X D') n tot kn kx _ M) ?_
      unfold t_101_0
      simp only [o_nI]
      rw [l1, if_neg (by rw [z_nI, lt_i (by omega) (by omega)]; omega), if_neg (by rw [lt_i (by omega) (by omega)]; omega), Wq_ret]
      exact ⟨rfl, rfl⟩
    · rintro x M1 ⟨rfl, rfl⟩
      refine Sq.mk (k := 1) hD (fun D' hD' => ?_)
      refine Lq.of (t_102_0_ok X (callw X D') n tot kn kx _ _) ?_
      unfold t_102_0
      simp only [o_nI]
      rw [up_ne (by decide), l2, m_in (by omega), bnd_some, hq, if_neg (by decide), Wq_ret]
      refine ⟨rfl, ?_⟩
      have f : Fr [95, 178] M (up (up M 95 1 (nI j)) 178 16 (nI j)) := (Fr.rf.up (by decide)).up (by decide)
      have e8 : ∀ k, k ≠ 16 → up (up M 95 1 (nI j)) 178 16 (nI j) 178 k = M 178 k := fun k hk => by rw [up_at, upW_n hk, up_ne (by decide)]
      have e9 : up (up M 95 1 (nI j)) 178 16 (nI j) 179 = M 179 := f 179 (by decide)
      refine ⟨⟨by rw [e9]; exact h.1.1.fr f (by decide), by rw [e9]; have := h.1.2; unfold CRbook at this ⊢; rw [f 43 (by decide)]; exact this⟩, ?_, ?_, ?_, ?_⟩
      · obtain ⟨i1, i2⟩ := h.2.1
        unfold RlI
        rw [e8 5 (by decide), f 0 (by decide)]
        refine ⟨i1, ?_⟩
        rcases i2 with i2 | ⟨i2, i3, i4, i5, i6, i7⟩
        · exact Or.inl i2
        · rw [f 180 (by decide)]
          refine Or.inr ⟨i2, i3.fr f (by decide) i6.1, i4.fr f (by decide), ?_, i6, i7⟩
          unfold CRbook at i5 ⊢
          rw [f 86 (by decide)]; exact i5
      · refine h.2.2.1.st ⟨fun c hc => f c (by simp; omega), by rw [f 0 (by decide)], by rw [f 0 (by decide)], e8 4 (by decide)⟩ e9
      · unfold RlT
        rw [e8 23 (by decide), e8 25 (by decide), up_ne (show 95 ≠ 178 by decide), up_at, upW_n (by decide), upW_n (by decide), upW_s, f 96 (by decide), f 186 (by decide), up_at, upW_s]
        exact ⟨t2, t3, j, by omega, rfl, rfl, fun i hi => l3 i (by omega)⟩
      · obtain ⟨p1, p2, p3⟩ := h.2.2.2.2
        refine ⟨p1, by rw [f 124 (by decide)]; exact p2, ?_⟩
        rw [f kn (by simp; omega)]
        exact p3
/-- four bytes behind the tape -/
def q_app (R : Nat → Int32) (L : Nat) (x : Int32) : Nat → Int32 := upW (upW (upW (upW R L (q_byte x 24)) (L + 1) (q_byte x 16)) (L + 2) (q_byte x 8)) (L + 3) (q_byte x 0)
set_option maxHeartbeats 2000000 in
theorem c_append (hD : 1 ≤ D) {x : Int32} {L : Nat} (hL : L + 4 ≤ 400) (h1 : M 95 1 = nI L) : Sq X D 98 [.inr (.inl 95), .inl x] (Gk n tot kn kx) M (fun _ M' => M' 96 = q_app (M 96) L x ∧ M' 95 = upW (M 95) 1 (nI (L + 4)) ∧ Fr [95, 96] M M') :=
  Sq.mk (k := 0) hD (fun D' hD' => by
    have one : ∀ (s l : Nat) (M1 : MMw) (Q : Int32 → MMw → Prop), s ≤ 24 → l < 400 → M1 95 1 = nI l → Lq X (callw X D') 98 3 [some (.inr (.inl 95)), some (.inl x), some (.inl (nI s + Int32.ofInt (-8)))] (Gk n tot kn kx) (up (up M1 96 l (q_byte x s)) 95 1 (nI (l + 1))) Q → Lq X (callw X D') 98 3 [some (.inr (.inl 95)), some (.inl x), some (.inl (nI s))] (Gk n tot kn kx) M1 Q := by
      intro s l M1 Q hs hl h1 hQ
      refine Lq.of (t_98_p95_3_ok X (callw X D') n tot kn kx _ _ M1) ?_
      unfold t_98_p95_3
      simp only [o_nI]
      rw [if_neg (by rw [z_nI, lt_i (by omega) (by omega)]; omega), h1, if_pos (by rw [lt_i (by omega) (by omega)]; exact hl), inb_nI hl (by decide), if_pos rfl, nI_clamp (by omega), byte_eq hs, nI_add, Wq_jmp]
      refine Lq.of (t_98_p95_46_ok X (callw X D') n tot kn kx _ _ _) ?_
      unfold t_98_p95_46
      rw [Wq_jmp]
      exact hQ
    refine Lq.of (t_98_p95_0_ok X (callw X D') n tot kn kx _ M) ?_
    unfold t_98_p95_0
    rw [Wq_jmp, o_nI]
    refine one 24 L M _ (by decide) (by omega) h1 ?_
    rw [show nI 24 + Int32.ofInt (-8) = nI 16 by decide +kernel]
    refine one 16 (L + 1) _ _ (by decide) (by omega) (by rw [up_at, upW_s]) ?_
    rw [show nI 16 + Int32.ofInt (-8) = nI 8 by decide +kernel]
    refine one 8 (L + 1 + 1) _ _ (by decide) (by omega) (by rw [up_at, upW_s]) ?_
    rw [show nI 8 + Int32.ofInt (-8) = nI 0 by decide +kernel]
    refine one 0 (L + 1 + 1 + 1) _ _ (by decide) (by omega) (by rw [up_at, upW_s]) ?_
    refine Lq.of (t_98_p95_3_ok X (callw X D') n tot kn kx _ _ _) ?_
    unfold t_98_p95_3
    rw [if_pos (by decide +kernel), Wq_ret]
    refine ⟨?_, ?_, (((((((Fr.rf.up (by decide)).up (by decide)).up (by decide)).up (by decide)).up (by decide)).up (by decide)).up (by decide)).up (by decide)⟩
    · simp (disch := omega) only [up_ne, up_at]
      rfl
    · simp (disch := omega) only [up_ne, up_at]
      funext k
      unfold upW
      by_cases hk : k = 1
      · rw [if_pos hk, if_pos hk]
      · rw [if_neg hk, if_neg hk, if_neg hk, if_neg hk, if_neg hk])
/-- the k-th byte of five numbers -/
def q_five (a b c d e : Int32) (k : Nat) : Int32 := q_byte (if k < 4 then a else if k < 8 then b else if k < 12 then c else if k < 16 then d else e) (24 - 8 * (k % 4))
def q_fed (R : Nat → Int32) (L n : Nat) (F : Nat → Int32) : Nat → Int32 := fun i => if L ≤ i ∧ i < L + n then F (i - L) else R i
theorem q_fed_up {R F : Nat → Int32} {L n : Nat} : upW (q_fed R L n F) (L + n) (F n) = q_fed R L (n + 1) F := by
  funext i
  unfold upW q_fed
  by_cases e : i = L + n
  · subst e
    rw [if_pos rfl, if_pos (by omega), Nat.add_sub_cancel_left]
  · rw [if_neg e]
    by_cases e2 : L ≤ i ∧ i < L + n
    · rw [if_pos e2, if_pos (by omega)]
    · rw [if_neg e2, if_neg (by omega)]
theorem q_app_fed {R F : Nat → Int32} {L j : Nat} {x : Int32} (h : ∀ i, i < 4 → F (4 * j + i) = q_byte x (24 - 8 * i)) : q_app (q_fed R L (4 * j) F) (L + 4 * j) x = q_fed R L (4 * (j + 1)) F := by
  have e0 : q_byte x 24 = F (4 * j) := (h 0 (by decide)).symm
  have e1 : q_byte x 16 = F (4 * j + 1) := (h 1 (by decide)).symm
  have e2 : q_byte x 8 = F (4 * j + 2) := (h 2 (by decide)).symm
  have e3 : q_byte x 0 = F (4 * j + 3) := (h 3 (by decide)).symm
  unfold q_app
  rw [e0, e1, e2, e3, q_fed_up, show L + 4 * j + 1 = L + (4 * j + 1) by omega, q_fed_up, show L + 4 * j + 2 = L + (4 * j + 1 + 1) by omega, q_fed_up, show L + 4 * j + 3 = L + (4 * j + 1 + 1 + 1) by omega, q_fed_up]
  rfl
theorem q_fed_0 {R F : Nat → Int32} {L : Nat} : q_fed R L 0 F = R := by
  funext i
  unfold q_fed
  rw [if_neg (by omega)]
theorem rem4 {k : Nat} (hk : k < 2 ^ 30) : nI k - nI k / nI 4 * nI 4 = nI (k % 4) := by
  rw [nI_div (by omega) (by decide), nI_mul, nI_sub (by omega)]
  congr 1
  omega
theorem m_feed_loop {a b c d e : Int32} {R S : Nat → Int32} {L : Nat} (hL : L + 20 ≤ 400) (hS : S 16 = nI L) {cl : CLw} {M0 : MMw} {Q : Int32 → MMw → Prop} (hend : ∀ M1 : MMw, M1 186 = q_fed R L 20 (q_five a b c d e) → M1 178 = upW S 16 (nI (L + 20)) → Fr [178, 186] M0 M1 → Q (nI (L + 20)) M1) :
    ∀ (n' k : Nat) (M1 : MMw), k + n' = 20 → M1 186 = q_fed R L k (q_five a b c d e) → M1 178 = upW S 16 (nI (L + k)) → Fr [178, 186] M0 M1 → Lq X cl 100 18 [some (.inr (.inl 178)), some (.inl a), some (.inl b), some (.inl c), some (.inl d), some (.inl e), some (.inl (nI k)), none] (Gk n tot kn kx) M1 Q
  | 0, k, M1, hk, h6, h8, hf => by
    refine Lq.of (t_100_18_ok X cl n tot kn kx _ _ _ _ _ _ M1) ?_
    unfold t_100_18
    have e20 : k = 20 := by omega
    subst e20
    rw [o_nI, if_neg (by decide +kernel), Wq_ret, h8, upW_s]
    exact hend M1 h6 h8 hf
  | n' + 1, k, M1, hk, h6, h8, hf => by
    refine Lq.of (t_100_18_ok X cl n tot kn kx _ _ _ _ _ _ M1) ?_
    unfold t_100_18
    have hk20 : k < 20 := by omega
    have go : ∀ x : Int32, q_byte x (24 - 8 * (k % 4)) = q_five a b c d e k → Lq X cl 100 18 [some (.inr (.inl 178)), some (.inl a), some (.inl b), some (.inl c), some (.inl d), some (.inl e), some (.inl (nI (k + 1))), none] (Gk n tot kn kx) (up (up M1 186 (L + k) (q_byte x (24 - 8 * (k % 4)))) 178 16 (nI (L + k + 1))) Q := by
      intro x hx
      refine m_feed_loop hL hS hend n' (k + 1) _ (by omega) ?_ ?_ ((hf.up (by decide)).up (by decide))
      · rw [up_ne (by decide), up_at, h6, hx, q_fed_up]
      · rw [up_at, up_ne (by decide), h8]
        funext i
        unfold upW
        by_cases hi : i = 16
        · rw [if_pos hi, if_pos hi]; rfl
        · rw [if_neg hi, if_neg hi, if_neg hi]
    have e8 : M1 178 16 = nI (L + k) := by rw [h8, upW_s]
    have e24 : nI 24 - nI 8 * nI (k % 4) = nI (24 - 8 * (k % 4)) := by rw [nI_mul, nI_sub (by omega)]
    simp only [o_nI, i1_nI]
    rw [if_pos (by rw [lt_i (by omega) (by omega)]; omega), e8, rem4 (by omega), e24, inb_nI (show L + k < 400 by omega) (by decide), nI_clamp (by omega), nI_add, nI_add]
    by_cases k4 : k < 4
    · rw [if_pos (by rw [lt_i (by omega) (by omega)]; omega), if_pos rfl, Wq_jmp]
      exact go a (by unfold q_five; rw [if_pos k4])
    rw [if_neg (by rw [lt_i (by omega) (by omega)]; omega)]
    by_cases k8 : k < 8
    · rw [if_pos (by rw [lt_i (by omega) (by omega)]; omega), if_pos rfl, Wq_jmp]
      exact go b (by unfold q_five; rw [if_neg k4, if_pos k8])
    rw [if_neg (by rw [lt_i (by omega) (by omega)]; omega)]
    by_cases k12 : k < 12
    · rw [if_pos (by rw [lt_i (by omega) (by omega)]; omega), if_pos rfl, Wq_jmp]
      exact go c (by unfold q_five; rw [if_neg k4, if_neg k8, if_pos k12])
    rw [if_neg (by rw [lt_i (by omega) (by omega)]; omega)]
    by_cases k16 : k < 16
    · rw [if_pos (by rw [lt_i (by omega) (by omega)]; omega), if_pos rfl, Wq_jmp]
      exact go d (by unfold q_five; rw [if_neg k4, if_neg k8, if_neg k12, if_pos k16])
    rw [if_neg (by rw [lt_i (by omega) (by omega)]; omega), if_pos rfl, Wq_jmp]
    exact go e (by unfold q_five; rw [if_neg k4, if_neg k8, if_neg k12, if_neg k16])
/-- the tape alone changes -/
theorem Rl.tape {len s : Nat} {M M' : MMw} {L' : List Nat} (h : Rl kn len s M) (hf : Fr L' M M') (hL : ∀ d, d ∈ L' → d = 95 ∨ (97 ≤ d ∧ d ≤ 119) ∨ d = 96 ∨ d = 178 ∨ d = 183 ∨ d = 184 ∨ d = 185 ∨ d = 186) (e5 : M' 178 5 = M 178 5) (e4 : M' 178 4 = M 178 4) (hT : RlT M') : Rl kn len s M' := by
  have g : ∀ d, ¬ (d = 95 ∨ (97 ≤ d ∧ d ≤ 119) ∨ d = 96 ∨ d = 178 ∨ d = 183 ∨ d = 184 ∨ d = 185 ∨ d = 186) → M' d = M d := fun d hd => hf d (fun hl => hd (hL d hl))
  have e9 : M' 179 = M 179 := g 179 (by omega)
  refine ⟨⟨by rw [e9]; exact h.1.1.fr hf (fun d hd => by have := hL d hd; unfold Yp; omega), by rw [e9]; have := h.1.2; unfold CRbook at this ⊢; rw [g 43 (by omega)]; exact this⟩, ?_, ?_, hT, ?_⟩
  · obtain ⟨i1, i2⟩ := h.2.1
    unfold RlI
    rw [e5, g 0 (by omega)]
    refine ⟨i1, ?_⟩
    rcases i2 with i2 | ⟨i2, i3, i4, i5, i6, i7⟩
    · exact Or.inl i2
    · rw [g 180 (by omega)]
      refine Or.inr ⟨i2, i3.fr hf (fun d hd => by have := hL d hd; unfold Yp; omega) i6.1, i4.fr hf (fun d hd => by have := hL d hd; omega), ?_, i6, i7⟩
      unfold CRbook at i5 ⊢
      rw [g 86 (by omega)]; exact i5
  · exact h.2.2.1.st ⟨fun c hc => g c (by omega), by rw [g 0 (by omega)], by rw [g 0 (by omega)], e4⟩ e9
  · obtain ⟨p1, p2, p3⟩ := h.2.2.2.2
    refine ⟨p1, by rw [g 124 (by omega)]; exact p2, ?_⟩
    rw [g kn (by omega)]
    exact p3
set_option maxHeartbeats 4000000 in
theorem P_feed (hD : 2 ≤ D) {a b c d e : Int32} {len s : Nat} (h : Rl kn len s M) : Pr X D 99 100 [.inr (.inl 0), .inl a, .inl b, .inl c, .inl d, .inl e] [.inr (.inl 178), .inl a, .inl b, .inl c, .inl d, .inl e] (Gk n tot kn kx) M (Rl kn len s) := by
  obtain ⟨t2, t3, L, hL, l1, l2, l3⟩ := h.2.2.2.1
  by_cases hq : L + 20 ≤ 400
  · refine Pr.mk (Q1 := fun x M1 => x = nI (L + 20) ∧ M1 96 = q_fed (M 96) L 20 (q_five a b c d e) ∧ M1 95 = upW (M 95) 1 (nI (L + 20)) ∧ Fr [95, 96] M M1) (Sq.mk (k := 1) hD (fun D' hD' => ?_)) ?_
    · refine Lq.of (t_99_0_ok X (callw X D') n tot kn kx _ _ _ _ _ M) ?_
      unfold t_99_0
      simp only [o_nI]
      rw [l1, nI_add, if_neg (by rw [lt_i (by omega) (by omega)]; omega)]
      have upp : ∀ (S : Nat → Int32) (v w : Int32), upW (upW S 1 v) 1 w = upW S 1 w := by
        intro S v w
        funext k
        unfold upW
        by_cases hk : k = 1
        · rw [if_pos hk, if_pos hk]
        · rw [if_neg hk, if_neg hk, if_neg hk]
      refine Wq.call (c_append hD' (show L + 4 ≤ 400 by omega) l1) ?_
      rintro x1 M1 ⟨a1, b1, f1⟩
      refine Wq.call (c_append (L := L + 4) hD' (by omega) (by rw [b1, upW_s])) ?_
      rintro x2 M2 ⟨a2, b2, f2⟩
      refine Wq.call (c_append (L := L + 8) hD' (by omega) (by rw [b2, upW_s])) ?_
      rintro x3 M3 ⟨a3, b3, f3⟩
      refine Wq.call (c_append (L := L + 12) hD' (by omega) (by rw [b3, upW_s])) ?_
      rintro x4 M4 ⟨a4, b4, f4⟩
      refine Wq.call (c_append (L := L + 16) hD' (by omega) (by rw [b4, upW_s])) ?_
      rintro x5 M5 ⟨a5, b5, f5⟩
      rw [Wq_ret]
      refine ⟨by rw [b5, upW_s], ?_, ?_, (((f1.tr f2).tr f3).tr f4).tr f5⟩
      · have s1 := q_app_fed (R := M 96) (F := q_five a b c d e) (L := L) (j := 0) (x := a) (fun i hi => by unfold q_five; rw [if_pos (by omega), show (4 * 0 + i) % 4 = i by omega])
        have s2 := q_app_fed (R := M 96) (F := q_five a b c d e) (L := L) (j := 1) (x := b) (fun i hi => by unfold q_five; rw [if_neg (by omega), if_pos (by omega), show (4 * 1 + i) % 4 = i by omega])
        have s3 := q_app_fed (R := M 96) (F := q_five a b c d e) (L := L) (j := 2) (x := c) (fun i hi => by unfold q_five; rw [if_neg (by omega), if_neg (by omega), if_pos (by omega), show (4 * 2 + i) % 4 = i by omega])
        have s4 := q_app_fed (R := M 96) (F := q_five a b c d e) (L := L) (j := 3) (x := d) (fun i hi => by unfold q_five; rw [if_neg (by omega), if_neg (by omega), if_neg (by omega), if_pos (by omega), show (4 * 3 + i) % 4 = i by omega])
        have s5 := q_app_fed (R := M 96) (F := q_five a b c d e) (L := L) (j := 4) (x := e) (fun i hi => by unfold q_five; rw [if_neg (by omega), if_neg (by omega), if_neg (by omega), if_neg (by omega), show (4 * 4 + i) % 4 = i by omega])
        rw [Nat.mul_zero, q_fed_0, Nat.add_zero] at s1
        rw [a5, a4, a3, a2, a1, s1]
        rw [show L + 4 = L + 4 * 1 from rfl, s2, show L + 8 = L + 4 * 2 from rfl, s3, show L + 12 = L + 4 * 3 from rfl, s4, show L + 16 = L + 4 * 4 from rfl, s5]
      · rw [b5, b4, b3, b2, b1, upp, upp, upp, upp]
    · rintro x M1 ⟨rfl, g6, g5, hf⟩
      have e8 : M1 178 = M 178 := hf 178 (by decide)
      refine Sq.mk (k := 1) hD (fun D' hD' => ?_)
      refine Lq.of (t_100_0_ok X (callw X D') n tot kn kx _ _ _ _ _ M1) ?_
      unfold t_100_0
      simp only [o_nI]
      rw [e8, l2, nI_add, if_neg (by rw [lt_i (by omega) (by omega)]; omega), Wq_jmp]
      refine m_feed_loop (R := M 186) (S := M 178) (M0 := M1) hq l2 ?_ 20 0 M1 (by decide) (by rw [q_fed_0, hf 186 (by decide)]) ?_ Fr.rf
      · intro M2 r6 r8 hf2
        refine ⟨rfl, h.tape (L' := [95, 96, 178, 186]) ((hf.mono (by decide)).tr (hf2.mono (by decide))) (by decide) (by rw [r8, upW_n (by decide)]) (by rw [r8, upW_n (by decide)]) ?_⟩
        unfold RlT
        rw [r8, hf2 95 (by decide), hf2 96 (by decide), g5, g6, r6, upW_n (by decide), upW_n (by decide), upW_n (by decide), upW_n (by decide), upW_s, upW_s]
        refine ⟨t2, t3, L + 20, hq, rfl, rfl, fun i hi => ?_⟩
        unfold q_fed
        by_cases h1 : L ≤ i ∧ i < L + 20
        · rw [if_pos h1, if_pos h1]
          exact ⟨rfl, byte_lt⟩
        · rw [if_neg h1, if_neg h1]
          exact l3 i (by omega)
      · rw [e8]
        funext i
        unfold upW
        by_cases hi : i = 16
        · rw [if_pos hi, hi, l2, Nat.add_zero]
        · rw [if_neg hi]
  · refine Pr.mk (Q1 := fun x M1 => x = -1 ∧ M1 = M) (Sq.mk (k := 1) hD (fun D' hD' => ?_)) ?_
    · refine Lq.of (t_99_0_ok X (callw X D') n tot kn kx _ _ _ _ _ M) ?_
      unfold t_99_0
      simp only [o_nI, m1n]
      rw [l1, nI_add, if_pos (by rw [lt_i (by omega) (by omega)]; omega), Wq_ret]
      exact ⟨rfl, rfl⟩
    · rintro x M1 ⟨rfl, rfl⟩
      refine Sq.mk (k := 1) hD (fun D' hD' => ?_)
      refine Lq.of (t_100_0_ok X (callw X D') n tot kn kx _ _ _ _ _ M1) ?_
      unfold t_100_0
      simp only [o_nI, m1n]
      rw [l2, nI_add, if_pos (by rw [lt_i (by omega) (by omega)]; omega), Wq_ret]
      exact ⟨rfl, h⟩
end
