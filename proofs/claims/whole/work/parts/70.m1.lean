section
-- needs: pure defs
/-! the reference model: reading, and its laws -/
/-- a stack as a row, its top first -/
def Stk (M : MMw) (p : Nat) : List Int32 → Prop
  | [] => True
  | v :: r => M p r.length = v ∧ Stk M p r
theorem Stk.upd {M : MMw} {p k : Nat} {v : Int32} : ∀ {st : List Int32}, Stk M p st → st.length ≤ k → Stk (up M p k v) p st
  | [], _, _ => trivial
  | a :: r, h, hk => by
    have hk2 : r.length + 1 ≤ k := hk
    refine ⟨?_, Stk.upd (M := M) (p := p) h.2 (by omega)⟩
    rw [up_at, upW_n (by omega)]
    exact h.1
theorem Stk.push {M : MMw} {p : Nat} {v : Int32} {st : List Int32} (h : Stk M p st) : Stk (up M p st.length v) p (v :: st) := ⟨by rw [up_at, upW_s], h.upd (Nat.le_refl _)⟩
theorem Stk.fr {M M' : MMw} {p : Nat} (he : M' p = M p) : ∀ {st : List Int32}, Stk M p st → Stk M' p st
  | [], _ => trivial
  | _ :: _, h => ⟨by rw [he]; exact h.1, Stk.fr he h.2⟩
variable {X : KXw} {n tot kn D : Nat} {kx : Nat → Nat × Nat} {M : MMw}
theorem m_ofTool (hD : 1 ≤ D) {t f : Nat} (h : 16 + 10 * t + f < 2834) : callw X D 44 [.inr (.inl 178), .inl (nI t), .inl (nI f)] (Gk n tot kn kx) M = some (M 179 (16 + 10 * t + f), Gk n tot kn kx, M) :=
  ex1 hD (fun cl => t_44_0_ok X cl n tot kn kx _ _ M) (fun cl => by
    unfold t_44_0
    simp only [o_nI, nI_mul, nI_add]
    rw [if_pos (inb_nI h (by omega)), nI_clamp (by omega)])
theorem m_ofMan (hD : 1 ≤ D) {t f : Nat} (h : 130 + 2 * t + f < 2834) : callw X D 80 [.inr (.inl 178), .inl (nI t), .inl (nI f)] (Gk n tot kn kx) M = some (M 179 (130 + 2 * t + f), Gk n tot kn kx, M) :=
  ex1 hD (fun cl => t_80_0_ok X cl n tot kn kx _ _ M) (fun cl => by
    unfold t_80_0
    simp only [o_nI, nI_mul, nI_add]
    rw [if_pos (inb_nI h (by omega)), nI_clamp (by omega)])
theorem m_ofWork (hD : 1 ≤ D) {t f : Nat} (h : 142 + 3 * t + f < 2834) : callw X D 76 [.inr (.inl 178), .inl (nI t), .inl (nI f)] (Gk n tot kn kx) M = some (M 179 (142 + 3 * t + f), Gk n tot kn kx, M) :=
  ex1 hD (fun cl => t_76_0_ok X cl n tot kn kx _ _ M) (fun cl => by
    unfold t_76_0
    simp only [o_nI, nI_mul, nI_add]
    rw [if_pos (inb_nI h (by omega)), nI_clamp (by omega)])
theorem m_tools (hD : 1 ≤ D) {t f : Nat} {v : Int32} (h : 16 + 10 * t + f < 2834) : callw X D 21 [.inr (.inl 178), .inl (nI t), .inl (nI f), .inl v] (Gk n tot kn kx) M = some (0, Gk n tot kn kx, up M 179 (16 + 10 * t + f) v) :=
  ex1 hD (fun cl => t_21_0_ok X cl n tot kn kx _ _ _ M) (fun cl => by
    unfold t_21_0
    simp only [o_nI, nI_mul, nI_add]
    rw [if_pos (inb_nI h (by omega)), nI_clamp (by omega)])
theorem m_isIn (hD : 1 ≤ D) {v a b : Int32} : callw X D 20 [.inl v, .inl a, .inl b] (Gk n tot kn kx) M = some (if v < a then nI 0 else if b < v then nI 0 else nI 1, Gk n tot kn kx, M) :=
  ex1 hD (fun cl => t_20_0_ok X cl n tot kn kx _ _ _ M) (fun cl => by
    unfold t_20_0
    simp only [o_nI]
    split
    · rfl
    · split <;> rfl)
theorem m_lesser (hD : 1 ≤ D) {a b : Int32} : callw X D 45 [.inl a, .inl b] (Gk n tot kn kx) M = some (if a < b then a else b, Gk n tot kn kx, M) :=
  ex1 hD (fun cl => t_45_0_ok X cl n tot kn kx _ _ M) (fun cl => by
    unfold t_45_0
    split <;> rfl)
theorem m_greater (hD : 1 ≤ D) {a b : Int32} : callw X D 46 [.inl a, .inl b] (Gk n tot kn kx) M = some (if b < a then a else b, Gk n tot kn kx, M) :=
  ex1 hD (fun cl => t_46_0_ok X cl n tot kn kx _ _ M) (fun cl => by
    unfold t_46_0
    split <;> rfl)
theorem m_held (hD : 2 ≤ D) {v lo hi : Int32} : callw X D 88 [.inl v, .inl lo, .inl hi] (Gk n tot kn kx) M = some (q_held v lo hi, Gk n tot kn kx, M) :=
  exk (k := 1) hD (fun D' hD' => t_88_0_ok X (callw X D') n tot kn kx _ _ _ M) (fun D' hD' => by
    unfold t_88_0
    rw [m_lesser hD']
    simp only [bnd_some]
    rw [m_greater hD']
    simp only [bnd_some]
    unfold q_held
    rfl)
theorem m_both (hD : 1 ≤ D) {s a b : Int32} (h : ¬ s = nI 26) (h2 : ¬ s = nI 30) : callw X D 82 [.inl s, .inl a, .inl b] (Gk n tot kn kx) M = some (q_op s a b, Gk n tot kn kx, M) :=
  ex1 hD (fun cl => t_82_0_ok X cl n tot kn kx _ _ _ M) (fun cl => by
    unfold t_82_0 q_op
    simp only [o_nI]
    by_cases a23 : s = nI 23
    · rw [if_pos a23, if_pos a23]
    rw [if_neg a23, if_neg a23]
    by_cases a24 : s = nI 24
    · rw [if_pos a24, if_pos a24]
    rw [if_neg a24, if_neg a24]
    by_cases a25 : s = nI 25
    · rw [if_pos a25, if_pos a25]
    rw [if_neg a25, if_neg a25]
    rw [if_neg h]
    by_cases a27 : s = nI 27
    · rw [if_pos a27, if_pos a27]; split <;> rfl
    rw [if_neg a27, if_neg a27]
    by_cases a28 : s = nI 28
    · rw [if_pos a28, if_pos a28]; split <;> rfl
    rw [if_neg a28, if_neg a28]
    by_cases a29 : s = nI 29
    · rw [if_pos a29, if_pos a29]; split <;> rfl
    rw [if_neg a29, if_neg a29]
    rw [if_neg h2]
    by_cases a31 : s = nI 31
    · rw [if_pos a31, if_pos a31]
    rw [if_neg a31, if_neg a31])
set_option maxHeartbeats 2000000 in
theorem m_lays (hD : 2 ≤ D) {t m : Nat} (ht : t < 8) (hm : m < 4) : Sq X D 81 [.inr (.inl 178), .inl (nI t), .inl (nI m)] (Gk n tot kn kx) M (fun x M' => Fr [188] M M' ∧ ∀ i, 1 ≤ i → i ≤ 10 → M' 188 i = q_fact (M 179) t m i) :=
  Sq.mk (k := 1) hD (fun D' hD' => by
    refine Lq.of (t_81_0_ok X (callw X D') n tot kn kx _ _ M) ?_
    unfold t_81_0
    simp (disch := omega) only [o_nI, m_ofMan, m_ofTool, bnd_some, up_ne]
    have key : ∀ v, v = q_ab (M 179) t m → Lq X (callw X D') 81 88 [some (.inr (.inl 178)), some (.inl (nI t)), none] (Gk n tot kn kx) (up (up (up (up (up (up M 188 1 (M 179 (130 + 2 * m + 0))) 188 2 (M 179 (16 + 10 * t + 3))) 188 3 (M 179 (16 + 10 * t + 4))) 188 4 (M 179 (16 + 10 * t + 7))) 188 5 (M 179 (16 + 10 * t + 0))) 188 6 v) (fun x M' => Fr [188] M M' ∧ ∀ i, 1 ≤ i → i ≤ 10 → M' 188 i = q_fact (M 179) t m i) := by
      intro v hv
      refine Lq.of (t_81_88_ok X (callw X D') n tot kn kx _ _) ?_
      unfold t_81_88
      simp (disch := omega) only [o_nI, m_ofMan, m_ofTool, bnd_some, up_ne, Wq_ret]
      refine ⟨?_, ?_⟩
      · exact ((((((((((Fr.rf).up (by decide)).up (by decide)).up (by decide)).up (by decide)).up (by decide)).up (by decide)).up (by decide)).up (by decide)).up (by decide)).up (by decide)
      · intro i h1 h2
        have h3 : i = 1 ∨ i = 2 ∨ i = 3 ∨ i = 4 ∨ i = 5 ∨ i = 6 ∨ i = 7 ∨ i = 8 ∨ i = 9 ∨ i = 10 := by omega
        rcases h3 with rfl | rfl | rfl | rfl | rfl | rfl | rfl | rfl | rfl | rfl <;> (simp [up_at, upW, q_fact, q_bell, q_week, q_rem, hv]; try exact congrArg (M 179) (by omega))
    split
    · rename_i h
      rw [Wq_jmp]
      refine key _ ?_
      unfold q_ab
      rw [if_pos (by rw [show 18 + 10 * t = 16 + 10 * t + 2 by omega, show 131 + 2 * m = 130 + 2 * m + 1 by omega]; exact h)]
    · rename_i h
      rw [Wq_jmp]
      refine key _ ?_
      unfold q_ab
      rw [if_neg (by rw [show 18 + 10 * t = 16 + 10 * t + 2 by omega, show 131 + 2 * m = 130 + 2 * m + 1 by omega]; exact h)])
theorem nI_dec (k : Nat) : nI (k + 1) + -1 = nI k := by rw [← Int32.sub_eq_add_neg]; exact nI_pred k
set_option maxHeartbeats 4000000 in
theorem m_comes_loop (hD : 1 ≤ D) {k e : Nat} (hk : k < 2) (he : e ≤ 400) {F C : Nat → Int32} : ∀ (c i : Nat) (st : List Int32) (M : MMw), i + c = e → Stk M 187 st → st.length ≤ 64 → (∀ j, 1 ≤ j → j ≤ 10 → M 188 j = F j) → q_wf (q_S (M 179) k) C c i st.length 1 →
    Lq X (callw X D) 83 6 [some (.inr (.inl 178)), some (.inl (nI k)), none, some (.inl (nI e)), some (.inl (nI st.length)), some (.inl (nI i)), none, none] (Gk n tot kn kx) M (fun x M' => x = (q_run F (q_S (M 179) k) c i st).headD (nI 0) ∧ Fr [187] M M')
  | 0, i, st, M, hi, hs, hl, hF, hw => by
    refine Lq.of (t_83_6_ok X (callw X D) n tot kn kx _ _ _ _ M) ?_
    unfold t_83_6
    have h1 : st.length = 1 := hw
    obtain ⟨a, rfl⟩ : ∃ a, st = [a] := List.length_eq_one_iff.mp h1
    rw [if_neg (by rw [lt_i (by omega) (by omega)]; omega), Wq_ret]
    exact ⟨hs.1, Fr.rf⟩
  | c + 1, i, st, M, hi, hs, hl, hF, hw => by
    refine Lq.of (t_83_6_ok X (callw X D) n tot kn kx _ _ _ _ M) ?_
    unfold t_83_6
    have hi2 : i < e := by omega
    obtain ⟨f, ho, hw2⟩ := hw
    simp (disch := omega) only [o_nI, i1_nI, im1_nI, nI_mul, nI_add, lt_i, hi2, if_true, inb_nI, nI_clamp]
    have next : ∀ (st' : List Int32) (M' : MMw), f = st'.length → st'.length ≤ 64 → Stk M' 187 st' → Fr [187] M M' → st' = q_step F (q_S (M 179) k i).1 (q_S (M 179) k i).2 st → Lq X (callw X D) 83 6 [some (.inr (.inl 178)), some (.inl (nI k)), none, some (.inl (nI e)), some (.inl (nI f)), some (.inl (nI (i + 1))), none, none] (Gk n tot kn kx) M' (fun x M' => x = (q_run F (q_S (M 179) k) (c + 1) i st).headD (nI 0) ∧ Fr [187] M M') := by
      intro st' M' hf hl' hs' hfr hst
      subst hf
      have e1 : M' 179 = M 179 := hfr 179 (by decide)
      have e2 : M' 188 = M 188 := hfr 188 (by decide)
      refine Lq.mono (m_comes_loop (F := F) (C := C) hD hk he c (i + 1) st' M' (by omega) hs' hl' (fun j h1 h2 => by rw [e2]; exact hF j h1 h2) (by rw [e1]; exact hw2)) ?_
      rintro x M2 ⟨h1, h2⟩
      refine ⟨?_, hfr.tr h2⟩
      rw [h1, e1, hst]
      rfl
    rcases ho with ⟨v, hv, h1, h2, h3, h4, h5⟩ | ⟨v, hv, h1, h3, h4, h5⟩ | ⟨v, hv1, hv, h1, h2, h3, h4, h5⟩ | ⟨h1, h3, h4, h5⟩ | ⟨p, hp, h1, h3, h4, h5⟩
    · have h1' : M 179 (394 + 820 * k + 2 * i) = nI 0 := h1
      have h2' : M 179 (394 + 820 * k + 2 * i + 1) = nI v := h2
      simp (disch := omega) only [h1', h2', lt_i, z_nI, if_true, Nat.reduceLT, inb_nI, Wq_jmp]
      rw [← h5]
      refine next (nI v :: st) _ h5 (by simp; omega) hs.push ((Fr.rf).up (by decide)) ?_
      rw [h1, h2]
      rfl
    · have h1' : M 179 (394 + 820 * k + 2 * i) = nI (v + 1) := h1
      simp (disch := omega) only [h1', lt_i, z_nI, eq_i, inb_nI, nI_clamp]
      rw [if_pos (by omega), if_neg (by omega)]
      simp only [if_true, Wq_jmp]
      rw [← h5, hF (v + 1) (by omega) (by omega)]
      refine next (F (v + 1) :: st) _ h5 (by simp; omega) hs.push ((Fr.rf).up (by decide)) ?_
      unfold q_step
      rw [h1, if_pos (by rw [lt_i (by omega) (by omega)]; omega), if_neg (by rw [eq_i (by omega) (by omega)]; omega), nI_clamp (by omega)]
    · have h1' : M 179 (394 + 820 * k + 2 * i) = nI 26 := h1
      have h2' : M 179 (394 + 820 * k + 2 * i + 1) = nI v := h2
      obtain ⟨a, r, rfl⟩ : ∃ a r, st = a :: r := List.exists_cons_of_length_pos h4
      have hl2 : r.length + 1 ≤ 64 := hl
      simp (disch := omega) only [h1', h2', lt_i, z_nI, eq_i, if_true, Nat.reduceLT, if_false, List.length_cons, nI_sub, Nat.add_sub_cancel, inb_nI, nI_clamp, Wq_jmp]
      rw [if_neg (by omega)]
      have h5' : f = r.length + 1 := h5
      rw [← h5', hs.1]
      refine next (a / nI v :: r) _ h5 hl hs.2.push ((Fr.rf).up (by decide)) ?_
      rw [h1, h2]
      rfl
    · have h1' : M 179 (394 + 820 * k + 2 * i) = nI 30 := h1
      obtain ⟨a, r, rfl⟩ : ∃ a r, st = a :: r := List.exists_cons_of_length_pos h4
      have hl2 : r.length + 1 ≤ 64 := hl
      simp (disch := omega) only [h1', lt_i, z_nI, eq_i, if_true, Nat.reduceLT, Nat.reduceEqDiff, if_false, List.length_cons, nI_sub, Nat.add_sub_cancel, inb_nI, nI_clamp, Wq_jmp]
      have h5' : f = r.length + 1 := h5
      rw [← h5', hs.1]
      refine next ((nI 1 - a) :: r) _ h5 hl hs.2.push ((Fr.rf).up (by decide)) ?_
      rw [h1]
      rfl
    · have h1' : M 179 (394 + 820 * k + 2 * i) = nI p.1 := h1
      have hp2 : p.1 < 40 ∧ ¬ p.1 < 23 ∧ ¬ p.1 = 26 ∧ ¬ p.1 = 30 := by
        simp only [List.mem_cons, List.not_mem_nil, or_false] at hp
        rcases hp with rfl | rfl | rfl | rfl | rfl | rfl | rfl | rfl <;> decide
      obtain ⟨hp3, hp4, hp5, hp6⟩ := hp2
      obtain ⟨b, a, r, rfl⟩ : ∃ b a r, st = b :: a :: r := by
        match st, h4 with
        | [], h4 => simp at h4
        | [b], h4 => simp at h4; omega
        | b :: a :: r, _ => exact ⟨b, a, r, rfl⟩
      have hl2 : r.length + 1 + 1 ≤ 64 := hl
      have hb : callw X D 82 [.inl (nI p.1), .inl a, .inl b] (Gk n tot kn kx) M = some (q_op (nI p.1) a b, Gk n tot kn kx, M) := m_both hD (by rw [eq_i (by omega) (by omega)]; exact hp5) (by rw [eq_i (by omega) (by omega)]; exact hp6)
      have ha0 : M 187 (r.length + 1) = b := hs.1
      have ha1 : M 187 r.length = a := hs.2.1
      simp (disch := omega) only [h1', lt_i, z_nI, eq_i, hp4, hp5, hp6, if_false, List.length_cons, nI_dec, Wq_jmp]
      refine Lq.of (t_83_150_ok X (callw X D) n tot kn kx _ _ _ _ _ M) ?_
      unfold t_83_150
      simp (disch := omega) only [o_nI, i1_nI, nI_add, nI_sub, Nat.add_sub_cancel, inb_nI, if_true, nI_clamp, ha0, ha1, hb, bnd_some, Wq_jmp]
      have h5' : f = r.length + 1 := by simp at h4; omega
      rw [← h5']
      refine next (q_op (nI p.1) a b :: r) _ h5' (by simp; omega) hs.2.2.push ((Fr.rf).up (by decide)) ?_
      unfold q_step
      rw [h1, if_neg (by rw [lt_i (by omega) (by omega)]; exact hp4), if_neg (by rw [eq_i (by omega) (by omega)]; exact hp5), if_neg (by rw [eq_i (by omega) (by omega)]; exact hp6)]
theorem m_comes (hD : 2 ≤ D) {k b e : Nat} (hk : k < 2) (hb : b ≤ e) (he : e ≤ 400) {F C : Nat → Int32} (hF : ∀ j, 1 ≤ j → j ≤ 10 → M 188 j = F j) (hw : q_wf (q_S (M 179) k) C (e - b) b 0 1) :
    Sq X D 83 [.inr (.inl 178), .inl (nI k), .inl (nI b), .inl (nI e)] (Gk n tot kn kx) M (fun x M' => x = q_val F (q_S (M 179) k) b e ∧ Fr [187] M M') :=
  Sq.mk (k := 1) hD (fun D' hD' => by
    refine Lq.of (t_83_0_ok X (callw X D') n tot kn kx _ _ _ M) ?_
    unfold t_83_0
    simp only [o_nI, Wq_jmp]
    exact m_comes_loop hD' hk he (e - b) b [] M (by omega) trivial (by decide) hF hw)
end
