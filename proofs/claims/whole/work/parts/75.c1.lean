section
-- needs: m2 rel
/-! the class: reading, and its laws -/
theorem sel_lt {a b : Int32} : (if b < a then b else a) = if a < b then a else b := by
  by_cases h1 : b < a
  · by_cases h2 : a < b
    · exfalso
      rw [Int32.lt_iff_toInt_lt] at h1 h2
      omega
    · rw [if_pos h1, if_neg h2]
  · by_cases h2 : a < b
    · rw [if_neg h1, if_pos h2]
    · rw [if_neg h1, if_neg h2]
      rw [Int32.lt_iff_toInt_lt] at h1 h2
      exact Int32.toInt_inj.mp (by omega)
theorem cd_op {k r : Nat} (hr : r < 16) : nI (16 * k + r) &&& nI 15 = nI r := by
  rw [nI_and, show (15 : Nat) = 2 ^ 4 - 1 from rfl, Nat.and_two_pow_sub_one_eq_mod]
  congr 1
  omega
theorem cd_v {k r : Nat} (hr : r < 16) (hk : k ≤ 100000) : nI (16 * k + r) >>> (nI 4 &&& 31) = nI k := by
  rw [nI_shr (by omega) (by decide), Nat.shiftRight_eq_div_pow]
  congr 1
  omega
variable {X : KXw} {n tot kn D : Nat} {kx : Nat → Nat × Nat} {M : MMw}
theorem c_isIn (hD : 1 ≤ D) {s i : Int32} : callw X D 48 [.inl s, .inl i] (Gk n tot kn kx) M = some (b2i (q_bit s i), Gk n tot kn kx, M) :=
  ex1 hD (fun cl => t_48_0_ok X cl n tot kn kx _ _ M) (fun cl => by
    unfold t_48_0
    simp only [o_nI, bit_1]
    cases q_bit s i <;> rfl)
theorem c_min (hD : 1 ≤ D) {a b : Int32} : callw X D 34 [.inl a, .inl b] (Gk n tot kn kx) M = some (if a < b then a else b, Gk n tot kn kx, M) :=
  ex1 hD (fun cl => t_34_0_ok X cl n tot kn kx _ _ M) (fun cl => by
    unfold t_34_0
    rw [← sel_lt]
    split <;> rfl)
theorem c_max (hD : 1 ≤ D) {a b : Int32} : callw X D 38 [.inl a, .inl b] (Gk n tot kn kx) M = some (if b < a then a else b, Gk n tot kn kx, M) :=
  ex1 hD (fun cl => t_38_0_ok X cl n tot kn kx _ _ M) (fun cl => by
    unfold t_38_0
    by_cases h1 : a < b
    · rw [if_pos h1, if_neg (by rw [Int32.lt_iff_toInt_lt] at h1 ⊢; omega)]
    · rw [if_neg h1]
      by_cases h2 : b < a
      · rw [if_pos h2]
      · rw [if_neg h2, show a = b from Int32.toInt_inj.mp (by rw [Int32.lt_iff_toInt_lt] at h1 h2; omega)])
theorem c_held (hD : 2 ≤ D) {v lo hi : Int32} : callw X D 39 [.inl v, .inl lo, .inl hi] (Gk n tot kn kx) M = some (q_held v lo hi, Gk n tot kn kx, M) :=
  exk (k := 1) hD (fun D' hD' => t_39_0_ok X (callw X D') n tot kn kx _ _ _ M) (fun D' hD' => by
    unfold t_39_0
    rw [c_min hD', bnd_some, c_max hD', bnd_some]
    unfold q_held
    rfl)
set_option maxHeartbeats 8000000 in
theorem c_reckon31_loop {e : Nat} (he : e ≤ 400) {F : Nat → Int32} {cl : CLw} {S : Nat → Int32 × Int32} : ∀ (c i : Nat) (st : List Int32) (M : MMw), i + c = e → Stk M 121 st → st.length ≤ 64 → (∀ j, j < 10 → M 122 j = F (j + 1)) → q_wf S (M 36) c i st.length 1 →
    Lq X cl 62 6 [some (.inr (.inl 120)), some (.inr (.inl 31)), none, some (.inl (nI e)), some (.inl (nI st.length)), some (.inl (nI i)), none, none, none, none] (Gk n tot kn kx) M (fun x M' => x = (q_run F S c i st).headD (nI 0) ∧ Fr [121] M M')
  | 0, i, st, M, hi, hs, hl, hF, hw => by
    refine Lq.of (t_62_p120_p31_6_ok X cl n tot kn kx _ _ _ M) ?_
    unfold t_62_p120_p31_6
    have h1 : st.length = 1 := hw
    obtain ⟨a, rfl⟩ : ∃ a, st = [a] := List.length_eq_one_iff.mp h1
    have hi2 : ¬ i < e := by omega
    have h0 : M 121 0 = a := hs.1
    simp (disch := omega) only [o_nI, z_nI, lt_i, Nat.not_lt_zero, hi2, List.length_cons, List.length_nil, Nat.zero_add, Nat.lt_one_iff, ↓reduceIte, h0, Nat.reduceLT, Wq_ret]
    exact ⟨rfl, Fr.rf⟩
  | c + 1, i, st, M, hi, hs, hl, hF, hw => by
    refine Lq.of (t_62_p120_p31_6_ok X cl n tot kn kx _ _ _ M) ?_
    unfold t_62_p120_p31_6
    have hi2 : i < e := by omega
    have hi3 : i < 400 := by omega
    obtain ⟨f, ho, hw2⟩ := hw
    simp (disch := omega) only [o_nI, z_nI, i1_nI, im1_nI, nI_add, lt_i, Nat.not_lt_zero, hi2, hi3, ↓reduceIte, inb_nI, nI_clamp]
    have next : ∀ (st' : List Int32) (M' : MMw), f = st'.length → st'.length ≤ 64 → Stk M' 121 st' → Fr [121] M M' → st' = q_step F (S i).1 (S i).2 st → Lq X cl 62 6 [some (.inr (.inl 120)), some (.inr (.inl 31)), none, some (.inl (nI e)), some (.inl (nI f)), some (.inl (nI (i + 1))), none, none, none, none] (Gk n tot kn kx) M' (fun x M' => x = (q_run F S (c + 1) i st).headD (nI 0) ∧ Fr [121] M M') := by
      intro st' M' hf hl' hs' hfr hst
      subst hf
      have e1 : M' 36 = M 36 := hfr 36 (by decide)
      have e2 : M' 122 = M 122 := hfr 122 (by decide)
      refine Lq.mono (c_reckon31_loop he (F := F) (S := S) c (i + 1) st' M' (by omega) hs' hl' (fun j h1 => by rw [e2]; exact hF j h1) (by rw [e1]; exact hw2)) ?_
      rintro x M2 ⟨h1, h2⟩
      refine ⟨?_, hfr.tr h2⟩
      rw [h1, hst]
      rfl
    rcases ho with ⟨v, hv, h1, h2, h3, h4, h5⟩ | ⟨v, hv, h1, h3, h4, h5⟩ | ⟨v, hv1, hv, h1, h2, h3, h4, h5⟩ | ⟨h1, h3, h4, h5⟩ | ⟨p, hp, h1, h3, h4, h5⟩
    · have ho : M 36 i &&& nI 15 = nI 0 := by rw [h3]; exact cd_op (k := v) (r := 0) (by decide)
      have hv2 : M 36 i >>> (nI 4 &&& 31) = nI v := by rw [h3]; exact cd_v (k := v) (r := 0) (by decide) (by omega)
      simp (disch := omega) only [ho, hv2, lt_i, eq_i, Nat.reduceLT, Nat.reduceEqDiff, h4, ↓reduceIte, inb_nI, nI_clamp, Wq_jmp]
      rw [← h5]
      refine next (nI v :: st) _ h5 (by simp; omega) hs.push ((Fr.rf).up (by decide)) ?_
      rw [h1, h2]
      rfl
    · have ho : M 36 i &&& nI 15 = nI 1 := by rw [h3]; exact cd_op (by decide)
      have hv2 : M 36 i >>> (nI 4 &&& 31) = nI v := by rw [h3]; exact cd_v (by decide) (by omega)
      simp (disch := omega) only [ho, hv2, lt_i, eq_i, Nat.reduceLT, Nat.reduceEqDiff, Nat.not_lt_zero, h4, hv, ↓reduceIte, inb_nI, nI_clamp, Wq_jmp]
      rw [← h5, hF v hv]
      refine next (F (v + 1) :: st) _ h5 (by simp; omega) hs.push ((Fr.rf).up (by decide)) ?_
      unfold q_step
      rw [h1, if_pos (by rw [lt_i (by omega) (by omega)]; omega), if_neg (by rw [eq_i (by omega) (by omega)]; omega), nI_clamp (by omega)]
    · have ho : M 36 i &&& nI 15 = nI 2 := by rw [h3]; exact cd_op (by decide)
      have hv2 : M 36 i >>> (nI 4 &&& 31) = nI v := by rw [h3]; exact cd_v (by decide) (by omega)
      obtain ⟨a, r, rfl⟩ : ∃ a r, st = a :: r := List.exists_cons_of_length_pos h4
      have hl2 : r.length + 1 ≤ 64 := hl
      have hv0 : ¬ v = 0 := by omega
      have hr1 : ¬ r.length + 1 < 1 := by omega
      simp (disch := omega) only [ho, hv2, lt_i, eq_i, Nat.reduceLT, Nat.reduceEqDiff, ↓reduceIte, List.length_cons, hr1, hv0, Wq_jmp]
      refine Lq.of (t_62_p120_p31_137_ok X cl n tot kn kx _ _ _ _ _ M) ?_
      unfold t_62_p120_p31_137
      simp (disch := omega) only [o_nI, z_nI, i1_nI, nI_add, eq_i, Nat.reduceEqDiff, nI_sub, Nat.add_sub_cancel, inb_nI, ↓reduceIte, nI_clamp, hv0, Wq_jmp]
      have h5' : f = r.length + 1 := h5
      rw [← h5', hs.1]
      refine next (a / nI v :: r) _ h5 hl hs.2.push ((Fr.rf).up (by decide)) ?_
      rw [h1, h2]
      rfl
    · have ho : M 36 i &&& nI 15 = nI 3 := by rw [h3]; exact cd_op (k := 0) (r := 3) (by decide)
      have hv2 : M 36 i >>> (nI 4 &&& 31) = nI 0 := by rw [h3]; exact cd_v (k := 0) (r := 3) (by decide) (by omega)
      obtain ⟨a, r, rfl⟩ : ∃ a r, st = a :: r := List.exists_cons_of_length_pos h4
      have hl2 : r.length + 1 ≤ 64 := hl
      have hr1 : ¬ r.length + 1 < 1 := by omega
      simp (disch := omega) only [ho, hv2, lt_i, eq_i, Nat.reduceLT, Nat.reduceEqDiff, ↓reduceIte, List.length_cons, hr1, Wq_jmp]
      refine Lq.of (t_62_p120_p31_137_ok X cl n tot kn kx _ _ _ _ _ M) ?_
      unfold t_62_p120_p31_137
      simp (disch := omega) only [o_nI, z_nI, i1_nI, nI_add, eq_i, Nat.reduceEqDiff, nI_sub, Nat.add_sub_cancel, inb_nI, ↓reduceIte, nI_clamp, Wq_jmp]
      have h5' : f = r.length + 1 := h5
      rw [← h5', hs.1]
      refine next ((nI 1 - a) :: r) _ h5 hl hs.2.push ((Fr.rf).up (by decide)) ?_
      rw [h1]
      rfl
    · have hp2 : p.2 < 16 ∧ ¬ p.2 < 4 := by
        simp only [List.mem_cons, List.not_mem_nil, or_false] at hp
        rcases hp with rfl | rfl | rfl | rfl | rfl | rfl | rfl | rfl <;> decide
      obtain ⟨hp3, hp4⟩ := hp2
      have ho : M 36 i &&& nI 15 = nI p.2 := by
        rw [h3]
        have := cd_op (k := 0) (r := p.2) hp3
        rwa [Nat.mul_zero, Nat.zero_add] at this
      obtain ⟨b, a, r, rfl⟩ : ∃ b a r, st = b :: a :: r := by
        match st, h4 with
        | [], h4 => simp at h4
        | [b], h4 => simp at h4; omega
        | b :: a :: r, _ => exact ⟨b, a, r, rfl⟩
      have hl2 : r.length + 1 + 1 ≤ 64 := hl
      have ha0 : M 121 (r.length + 1) = b := hs.1
      have ha1 : M 121 r.length = a := hs.2.1
      have g1 : 1 < p.2 := by omega
      have g3 : 3 < p.2 := by omega
      have g2 : ¬ r.length + 1 + 1 < 2 := by omega
      simp (disch := omega) only [ho, lt_i, g1, g3, g2, ↓reduceIte, List.length_cons, nI_dec, Wq_jmp]
      have h5' : f = r.length + 1 := by simp at h4; omega
      refine Lq.of (t_62_p120_p31_192_ok X cl n tot kn kx _ _ _ _ M) ?_
      unfold t_62_p120_p31_192
      simp (disch := omega) only [o_nI, i1_nI, nI_add, nI_sub, Nat.add_sub_cancel, inb_nI, ↓reduceIte, nI_clamp, ha0, ha1, eq_i]
      have fin : ∀ v, v = q_op (nI p.1) a b → Lq X cl 62 6 [some (.inr (.inl 120)), some (.inr (.inl 31)), none, some (.inl (nI e)), some (.inl (nI (r.length + 1))), some (.inl (nI (i + 1))), none, none, none, none] (Gk n tot kn kx) (up M 121 r.length v) (fun x M' => x = (q_run F S (c + 1) i (b :: a :: r)).headD (nI 0) ∧ Fr [121] M M') := by
        intro v hv
        rw [← h5']
        refine next (v :: r) _ h5' (by simp; omega) hs.2.2.push ((Fr.rf).up (by decide)) ?_
        rw [hv]
        unfold q_step
        have hq : p.1 < 40 ∧ ¬ p.1 < 23 ∧ ¬ p.1 = 26 ∧ ¬ p.1 = 30 := by
          simp only [List.mem_cons, List.not_mem_nil, or_false] at hp
          rcases hp with rfl | rfl | rfl | rfl | rfl | rfl | rfl | rfl <;> decide
        rw [h1, if_neg (by rw [lt_i (by omega) (by omega)]; exact hq.2.1), if_neg (by rw [eq_i (by omega) (by omega)]; exact hq.2.2.1), if_neg (by rw [eq_i (by omega) (by omega)]; exact hq.2.2.2)]
      simp only [List.mem_cons, List.not_mem_nil, or_false] at hp
      rcases hp with rfl | rfl | rfl | rfl | rfl | rfl | rfl | rfl <;> simp only [Nat.reduceEqDiff, if_false, if_true, Wq_jmp]
      · exact fin _ rfl
      · exact fin _ rfl
      · exact fin _ rfl
      · split
        · rename_i hh; rw [Wq_jmp]; exact fin _ (by show _ = if a < b then nI 1 else nI 0; rw [if_pos hh])
        · rename_i hh; rw [Wq_jmp]; exact fin _ (by show _ = if a < b then nI 1 else nI 0; rw [if_neg hh])
      · split
        · rename_i hh; rw [Wq_jmp]; exact fin _ (by show _ = if a = b then nI 1 else nI 0; rw [if_pos hh])
        · rename_i hh; rw [Wq_jmp]; exact fin _ (by show _ = if a = b then nI 1 else nI 0; rw [if_neg hh])
      · split
        · rename_i hh; rw [Wq_jmp]; exact fin _ (by show _ = if b < a then nI 1 else nI 0; rw [if_pos hh])
        · rename_i hh; rw [Wq_jmp]; exact fin _ (by show _ = if b < a then nI 1 else nI 0; rw [if_neg hh])
      · exact fin _ rfl
      · exact fin _ rfl
theorem c_reckon31 (hD : 1 ≤ D) {b e : Nat} (hb : b ≤ e) (he : e ≤ 400) {F : Nat → Int32} {S : Nat → Int32 × Int32} (hF : ∀ j, j < 10 → M 122 j = F (j + 1)) (hw : q_wf S (M 36) (e - b) b 0 1) :
    Sq X D 62 [.inr (.inl 120), .inr (.inl 31), .inl (nI b), .inl (nI e)] (Gk n tot kn kx) M (fun x M' => x = q_val F S b e ∧ Fr [121] M M') :=
  Sq.mk (k := 0) hD (fun D' hD' => by
    refine Lq.of (t_62_p120_p31_0_ok X (callw X D') n tot kn kx _ _ M) ?_
    unfold t_62_p120_p31_0
    simp only [o_nI, Wq_jmp]
    exact c_reckon31_loop he (e - b) b [] M (by omega) trivial (by decide) hF hw)
set_option maxHeartbeats 8000000 in
theorem c_reckon37_loop {e : Nat} (he : e ≤ 400) {F : Nat → Int32} {cl : CLw} {S : Nat → Int32 × Int32} : ∀ (c i : Nat) (st : List Int32) (M : MMw), i + c = e → Stk M 121 st → st.length ≤ 64 → (∀ j, j < 10 → M 122 j = F (j + 1)) → q_wf S (M 42) c i st.length 1 →
    Lq X cl 62 6 [some (.inr (.inl 120)), some (.inr (.inl 37)), none, some (.inl (nI e)), some (.inl (nI st.length)), some (.inl (nI i)), none, none, none, none] (Gk n tot kn kx) M (fun x M' => x = (q_run F S c i st).headD (nI 0) ∧ Fr [121] M M')
  | 0, i, st, M, hi, hs, hl, hF, hw => by
    refine Lq.of (t_62_p120_p37_6_ok X cl n tot kn kx _ _ _ M) ?_
    unfold t_62_p120_p37_6
    have h1 : st.length = 1 := hw
    obtain ⟨a, rfl⟩ : ∃ a, st = [a] := List.length_eq_one_iff.mp h1
    have hi2 : ¬ i < e := by omega
    have h0 : M 121 0 = a := hs.1
    simp (disch := omega) only [o_nI, z_nI, lt_i, Nat.not_lt_zero, hi2, List.length_cons, List.length_nil, Nat.zero_add, Nat.lt_one_iff, ↓reduceIte, h0, Nat.reduceLT, Wq_ret]
    exact ⟨rfl, Fr.rf⟩
  | c + 1, i, st, M, hi, hs, hl, hF, hw => by
    refine Lq.of (t_62_p120_p37_6_ok X cl n tot kn kx _ _ _ M) ?_
    unfold t_62_p120_p37_6
    have hi2 : i < e := by omega
    have hi3 : i < 400 := by omega
    obtain ⟨f, ho, hw2⟩ := hw
    simp (disch := omega) only [o_nI, z_nI, i1_nI, im1_nI, nI_add, lt_i, Nat.not_lt_zero, hi2, hi3, ↓reduceIte, inb_nI, nI_clamp]
    have next : ∀ (st' : List Int32) (M' : MMw), f = st'.length → st'.length ≤ 64 → Stk M' 121 st' → Fr [121] M M' → st' = q_step F (S i).1 (S i).2 st → Lq X cl 62 6 [some (.inr (.inl 120)), some (.inr (.inl 37)), none, some (.inl (nI e)), some (.inl (nI f)), some (.inl (nI (i + 1))), none, none, none, none] (Gk n tot kn kx) M' (fun x M' => x = (q_run F S (c + 1) i st).headD (nI 0) ∧ Fr [121] M M') := by
      intro st' M' hf hl' hs' hfr hst
      subst hf
      have e1 : M' 42 = M 42 := hfr 42 (by decide)
      have e2 : M' 122 = M 122 := hfr 122 (by decide)
      refine Lq.mono (c_reckon37_loop he (F := F) (S := S) c (i + 1) st' M' (by omega) hs' hl' (fun j h1 => by rw [e2]; exact hF j h1) (by rw [e1]; exact hw2)) ?_
      rintro x M2 ⟨h1, h2⟩
      refine ⟨?_, hfr.tr h2⟩
      rw [h1, hst]
      rfl
    rcases ho with ⟨v, hv, h1, h2, h3, h4, h5⟩ | ⟨v, hv, h1, h3, h4, h5⟩ | ⟨v, hv1, hv, h1, h2, h3, h4, h5⟩ | ⟨h1, h3, h4, h5⟩ | ⟨p, hp, h1, h3, h4, h5⟩
    · have ho : M 42 i &&& nI 15 = nI 0 := by rw [h3]; exact cd_op (k := v) (r := 0) (by decide)
      have hv2 : M 42 i >>> (nI 4 &&& 31) = nI v := by rw [h3]; exact cd_v (k := v) (r := 0) (by decide) (by omega)
      simp (disch := omega) only [ho, hv2, lt_i, eq_i, Nat.reduceLT, Nat.reduceEqDiff, h4, ↓reduceIte, inb_nI, nI_clamp, Wq_jmp]
      rw [← h5]
      refine next (nI v :: st) _ h5 (by simp; omega) hs.push ((Fr.rf).up (by decide)) ?_
      rw [h1, h2]
      rfl
    · have ho : M 42 i &&& nI 15 = nI 1 := by rw [h3]; exact cd_op (by decide)
      have hv2 : M 42 i >>> (nI 4 &&& 31) = nI v := by rw [h3]; exact cd_v (by decide) (by omega)
      simp (disch := omega) only [ho, hv2, lt_i, eq_i, Nat.reduceLT, Nat.reduceEqDiff, Nat.not_lt_zero, h4, hv, ↓reduceIte, inb_nI, nI_clamp, Wq_jmp]
      rw [← h5, hF v hv]
      refine next (F (v + 1) :: st) _ h5 (by simp; omega) hs.push ((Fr.rf).up (by decide)) ?_
      unfold q_step
      rw [h1, if_pos (by rw [lt_i (by omega) (by omega)]; omega), if_neg (by rw [eq_i (by omega) (by omega)]; omega), nI_clamp (by omega)]
    · have ho : M 42 i &&& nI 15 = nI 2 := by rw [h3]; exact cd_op (by decide)
      have hv2 : M 42 i >>> (nI 4 &&& 31) = nI v := by rw [h3]; exact cd_v (by decide) (by omega)
      obtain ⟨a, r, rfl⟩ : ∃ a r, st = a :: r := List.exists_cons_of_length_pos h4
      have hl2 : r.length + 1 ≤ 64 := hl
      have hv0 : ¬ v = 0 := by omega
      have hr1 : ¬ r.length + 1 < 1 := by omega
      simp (disch := omega) only [ho, hv2, lt_i, eq_i, Nat.reduceLT, Nat.reduceEqDiff, ↓reduceIte, List.length_cons, hr1, hv0, Wq_jmp]
      refine Lq.of (t_62_p120_p37_137_ok X cl n tot kn kx _ _ _ _ _ M) ?_
      unfold t_62_p120_p37_137
      simp (disch := omega) only [o_nI, z_nI, i1_nI, nI_add, eq_i, Nat.reduceEqDiff, nI_sub, Nat.add_sub_cancel, inb_nI, ↓reduceIte, nI_clamp, hv0, Wq_jmp]
      have h5' : f = r.length + 1 := h5
      rw [← h5', hs.1]
      refine next (a / nI v :: r) _ h5 hl hs.2.push ((Fr.rf).up (by decide)) ?_
      rw [h1, h2]
      rfl
    · have ho : M 42 i &&& nI 15 = nI 3 := by rw [h3]; exact cd_op (k := 0) (r := 3) (by decide)
      have hv2 : M 42 i >>> (nI 4 &&& 31) = nI 0 := by rw [h3]; exact cd_v (k := 0) (r := 3) (by decide) (by omega)
      obtain ⟨a, r, rfl⟩ : ∃ a r, st = a :: r := List.exists_cons_of_length_pos h4
      have hl2 : r.length + 1 ≤ 64 := hl
      have hr1 : ¬ r.length + 1 < 1 := by omega
      simp (disch := omega) only [ho, hv2, lt_i, eq_i, Nat.reduceLT, Nat.reduceEqDiff, ↓reduceIte, List.length_cons, hr1, Wq_jmp]
      refine Lq.of (t_62_p120_p37_137_ok X cl n tot kn kx _ _ _ _ _ M) ?_
      unfold t_62_p120_p37_137
      simp (disch := omega) only [o_nI, z_nI, i1_nI, nI_add, eq_i, Nat.reduceEqDiff, nI_sub, Nat.add_sub_cancel, inb_nI, ↓reduceIte, nI_clamp, Wq_jmp]
      have h5' : f = r.length + 1 := h5
      rw [← h5', hs.1]
      refine next ((nI 1 - a) :: r) _ h5 hl hs.2.push ((Fr.rf).up (by decide)) ?_
      rw [h1]
      rfl
    · have hp2 : p.2 < 16 ∧ ¬ p.2 < 4 := by
        simp only [List.mem_cons, List.not_mem_nil, or_false] at hp
        rcases hp with rfl | rfl | rfl | rfl | rfl | rfl | rfl | rfl <;> decide
      obtain ⟨hp3, hp4⟩ := hp2
      have ho : M 42 i &&& nI 15 = nI p.2 := by
        rw [h3]
        have := cd_op (k := 0) (r := p.2) hp3
        rwa [Nat.mul_zero, Nat.zero_add] at this
      obtain ⟨b, a, r, rfl⟩ : ∃ b a r, st = b :: a :: r := by
        match st, h4 with
        | [], h4 => simp at h4
        | [b], h4 => simp at h4; omega
        | b :: a :: r, _ => exact ⟨b, a, r, rfl⟩
      have hl2 : r.length + 1 + 1 ≤ 64 := hl
      have ha0 : M 121 (r.length + 1) = b := hs.1
      have ha1 : M 121 r.length = a := hs.2.1
      have g1 : 1 < p.2 := by omega
      have g3 : 3 < p.2 := by omega
      have g2 : ¬ r.length + 1 + 1 < 2 := by omega
      simp (disch := omega) only [ho, lt_i, g1, g3, g2, ↓reduceIte, List.length_cons, nI_dec, Wq_jmp]
      have h5' : f = r.length + 1 := by simp at h4; omega
      refine Lq.of (t_62_p120_p37_192_ok X cl n tot kn kx _ _ _ _ M) ?_
      unfold t_62_p120_p37_192
      simp (disch := omega) only [o_nI, i1_nI, nI_add, nI_sub, Nat.add_sub_cancel, inb_nI, ↓reduceIte, nI_clamp, ha0, ha1, eq_i]
      have fin : ∀ v, v = q_op (nI p.1) a b → Lq X cl 62 6 [some (.inr (.inl 120)), some (.inr (.inl 37)), none, some (.inl (nI e)), some (.inl (nI (r.length + 1))), some (.inl (nI (i + 1))), none, none, none, none] (Gk n tot kn kx) (up M 121 r.length v) (fun x M' => x = (q_run F S (c + 1) i (b :: a :: r)).headD (nI 0) ∧ Fr [121] M M') := by
        intro v hv
        rw [← h5']
        refine next (v :: r) _ h5' (by simp; omega) hs.2.2.push ((Fr.rf).up (by decide)) ?_
        rw [hv]
        unfold q_step
        have hq : p.1 < 40 ∧ ¬ p.1 < 23 ∧ ¬ p.1 = 26 ∧ ¬ p.1 = 30 := by
          simp only [List.mem_cons, List.not_mem_nil, or_false] at hp
          rcases hp with rfl | rfl | rfl | rfl | rfl | rfl | rfl | rfl <;> decide
        rw [h1, if_neg (by rw [lt_i (by omega) (by omega)]; exact hq.2.1), if_neg (by rw [eq_i (by omega) (by omega)]; exact hq.2.2.1), if_neg (by rw [eq_i (by omega) (by omega)]; exact hq.2.2.2)]
      simp only [List.mem_cons, List.not_mem_nil, or_false] at hp
      rcases hp with rfl | rfl | rfl | rfl | rfl | rfl | rfl | rfl <;> simp only [Nat.reduceEqDiff, if_false, if_true, Wq_jmp]
      · exact fin _ rfl
      · exact fin _ rfl
      · exact fin _ rfl
      · split
        · rename_i hh; rw [Wq_jmp]; exact fin _ (by show _ = if a < b then nI 1 else nI 0; rw [if_pos hh])
        · rename_i hh; rw [Wq_jmp]; exact fin _ (by show _ = if a < b then nI 1 else nI 0; rw [if_neg hh])
      · split
        · rename_i hh; rw [Wq_jmp]; exact fin _ (by show _ = if a = b then nI 1 else nI 0; rw [if_pos hh])
        · rename_i hh; rw [Wq_jmp]; exact fin _ (by show _ = if a = b then nI 1 else nI 0; rw [if_neg hh])
      · split
        · rename_i hh; rw [Wq_jmp]; exact fin _ (by show _ = if b < a then nI 1 else nI 0; rw [if_pos hh])
        · rename_i hh; rw [Wq_jmp]; exact fin _ (by show _ = if b < a then nI 1 else nI 0; rw [if_neg hh])
      · exact fin _ rfl
      · exact fin _ rfl
theorem c_reckon37 (hD : 1 ≤ D) {b e : Nat} (hb : b ≤ e) (he : e ≤ 400) {F : Nat → Int32} {S : Nat → Int32 × Int32} (hF : ∀ j, j < 10 → M 122 j = F (j + 1)) (hw : q_wf S (M 42) (e - b) b 0 1) :
    Sq X D 62 [.inr (.inl 120), .inr (.inl 37), .inl (nI b), .inl (nI e)] (Gk n tot kn kx) M (fun x M' => x = q_val F S b e ∧ Fr [121] M M') :=
  Sq.mk (k := 0) hD (fun D' hD' => by
    refine Lq.of (t_62_p120_p37_0_ok X (callw X D') n tot kn kx _ _ M) ?_
    unfold t_62_p120_p37_0
    simp only [o_nI, Wq_jmp]
    exact c_reckon37_loop he (e - b) b [] M (by omega) trivial (by decide) hF hw)
end
