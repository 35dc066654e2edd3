section
-- needs: hours
/-! tool, man, set -/
theorem q_lt_up2 {W : Nat → Int32} {k i j b : Nat} (hj : i = k → j < b) (hb : b ≤ 2 ^ 31) (h : i ≠ k → q_lt W i b) : q_lt (upW W k (nI j)) i b := by
  by_cases e : i = k
  · have hj2 := hj e
    subst e
    exact (q_lt_of (upW_s _ _ _) hj2 hb).1
  · exact q_lt_eq (upW_n e) (h e)
/-- what may be told at a place -/
def fit (k j : Nat) : Prop := (∃ t, t < 8 ∧ ((k = 16 + 10 * t ∧ j < 4) ∨ (k = 17 + 10 * t ∧ j < 4) ∨ (k = 18 + 10 * t ∧ j < 2) ∨ (k = 21 + 10 * t ∧ j < 10) ∨ (k = 22 + 10 * t ∧ j < 8))) ∨ (∃ m, m < 4 ∧ ((k = 130 + 2 * m ∧ j < 100) ∨ (k = 131 + 2 * m ∧ j < 2))) ∨ (k = 102 ∧ j < 1001) ∨ (k = 103 ∧ j < 81)
theorem fit.lt {k j : Nat} (h : fit k j) : (k < 138 ∧ k ≠ 96 ∧ k ≠ 97 ∧ k ≠ 98 ∧ k ≠ 99 ∧ k ≠ 104) ∧ (∀ i, k ≠ 105 + i ∨ 25 ≤ i) := by
  unfold fit at h
  refine ⟨?_, fun i => ?_⟩
  · rcases h with ⟨t, ht, h⟩ | ⟨m, hm, h⟩ | h | h <;> omega
  · rcases h with ⟨t, ht, h⟩ | ⟨m, hm, h⟩ | h | h <;> omega
theorem fit.t {k j t : Nat} (h : fit k j) (ht : t < 8) : (16 + 10 * t = k → j < 4) ∧ (17 + 10 * t = k → j < 4) ∧ (18 + 10 * t = k → j < 2) ∧ (21 + 10 * t = k → j < 10) ∧ (22 + 10 * t = k → j < 8) := by
  unfold fit at h
  rcases h with ⟨t, ht, h⟩ | ⟨m, hm, h⟩ | h | h <;> omega
theorem fit.m {k j m : Nat} (h : fit k j) (hm : m < 4) : (130 + 2 * m = k → j < 100) ∧ (131 + 2 * m = k → j < 2) := by
  unfold fit at h
  rcases h with ⟨t, ht, h⟩ | ⟨m, hm, h⟩ | h | h <;> omega
theorem fit.e {k j : Nat} (h : fit k j) : (102 = k → j < 1001) ∧ (103 = k → j < 81) := by
  unfold fit at h
  rcases h with ⟨t, ht, h⟩ | ⟨m, hm, h⟩ | h | h <;> omega
theorem q_invY.up {W : Nat → Int32} {k j : Nat} (h : q_invY W) (hk : fit k j) : q_invY (upW W k (nI j)) := by
  obtain ⟨⟨t1, t2, t3, t4, t5⟩, h1, h2, h3, h4, h5, h6, h7⟩ := h
  obtain ⟨⟨k1, k2, k3, k4, k5, k6⟩, k7⟩ := hk.lt
  have b3 := t3.2; have b4 := t4.2; have b5 := t5.2
  refine ⟨⟨q_lt_un (by omega) t1, q_lt_un (by omega) t2, q_lt_un (by omega) t3, q_lt_un (by omega) t4, q_lt_un (by omega) t5⟩, q_lt_up2 hk.e.1 (by decide) (fun _ => h1), q_lt_up2 hk.e.2 (by decide) (fun _ => h2), fun t ht => ?_, fun m hm => ?_, fun i hi => ?_, fun i hi => ?_, fun i hi => ?_⟩
  · obtain ⟨a, b, c, d⟩ := h3 t ht
    have ft := hk.t ht
    unfold q_kb at a ⊢
    have e1 := q_lt_up2 (W := W) (k := k) (i := 17 + 10 * t) (j := j) (b := 4) ft.2.1 (by decide) (fun _ => ⟨a.1, a.2.1⟩)
    have e2 := q_lt_up2 (W := W) (k := k) (i := 16 + 10 * t) (j := j) (b := 4) ft.1 (by decide) (fun _ => ⟨a.2.2.1, a.2.2.2⟩)
    exact ⟨⟨e1.1, e1.2, e2.1, e2.2⟩, q_lt_up2 ft.2.2.1 (by decide) (fun _ => b), q_lt_up2 ft.2.2.2.1 (by decide) (fun _ => c), q_lt_up2 ft.2.2.2.2 (by decide) (fun _ => d)⟩
  · obtain ⟨a, b⟩ := h4 m hm
    exact ⟨q_lt_up2 (hk.m hm).1 (by decide) (fun _ => a), q_lt_up2 (hk.m hm).2 (by decide) (fun _ => b)⟩
  · rw [q_n_up (by omega)] at hi
    obtain ⟨a, b, c, d⟩ := h5 i hi
    refine ⟨q_lt_un (by omega) a, q_lt_un (by omega) b, ?_, q_lt_un (by omega) d⟩
    rw [q_n_up (by omega)]; exact c
  · rw [q_n_up (by omega)] at hi
    obtain ⟨a, b, c⟩ := h6 i hi
    have n1 := k7 (2 * i); have n2 := k7 (2 * i + 1)
    rw [q_n_up (show 98 ≠ k by omega), q_n_up (show 105 + 2 * i ≠ k by omega), q_n_up (show 106 + 2 * i ≠ k by omega)]
    exact ⟨q_lt_un (by omega) a, q_lt_un (by omega) b, c⟩
  · rw [q_n_up (by omega)] at hi
    obtain ⟨a, b, c, d, e, f⟩ := h7 i hi
    rw [q_n_up (show 96 ≠ k by omega), q_n_up (show 97 ≠ k by omega), q_n_up (show 98 ≠ k by omega), q_n_up (show 170 + 5 * i ≠ k by omega)]
    exact ⟨q_lt_un (by omega) a, q_lt_un (by omega) b, q_lt_un (by omega) c, q_lt_un (by omega) d, q_lt_un (by omega) e, f⟩
theorem q_invY.up96 {W : Nat → Int32} {T : Nat} (h : q_invY W) (hT : T = q_n W 96) (h8 : T < 8) : q_invY (upW W 96 (nI (T + 1))) := by
  obtain ⟨⟨t1, t2, t3, t4, t5⟩, h1, h2, h3, h4, h5, h6, h7⟩ := h
  have b3 := t3.2; have b4 := t4.2; have b5 := t5.2
  have e96 : q_n (upW W 96 (nI (T + 1))) 96 = T + 1 := q_n_of (upW_s _ _ _) (by omega)
  refine ⟨⟨q_lt_up (by omega) (by decide) (fun h => absurd rfl h), q_lt_un (by omega) t2, q_lt_un (by omega) t3, q_lt_un (by omega) t4, q_lt_un (by omega) t5⟩, q_lt_un (by omega) h1, q_lt_un (by omega) h2, fun t ht => ?_, fun m hm => ?_, fun i hi => ?_, fun i hi => ?_, fun i hi => ?_⟩
  · obtain ⟨a, b, c, d⟩ := h3 t ht
    unfold q_kb at a ⊢
    rw [q_n_up (show 17 + 10 * t ≠ 96 by omega), q_n_up (show 16 + 10 * t ≠ 96 by omega), upW_n (show 17 + 10 * t ≠ 96 by omega), upW_n (show 16 + 10 * t ≠ 96 by omega)]
    exact ⟨a, q_lt_un (by omega) b, q_lt_un (by omega) c, q_lt_un (by omega) d⟩
  · obtain ⟨a, b⟩ := h4 m hm
    exact ⟨q_lt_un (by omega) a, q_lt_un (by omega) b⟩
  · rw [q_n_up (by omega)] at hi
    obtain ⟨a, b, c, d⟩ := h5 i hi
    refine ⟨q_lt_un (by omega) a, q_lt_un (by omega) b, ?_, q_lt_un (by omega) d⟩
    rw [q_n_up (by omega)]; exact c
  · rw [q_n_up (by omega)] at hi
    obtain ⟨a, b, c⟩ := h6 i hi
    rw [q_n_up (show 98 ≠ 96 by omega), q_n_up (show 105 + 2 * i ≠ 96 by omega), q_n_up (show 106 + 2 * i ≠ 96 by omega)]
    exact ⟨q_lt_un (by omega) a, q_lt_un (by omega) b, c⟩
  · rw [q_n_up (by omega)] at hi
    obtain ⟨a, b, c, d, e, f⟩ := h7 i hi
    rw [e96, q_n_up (show 97 ≠ 96 by omega), q_n_up (show 98 ≠ 96 by omega), q_n_up (show 170 + 5 * i ≠ 96 by omega)]
    refine ⟨q_lt_un (by omega) ⟨a.1, by have := a.2; omega⟩, q_lt_un (by omega) b, q_lt_un (by omega) c, q_lt_un (by omega) d, q_lt_un (by omega) e, f⟩
theorem q_invY.up97 {W : Nat → Int32} {T : Nat} (h : q_invY W) (hT : T = q_n W 97) (h8 : T < 4) : q_invY (upW W 97 (nI (T + 1))) := by
  obtain ⟨⟨t1, t2, t3, t4, t5⟩, h1, h2, h3, h4, h5, h6, h7⟩ := h
  have b3 := t3.2; have b4 := t4.2; have b5 := t5.2
  have e96 : q_n (upW W 97 (nI (T + 1))) 97 = T + 1 := q_n_of (upW_s _ _ _) (by omega)
  refine ⟨⟨q_lt_un (by omega) t1, q_lt_up (by omega) (by decide) (fun h => absurd rfl h), q_lt_un (by omega) t3, q_lt_un (by omega) t4, q_lt_un (by omega) t5⟩, q_lt_un (by omega) h1, q_lt_un (by omega) h2, fun t ht => ?_, fun m hm => ?_, fun i hi => ?_, fun i hi => ?_, fun i hi => ?_⟩
  · obtain ⟨a, b, c, d⟩ := h3 t ht
    unfold q_kb at a ⊢
    rw [q_n_up (show 17 + 10 * t ≠ 97 by omega), q_n_up (show 16 + 10 * t ≠ 97 by omega), upW_n (show 17 + 10 * t ≠ 97 by omega), upW_n (show 16 + 10 * t ≠ 97 by omega)]
    exact ⟨a, q_lt_un (by omega) b, q_lt_un (by omega) c, q_lt_un (by omega) d⟩
  · obtain ⟨a, b⟩ := h4 m hm
    exact ⟨q_lt_un (by omega) a, q_lt_un (by omega) b⟩
  · rw [q_n_up (by omega)] at hi
    obtain ⟨a, b, c, d⟩ := h5 i hi
    refine ⟨q_lt_un (by omega) a, q_lt_un (by omega) b, ?_, q_lt_un (by omega) d⟩
    rw [q_n_up (by omega)]; exact c
  · rw [q_n_up (by omega)] at hi
    obtain ⟨a, b, c⟩ := h6 i hi
    rw [q_n_up (show 98 ≠ 97 by omega), q_n_up (show 105 + 2 * i ≠ 97 by omega), q_n_up (show 106 + 2 * i ≠ 97 by omega)]
    exact ⟨q_lt_un (by omega) a, q_lt_un (by omega) b, c⟩
  · rw [q_n_up (by omega)] at hi
    obtain ⟨a, b, c, d, e, f⟩ := h7 i hi
    rw [q_n_up (show 96 ≠ 97 by omega), e96, q_n_up (show 98 ≠ 97 by omega), q_n_up (show 170 + 5 * i ≠ 97 by omega)]
    refine ⟨q_lt_un (by omega) a, q_lt_un (by omega) ⟨b.1, by have := b.2; omega⟩, q_lt_un (by omega) c, q_lt_un (by omega) d, q_lt_un (by omega) e, f⟩
/-- the moves' numbers under a telling that is none of theirs -/
theorem q_invM.un3 {W : Nat → Int32} {k : Nat} {v : Int32} (hk : 16 ≤ k ∧ k < 138 ∧ k ≠ 98 ∧ (96 ≤ k ∨ ((k - 16) % 10 ≠ 3 ∧ (k - 16) % 10 ≠ 4 ∧ (k - 16) % 10 ≠ 7))) (h96 : k = 96 → q_n W 96 ≤ q_n (upW W k v) 96) (hn : q_n W 98 ≤ 8) (h : q_invM W) : q_invM (upW W k v) := by
  obtain ⟨h1, h2, h3, h4, h5⟩ := h
  refine ⟨q_lt_un (by omega) h1, q_lt_un (by omega) h2, fun b hb => q_lt_un (by omega) (h3 b hb), fun t ht => ?_, fun i hi => ?_⟩
  · obtain ⟨a, b, c⟩ := h4 t ht
    refine ⟨q_lt_un (by omega) a, q_lt_un (by omega) b, fun hle => ?_⟩
    rw [upW_n (by omega)]
    refine c ?_
    by_cases e : k = 96
    · exact Nat.le_trans (h96 e) hle
    · rw [q_n_up (by omega)] at hle; exact hle
  · rw [q_n_up (by omega)] at hi
    obtain ⟨a, b, c⟩ := h5 i hi
    refine ⟨q_lt_un (by omega) a, ?_⟩
    rw [q_n_up (show 8 + i ≠ k by omega), q_n_up (show 143 + 3 * i ≠ k by omega)]
    exact ⟨b, c.cg (by omega) (fun k' hk' => upW_n (by omega))⟩
/-- hull, rota and laws of W -/
def sameR (W W' : Nat → Int32) : Prop := ∀ k, (98 ≤ k ∧ k ≤ 101) ∨ (104 ≤ k ∧ k ≤ 129) ∨ (142 ≤ k ∧ k < 2034) → W' k = W k
theorem sameR.rf {W : Nat → Int32} : sameR W W := fun _ _ => rfl
theorem sameR.up {W W1 : Nat → Int32} {k : Nat} {v : Int32} (h : sameR W W1) (hk : k < 98 ∨ k = 102 ∨ k = 103 ∨ (130 ≤ k ∧ k < 142)) : sameR W (upW W1 k v) := fun i hi => by
  rw [upW_n (by omega)]
  exact h i hi
theorem CRhull.ch2 {M M' : MMw} {c : Nat} {W W' : Nat → Int32} (hM : ∀ d, c ≤ d → d ≤ c + 5 → M' d = M d) (hW : sameR W W') (hn : q_n W 98 ≤ 8) (hn2 : q_n W 104 ≤ 12) (h : CRhull M c W) : CRhull M' c W' := by
  obtain ⟨h1, h2, a1, a2, a3, a4, a5⟩ := h
  have w98 : q_n W' 98 = q_n W 98 := q_n_eq (hW _ (by omega))
  have w104 : q_n W' 104 = q_n W 104 := q_n_eq (hW _ (by omega))
  refine ⟨?_, ?_, ?_, ?_, ?_, ?_, ?_⟩
  · rw [hM _ (by omega) (by omega), h1, hW _ (by omega)]
  · rw [hM _ (by omega) (by omega), h2, hW _ (by omega)]
  · rw [w98]; exact a1.ch (hM _ (by omega) (by omega)) (fun t ht => hW _ (by omega))
  · rw [w98]; exact a2.ch (hM _ (by omega) (by omega)) (fun t ht => hW _ (by omega))
  · rw [w98]; exact a3.ch (hM _ (by omega) (by omega)) (fun t ht => hW _ (by omega))
  · rw [w104]; exact a4.ch (hM _ (by omega) (by omega)) (fun t ht => hW _ (by omega))
  · rw [w104]; exact a5.ch (hM _ (by omega) (by omega)) (fun t ht => hW _ (by omega))
theorem CRrota.ch2 {M M' : MMw} {c : Nat} {W W' : Nat → Int32} (hM : ∀ d, c ≤ d → d ≤ c + 5 → M' d = M d) (hW : sameR W W') (hn : q_n W 99 ≤ 20) (h : CRrota M c W) : CRrota M' c W' := by
  obtain ⟨h1, a1, a2, a3, a4, a5⟩ := h
  have w99 : q_n W' 99 = q_n W 99 := q_n_eq (hW _ (by omega))
  refine ⟨?_, ?_, ?_, ?_, ?_, ?_⟩
  · rw [hM _ (by omega) (by omega), h1, hW _ (by omega)]
  all_goals rw [w99]
  · exact a1.ch (hM _ (by omega) (by omega)) (fun t ht => hW _ (by omega))
  · exact a2.ch (hM _ (by omega) (by omega)) (fun t ht => hW _ (by omega))
  · exact a3.ch (hM _ (by omega) (by omega)) (fun t ht => hW _ (by omega))
  · exact a4.ch (hM _ (by omega) (by omega)) (fun t ht => hW _ (by omega))
  · exact a5.ch (hM _ (by omega) (by omega)) (fun t ht => hW _ (by omega))
theorem q_law.ch2 {W W' C : Nat → Int32} {k : Nat} (hk : k < 2) (hW : sameR W W') (h : q_law W k C) : q_law W' k C := by
  obtain ⟨l, hl, hw, h2⟩ := h
  have hS : ∀ j, j < 410 → q_S W k j = q_S W' k j := fun j hj => by
    unfold q_S
    rw [hW _ (by omega), hW _ (by omega)]
  refine ⟨l, hl, by rw [hW _ (by omega)]; exact hw, fun i hi => ?_⟩
  obtain ⟨f, m, t, w, h1, h2, h3, h4, h5, h6, h7, h8, h9, h10, h11⟩ := h2 i hi
  refine ⟨f, m, t, w, h1, h2, h3, ?_, ?_, ?_, ?_, h8, h9, fun a => ?_, fun a => ?_⟩
  · rw [hW _ (by omega)]; exact h4
  · rw [hW _ (by omega)]; exact h5
  · rw [hW _ (by omega)]; exact h6
  · rw [hW _ (by omega)]; exact h7
  · exact q_wf_cong (fun j a b => ⟨hS j (by omega), rfl⟩) (h10 a)
  · exact q_wf_cong (fun j a b => ⟨hS j (by omega), rfl⟩) (h11 a)
theorem CRlaw.ch2 {M M' : MMw} {c k : Nat} {W W' : Nat → Int32} (hk : k < 2) (hM : ∀ d, c ≤ d → d ≤ c + 5 → M' d = M d) (hW : sameR W W') (h : CRlaw M c W k) : CRlaw M' c W' k := by
  obtain ⟨h1, h5, h6⟩ := h
  have hc := h6.cnt.2
  have w99 : W' (100 + k) = W (100 + k) := hW _ (by omega)
  refine ⟨?_, ?_, ?_⟩
  · rw [hM _ (by omega) (by omega), h1, w99]
  · intro t ht
    rw [q_n_eq w99] at ht
    obtain ⟨a1, a2, a3, a4⟩ := h5 t ht
    refine ⟨?_, ?_, ?_, ?_⟩
    · rw [hM _ (by omega) (by omega), a1, hW _ (by omega)]
    · rw [hM _ (by omega) (by omega), a2, hW _ (by omega)]
    · rw [hM _ (by omega) (by omega), a3, hW _ (by omega)]
    · rw [hM _ (by omega) (by omega), a4, hW _ (by omega)]
  · rw [hM _ (by omega) (by omega)]; exact h6.ch2 hk hW
theorem CX.crewup {M M' : MMw} {W W' : Nat → Int32} (h : CX M 10 W) (hcrew : CRcrew M' 2 W') (hR : sameR W W') (hM : ∀ d, Yp 1 d → 10 ≤ d → M' d = M d) (hm : CRm M' 10 W') (hy : q_invY W') (him : q_invM W') : CX M' 10 W' := by
  obtain ⟨_, _, h98, h99, h104⟩ := h.2.2.1.1
  have e98 := h98.2; have e99 := h99.2; have e104 := h104.2
  exact ⟨⟨hcrew, h.1.2.1.ch2 (fun d h1 h2 => hM d (by unfold Yp; omega) (by omega)) hR (by omega) (by omega), h.1.2.2.1.ch2 (fun d h1 h2 => hM d (by unfold Yp; omega) (by omega)) hR (by omega),
    h.1.2.2.2.1.ch2 (by decide) (fun d h1 h2 => hM d (by unfold Yp; omega) (by omega)) hR, h.1.2.2.2.2.ch2 (by decide) (fun d h1 h2 => hM d (by unfold Yp; omega) (by omega)) hR⟩, hm, hy, him⟩
/-- a telling that forgets -/
def TP (T : Nat) (W : Nat → Int32) : Prop := q_invY W ∧ q_invM W ∧ q_n W 98 ≤ 8 ∧ q_n W 96 = T
theorem TP.fit {T : Nat} {W : Nat → Int32} {k j : Nat} (h : TP T W) (hk : fit k j) (hk2 : 16 ≤ k ∧ (96 ≤ k ∨ ((k - 16) % 10 ≠ 3 ∧ (k - 16) % 10 ≠ 4 ∧ (k - 16) % 10 ≠ 7))) : TP T (upW W k (nI j)) := by
  obtain ⟨⟨k1, k2, k3, k4, k5, k6⟩, k7⟩ := hk.lt
  exact ⟨h.1.up hk, h.2.1.un3 (by omega) (fun e => absurd e k2) h.2.2.1, by rw [q_n_up (by omega)]; exact h.2.2.1, by rw [q_n_up (by omega)]; exact h.2.2.2⟩
theorem TP.em {T : Nat} {W : Nat → Int32} {t f j : Nat} (h : TP T W) (ht : t < 8) (hf : f = 19 ∨ f = 20) (hj : j < 100) : TP T (upW W (f + 10 * t) (nI j)) :=
  ⟨h.1.ch (sameY.rf.up (by unfold mvI; omega)), h.2.1.tool ht hf hj h.2.2.1, by rw [q_n_up (by omega)]; exact h.2.2.1, by rw [q_n_up (by omega)]; exact h.2.2.2⟩
theorem TP.to {T : Nat} {W : Nat → Int32} {t : Nat} (h : TP T W) (ht : t < 8) : TP T (upW W (23 + 10 * t) (nI 0)) :=
  ⟨h.1.ch (sameY.rf.up (by unfold mvI; omega)), h.2.1.today ht (Or.inl rfl) h.2.2.1, by rw [q_n_up (by omega)]; exact h.2.2.1, by rw [q_n_up (by omega)]; exact h.2.2.2⟩
theorem TP.un {T : Nat} {W : Nat → Int32} {t f : Nat} {v : Int32} (h : TP T W) (ht : t < 8) (hf : f = 24 ∨ f = 25) : TP T (upW W (f + 10 * t) v) :=
  ⟨h.1.ch (sameY.rf.up (by unfold mvI; omega)), h.2.1.un (by omega) h.2.2.1, by rw [q_n_up (by omega)]; exact h.2.2.1, by rw [q_n_up (by omega)]; exact h.2.2.2⟩
/-- a tool more -/
def q_tool (W : Nat → Int32) (T : Nat) (k1 k2 k3 : Int32) : Nat → Int32 := upW (upW (upW (upW (upW (upW (upW (upW (upW (upW (upW W (16 + 10 * T) k1) (17 + 10 * T) k2) (18 + 10 * T) k3) (19 + 10 * T) (nI 60)) (20 + 10 * T) (nI 50)) (21 + 10 * T) (nI 1)) (22 + 10 * T) (nI 7)) (23 + 10 * T) (nI 0)) (24 + 10 * T) (nI 0)) (25 + 10 * T) (nI 0)) 96 (nI (T + 1))
theorem q_tool_P {W : Nat → Int32} {T a1 a2 a3 : Nat} (h : TP T W) (hT : T < 8) (h1 : a1 < 4) (h2 : a2 < 4) (h3 : a3 < 2) : q_invY (q_tool W T (nI a1) (nI a2) (nI a3)) ∧ q_invM (q_tool W T (nI a1) (nI a2) (nI a3)) := by
  have ft : ∀ k j, ((k = 16 + 10 * T ∧ j < 4) ∨ (k = 17 + 10 * T ∧ j < 4) ∨ (k = 18 + 10 * T ∧ j < 2) ∨ (k = 21 + 10 * T ∧ j < 10) ∨ (k = 22 + 10 * T ∧ j < 8)) → fit k j := fun k j hh => Or.inl ⟨T, hT, hh⟩
  have g := (((((((((h.fit (ft (16 + 10 * T) a1 (by omega)) (by omega)).fit (ft (17 + 10 * T) a2 (by omega)) (by omega)).fit (ft (18 + 10 * T) a3 (by omega)) (by omega)).em (j := 60) hT (Or.inl rfl) (by decide)).em (j := 50) hT (Or.inr rfl) (by decide)).fit (ft (21 + 10 * T) 1 (by omega)) (by omega)).fit (ft (22 + 10 * T) 7 (by omega)) (by omega)).to hT).un (v := nI 0) hT (Or.inl rfl)).un (v := nI 0) hT (Or.inr rfl)
  unfold q_tool
  generalize (upW (upW (upW (upW (upW (upW (upW (upW (upW (upW W (16 + 10 * T) (nI a1)) (17 + 10 * T) (nI a2)) (18 + 10 * T) (nI a3)) (19 + 10 * T) (nI 60)) (20 + 10 * T) (nI 50)) (21 + 10 * T) (nI 1)) (22 + 10 * T) (nI 7)) (23 + 10 * T) (nI 0)) (24 + 10 * T) (nI 0)) (25 + 10 * T) (nI 0)) = V at g
  exact ⟨g.1.up96 g.2.2.2.symm hT, g.2.1.un3 (by omega) (fun _ => by rw [q_n_of (upW_s V 96 (nI (T + 1))) (by omega)]; have := g.2.2.2; omega) g.2.2.1⟩
variable {X : KXw} {n tot kn D : Nat} {kx : Nat → Nat × Nat} {M : MMw}
set_option maxHeartbeats 4000000 in
theorem q_tool_X {M' : MMw} {W : Nat → Int32} {T a1 a2 a3 : Nat} (h : CX M 10 W) (hT : T = q_n W 96) (h8 : T < 8) (h1 : a1 < 4) (h2 : a2 < 4) (h3 : a3 < 2) (hM : M' = up (up (up (up (up (up (up (up (up (up (up M 3 T (nI a1)) 4 T (nI a2)) 5 T (nI a3)) 6 T (nI 1)) 7 T (nI 7)) 2 0 (nI (T + 1))) 11 T (nI 60)) 12 T (nI 50)) 13 T (nI 0)) 14 T (nI 0)) 0 5 (nI 0)) : CX M' 10 (q_tool W T (nI a1) (nI a2) (nI a3)) := by
  have h98 := h.2.2.1.1.2.2.1.2
  have hP := q_tool_P ⟨h.2.2.1, h.2.2.2, by omega, hT.symm⟩ h8 h1 h2 h3
  obtain ⟨⟨⟨c1, c2, c3, c4, x1, x2, x3, x4, x5, x6, x7⟩, _⟩, ⟨m1, m2, m3, m4, b1, b2, b3, b4, b5, b6⟩, _⟩ := id h
  refine h.crewup ?_ ?_ (fun d h1 h2 => by rw [hM]; unfold Yp at h1; simp (disch := omega) only [up_ne]) ?_ hP.1 hP.2
  · rw [hM]
    unfold CRcrew q_tool
    simp (disch := omega) only [up_ne, up_at, upW_n, upW_s]
    exact ⟨trivial, c2, c3, c4, ((((((((((x1.up (by decide)).un (by omega)).un (by omega)).un (by omega)).un (by omega)).un (by omega)).un (by omega)).un (by omega)).un (by omega)).un (by omega)).un (by omega), ((((((((((x2.un (by omega)).up (by decide)).un (by omega)).un (by omega)).un (by omega)).un (by omega)).un (by omega)).un (by omega)).un (by omega)).un (by omega)).un (by omega), ((((((((((x3.un (by omega)).un (by omega)).up (by decide)).un (by omega)).un (by omega)).un (by omega)).un (by omega)).un (by omega)).un (by omega)).un (by omega)).un (by omega), ((((((((((x4.un (by omega)).un (by omega)).un (by omega)).un (by omega)).un (by omega)).up (by decide)).un (by omega)).un (by omega)).un (by omega)).un (by omega)).un (by omega), ((((((((((x5.un (by omega)).un (by omega)).un (by omega)).un (by omega)).un (by omega)).un (by omega)).up (by decide)).un (by omega)).un (by omega)).un (by omega)).un (by omega), ((((((((((x6.un (by omega)).un (by omega)).un (by omega)).un (by omega)).un (by omega)).un (by omega)).un (by omega)).un (by omega)).un (by omega)).un (by omega)).un (by omega), ((((((((((x7.un (by omega)).un (by omega)).un (by omega)).un (by omega)).un (by omega)).un (by omega)).un (by omega)).un (by omega)).un (by omega)).un (by omega)).un (by omega)⟩
  · unfold q_tool
    exact ((((((((((sameR.rf.up (by omega)).up (by omega)).up (by omega)).up (by omega)).up (by omega)).up (by omega)).up (by omega)).up (by omega)).up (by omega)).up (by omega)).up (by omega)
  · rw [hM]
    unfold CRm q_tool
    simp (disch := omega) only [up_ne, up_at, upW_n, upW_s]
    exact ⟨m1, m2, m3, m4, ((((((((((b1.un (by omega)).un (by omega)).un (by omega)).up (by decide)).un (by omega)).un (by omega)).un (by omega)).un (by omega)).un (by omega)).un (by omega)).un (by omega), ((((((((((b2.un (by omega)).un (by omega)).un (by omega)).un (by omega)).up (by decide)).un (by omega)).un (by omega)).un (by omega)).un (by omega)).un (by omega)).un (by omega), ((((((((((b3.un (by omega)).un (by omega)).un (by omega)).un (by omega)).un (by omega)).un (by omega)).un (by omega)).up (by decide)).un (by omega)).un (by omega)).un (by omega), ((((((((((b4.un (by omega)).un (by omega)).un (by omega)).un (by omega)).un (by omega)).un (by omega)).un (by omega)).un (by omega)).up (by decide)).un (by omega)).un (by omega), ((((((((((b5.un (by omega)).un (by omega)).un (by omega)).un (by omega)).un (by omega)).un (by omega)).un (by omega)).un (by omega)).un (by omega)).un (by omega)).un (by omega), ((((((((((b6.un (by omega)).un (by omega)).un (by omega)).un (by omega)).un (by omega)).un (by omega)).un (by omega)).un (by omega)).un (by omega)).un (by omega)).un (by omega)⟩
end
