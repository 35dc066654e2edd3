section
theorem kk_100 {j : Nat} (h : kKind j = 100) : j = 56 ∨ j = 57 := by
  unfold kKind at h
  repeat' split at h
  all_goals omega
theorem kk_103 {j : Nat} (h : kKind j = 103) : 28 ≤ j ∧ j < 56 := by
  unfold kKind at h
  repeat' split at h
  all_goals omega
/-- a constant row: its address, its cells -/
theorem kon_int {F : Fxw} {A : Nat → Prop} {U : State} {H : Heap} (h : KPw F A U H) {j : Nat} (hj : kKind j = 100) : ∃ a0, kvw F j = .ref a0 ∧ va_T .int a0 (kLen F.2.2.2.2.2 j) (fun i => .int (kAt F.2.2.2.2.2 j i)) A U H := by
  rcases kk_100 hj with rfl | rfl
  · exact ⟨_, rfl, h.2.2.2.2.2.2.1⟩
  · exact ⟨_, rfl, h.2.2.2.2.2.2.2.2⟩
theorem kon_byte {F : Fxw} {A : Nat → Prop} {U : State} {H : Heap} (h : KPw F A U H) {j : Nat} (hj : kKind j = 103) : ∃ a0, kvw F j = .ref a0 ∧ va_T .byte a0 (kLen F.2.2.2.2.2 j) (fun i => .int (kAt F.2.2.2.2.2 j i)) A U H := by
  obtain ⟨h1, h2⟩ := kk_103 hj
  obtain ⟨i, hi, rfl⟩ : ∃ i, i < 28 ∧ j = i + 28 := ⟨j - 28, by omega, by omega⟩
  refine ⟨_, kvw_v F hi, ?_⟩
  have hT := (h.2.2.2.1 i hi).2.2.2
  have e1 : kLen F.2.2.2.2.2 (i + 28) = lenJ.getD i 0 := by
    unfold kLen
    rw [if_pos (by omega), Nat.add_sub_cancel, len_ok i hi]
  have e2 : (fun k => Value.int (kAt F.2.2.2.2.2 (i + 28) k)) = (fun k => Value.int ((bytJ.getD i []).getD k 0)) := by
    funext k
    unfold kAt
    rw [if_pos (by omega), Nat.add_sub_cancel]
  rw [e1, e2]
  exact hT
theorem rows_set {F : Fxw} {ad : Nat → Nat} {G : GGw} {M : MMw} {p0 k : Nat} {x : Int32} (hp : p0 < G.1) {cA : ClassId} {n : Nat} (he : ∀ M : MMw, entw F ad G M p0 = .inl (cA, n, .inl (M p0))) : (rzw F ad G M).set p0 (ad p0, .inl (cA, n, .inl (upd (M p0) k x))) = rzw F ad G (up M p0 k x) :=
  rz_set hp rfl (by rw [he, up_same]) (fun i _ hne => ent_other hne)
theorem push_ok {F : Fxw} {ad : Nat → Nat} {G G2 : GGw} {M M2 : MMw} {q0 : Nat} {x : va_E} (hG : wfG G) (h1 : G2.1 = G.1 + 1) (h2 : ∀ i, i < G.1 → G2.2.2.1 i = G.2.2.1 i ∧ G2.2.2.2 i = G.2.2.2 i ∧ M2 i = M i) (he : entw F (fun i => if i = G.1 then q0 else ad i) G2 M2 G.1 = x) : rzw F ad G M ++ [(q0, x)] = rzw F (fun i => if i = G.1 then q0 else ad i) G2 M2 := by
  refine rz_push h1 (if_pos rfl) he (fun i hi => ⟨if_neg (by omega), ?_⟩)
  obtain ⟨g1, g2, g3⟩ := h2 i hi
  unfold entw
  rw [g1, g2, g3]
  exact enk_ext (N := G.1) (fun j hj => if_neg (by omega)) (hG i hi)
theorem push_ad {ad : Nat → Nat} {G : GGw} {q0 : Nat} : ∀ i, i < G.1 → (fun i => if i = G.1 then q0 else ad i) i = ad i := fun i hi => if_neg (by omega)
theorem cA_one {D : va_G} {cl : List vw_C} {tys : List (ClassId × FieldType)} {U : State} {cA cB : ClassId} {t : FieldType} (h : va_K D cl tys U) (k1 k2 : Nat) (h1 : tys[k1]? = some (cA, t)) (h2 : tys[k2]? = some (cB, t)) : cA = cB := by
  have a1 := (h.2 k1 _ h1).2
  have a2 := (h.2 k2 _ h2).2
  cases t <;> first
    | exact Option.some.inj (a1.symm.trans a2)
    | (obtain ⟨_, _, _, _, _, b1⟩ := a1
       obtain ⟨_, _, _, _, _, b2⟩ := a2
       exact Option.some.inj (b1.symm.trans b2))
theorem clamp_of_inb {x : Int32} {n : Nat} (h : inb x n = true) : ¬ x < 0 ∧ x.toNatClampNeg < n := by
  have h1 := inb_in h
  refine ⟨fun z => h1 (Or.inl z), Nat.not_le.mp fun z => h1 (Or.inr z)⟩
theorem nn_of {x : Int32} (h : 0 ≤ x.toInt) : ¬ x < 0 := by
  rw [Int32.lt_iff_toInt_lt, Int32.toInt_zero]
  omega
section
variable {p : Program} {l : Launch} {e : Env} {R : Room} {s : State} {m : MethodId} {args : Array Value} {below : List Frame} {meth : Method} {c : Code} {Q : State → Prop} {F : Fxw} {A0 : Nat → Prop} {mid d : Nat} {cl : CLw}
variable {pc len ea eb ec pc1 : Nat} {ls ls1 : LSw} {st st1 : List PVw} {G G1 : GGw} {M M1 : MMw} {H : Heap} {locs : List Loc} {cells slots : Nat} {ad : Nat → Nat} {lr : Array Slot}
set_option maxHeartbeats 2000000 in
theorem sw_iaload  (C : Cxw p s m args meth c F A0 mid R d) (hP : va_P F.1 vwCl (rzw F ad G M) H) (hD : va_D A0 (rzw F ad G M)) (hS : va_S A0 s.heap H locs) (hG : wfG G) (hL : wfL G ls) (hW : wfS G st) (hn : ls.length ≤ mlw mid) (hl : lv_has lr (mlw mid) (lvw F ad ls)) (hc : chkE mid (pc, .iaload, len, ea, eb, ec) = true) (hs : stepw F.2.2.2.2.2 cl (alm mid) pc .iaload ea eb ec ls st G M = some (.inr (pc1, ls1, st1, G1, M1)))
    (K : Kow p l e R s m args below meth c Q F A0 mid ad G M G1 M1 pc1 ls1 st1 cells slots) : W p l e R s m args below meth c H locs cells slots Q (F0 m pc lr (st.map (rvw F ad))) := by
  obtain ⟨hx, hb, hml, hown, hts, hin, hK, hKP, hA, hfr, hlo, hvc⟩ := C
  simp only [chkE, Bool.and_eq_true, decide_eq_true_eq, beq_iff_eq] at hc
  obtain ⟨hd, rfl⟩ := hc
  simp only [stepw, sk, ald] at hs
  split at hs
  · rename_i i0 p0 r0
    split at hs
    · rename_i hk
      split at hs
      · rename_i hi
        cases hs
        have he := rz_get (F := F) (ad := ad) (M := M) ((wfS_cons.mp (wfS_cons.mp hW).2).1 : p0 < G.1)
        rw [ent_int hk] at he
        exact va_iald hx hb hK hP p0 0 he rfl (inb_in hi) hd (K.same hP hD hS hl)
      · cases hs
    · cases hs
  · rename_i i0 j0 r0
    split at hs
    · rename_i hk
      split at hs
      · rename_i hi
        cases hs
        obtain ⟨a0, e1, hT⟩ := kon_int hKP hk
        rw [List.map_cons, List.map_cons, show rvw F ad (.inr (.inr j0)) = .ref a0 from e1]
        exact va_ti hx hb hT hS (inb_in hi) rfl hd (K.same hP hD hS hl)
      · cases hs
    · cases hs
  · cases hs

set_option maxHeartbeats 2000000 in
theorem sw_baload  (C : Cxw p s m args meth c F A0 mid R d) (hP : va_P F.1 vwCl (rzw F ad G M) H) (hD : va_D A0 (rzw F ad G M)) (hS : va_S A0 s.heap H locs) (hG : wfG G) (hL : wfL G ls) (hW : wfS G st) (hn : ls.length ≤ mlw mid) (hl : lv_has lr (mlw mid) (lvw F ad ls)) (hc : chkE mid (pc, .baload, len, ea, eb, ec) = true) (hs : stepw F.2.2.2.2.2 cl (alm mid) pc .baload ea eb ec ls st G M = some (.inr (pc1, ls1, st1, G1, M1)))
    (K : Kow p l e R s m args below meth c Q F A0 mid ad G M G1 M1 pc1 ls1 st1 cells slots) : W p l e R s m args below meth c H locs cells slots Q (F0 m pc lr (st.map (rvw F ad))) := by
  obtain ⟨hx, hb, hml, hown, hts, hin, hK, hKP, hA, hfr, hlo, hvc⟩ := C
  simp only [chkE, Bool.and_eq_true, decide_eq_true_eq, beq_iff_eq] at hc
  obtain ⟨hd, rfl⟩ := hc
  simp only [stepw, sk, ald] at hs
  split at hs
  · rename_i i0 p0 r0
    split at hs
    · rename_i hk
      split at hs
      · rename_i hi
        cases hs
        have he := rz_get (F := F) (ad := ad) (M := M) ((wfS_cons.mp (wfS_cons.mp hW).2).1 : p0 < G.1)
        rw [ent_bool hk] at he
        exact va_zald hx hb hK hP p0 1 he rfl (inb_in hi) hd (K.same hP hD hS hl)
      · cases hs
    · cases hs
  · rename_i i0 j0 r0
    split at hs
    · rename_i hk
      split at hs
      · rename_i hi
        cases hs
        obtain ⟨a0, e1, hT⟩ := kon_byte hKP hk
        rw [List.map_cons, List.map_cons, show rvw F ad (.inr (.inr j0)) = .ref a0 from e1]
        exact va_tb hx hb hT hS (inb_in hi) rfl hd (K.same hP hD hS hl)
      · cases hs
    · cases hs
  · cases hs

set_option maxHeartbeats 2000000 in
theorem sw_iastore  (C : Cxw p s m args meth c F A0 mid R d) (hP : va_P F.1 vwCl (rzw F ad G M) H) (hD : va_D A0 (rzw F ad G M)) (hS : va_S A0 s.heap H locs) (hG : wfG G) (hL : wfL G ls) (hW : wfS G st) (hn : ls.length ≤ mlw mid) (hl : lv_has lr (mlw mid) (lvw F ad ls)) (hc : chkE mid (pc, .iastore, len, ea, eb, ec) = true) (hs : stepw F.2.2.2.2.2 cl (alm mid) pc .iastore ea eb ec ls st G M = some (.inr (pc1, ls1, st1, G1, M1)))
    (K : Kow p l e R s m args below meth c Q F A0 mid ad G M G1 M1 pc1 ls1 st1 cells slots) : W p l e R s m args below meth c H locs cells slots Q (F0 m pc lr (st.map (rvw F ad))) := by
  obtain ⟨hx, hb, hml, hown, hts, hin, hK, hKP, hA, hfr, hlo, hvc⟩ := C
  simp only [chkE, Bool.and_eq_true, decide_eq_true_eq, beq_iff_eq] at hc
  obtain ⟨hd, rfl⟩ := hc
  simp only [stepw, sk, ast] at hs
  split at hs
  · rename_i x0 i0 p0 r0
    split at hs
    · rename_i hk
      split at hs
      · rename_i hi
        rw [if_pos trivial] at hs
        cases hs
        have hp : p0 < G.1 := (wfS_cons.mp (wfS_cons.mp (wfS_cons.mp hW).2).2).1
        have he := rz_get (F := F) (ad := ad) (M := M) hp
        rw [ent_int hk] at he
        exact va_iast hx hb hK hP hD hS p0 0 he rfl (inb_in hi) hd (fun H2 locs2 hP2 hD2 hS2 => by
          rw [rows_set hp (fun M => ent_int hk)] at hP2 hD2
          exact K.keep hP2 hD2 hS2 hl)
      · cases hs
    · cases hs
  · cases hs

set_option maxHeartbeats 2000000 in
theorem sw_bastore  (C : Cxw p s m args meth c F A0 mid R d) (hP : va_P F.1 vwCl (rzw F ad G M) H) (hD : va_D A0 (rzw F ad G M)) (hS : va_S A0 s.heap H locs) (hG : wfG G) (hL : wfL G ls) (hW : wfS G st) (hn : ls.length ≤ mlw mid) (hl : lv_has lr (mlw mid) (lvw F ad ls)) (hc : chkE mid (pc, .bastore, len, ea, eb, ec) = true) (hs : stepw F.2.2.2.2.2 cl (alm mid) pc .bastore ea eb ec ls st G M = some (.inr (pc1, ls1, st1, G1, M1)))
    (K : Kow p l e R s m args below meth c Q F A0 mid ad G M G1 M1 pc1 ls1 st1 cells slots) : W p l e R s m args below meth c H locs cells slots Q (F0 m pc lr (st.map (rvw F ad))) := by
  obtain ⟨hx, hb, hml, hown, hts, hin, hK, hKP, hA, hfr, hlo, hvc⟩ := C
  simp only [chkE, Bool.and_eq_true, decide_eq_true_eq, beq_iff_eq] at hc
  obtain ⟨hd, rfl⟩ := hc
  simp only [stepw, sk, ast] at hs
  split at hs
  · rename_i x0 i0 p0 r0
    split at hs
    · rename_i hk
      split at hs
      · rename_i hi
        rw [if_neg (by omega)] at hs
        split at hs
        · rename_i hx1
          cases hs
          have hp : p0 < G.1 := (wfS_cons.mp (wfS_cons.mp (wfS_cons.mp hW).2).2).1
          have he := rz_get (F := F) (ad := ad) (M := M) hp
          rw [ent_bool hk] at he
          exact va_zast hx hb hK hP hD hS p0 1 he rfl (inb_in hi) hd (fun H2 locs2 hP2 hD2 hS2 => by
            rw [show vp_nar .boolean x0 = x0 from hx1, rows_set hp (fun M => ent_bool hk)] at hP2 hD2
            exact K.keep hP2 hD2 hS2 hl)
        · cases hs
      · cases hs
    · cases hs
  · cases hs

set_option maxHeartbeats 2000000 in
theorem sw_aaload  (C : Cxw p s m args meth c F A0 mid R d) (hP : va_P F.1 vwCl (rzw F ad G M) H) (hD : va_D A0 (rzw F ad G M)) (hS : va_S A0 s.heap H locs) (hG : wfG G) (hL : wfL G ls) (hW : wfS G st) (hn : ls.length ≤ mlw mid) (hl : lv_has lr (mlw mid) (lvw F ad ls)) (hc : chkE mid (pc, .aaload, len, ea, eb, ec) = true) (hs : stepw F.2.2.2.2.2 cl (alm mid) pc .aaload ea eb ec ls st G M = some (.inr (pc1, ls1, st1, G1, M1)))
    (K : Kow p l e R s m args below meth c Q F A0 mid ad G M G1 M1 pc1 ls1 st1 cells slots) : W p l e R s m args below meth c H locs cells slots Q (F0 m pc lr (st.map (rvw F ad))) := by
  obtain ⟨hx, hb, hml, hown, hts, hin, hK, hKP, hA, hfr, hlo, hvc⟩ := C
  simp only [chkE, Bool.and_eq_true, decide_eq_true_eq, beq_iff_eq] at hc
  obtain ⟨hd, rfl⟩ := hc
  simp only [stepw, sk] at hs
  split at hs
  · rename_i i0 p0 r0
    split at hs
    · rename_i hk
      split at hs
      · rename_i hi
        split at hs
        · cases hs
        · rename_i q0 hq
          cases hs
          have he := rz_get (F := F) (ad := ad) (M := M) ((wfS_cons.mp (wfS_cons.mp hW).2).1 : p0 < G.1)
          rw [ent_row hk] at he
          refine va_aldq hx hb hK hP p0 2 he rfl (inb_in hi) hd ?_
          rw [hq]
          exact K.same hP hD hS hl
      · cases hs
    · cases hs
  · cases hs

set_option maxHeartbeats 2000000 in
theorem sw_aastore  (C : Cxw p s m args meth c F A0 mid R d) (hP : va_P F.1 vwCl (rzw F ad G M) H) (hD : va_D A0 (rzw F ad G M)) (hS : va_S A0 s.heap H locs) (hG : wfG G) (hL : wfL G ls) (hW : wfS G st) (hn : ls.length ≤ mlw mid) (hl : lv_has lr (mlw mid) (lvw F ad ls)) (hc : chkE mid (pc, .aastore, len, ea, eb, ec) = true) (hs : stepw F.2.2.2.2.2 cl (alm mid) pc .aastore ea eb ec ls st G M = some (.inr (pc1, ls1, st1, G1, M1)))
    (K : Kow p l e R s m args below meth c Q F A0 mid ad G M G1 M1 pc1 ls1 st1 cells slots) : W p l e R s m args below meth c H locs cells slots Q (F0 m pc lr (st.map (rvw F ad))) := by
  obtain ⟨hx, hb, hml, hown, hts, hin, hK, hKP, hA, hfr, hlo, hvc⟩ := C
  simp only [chkE, Bool.and_eq_true, decide_eq_true_eq, beq_iff_eq] at hc
  obtain ⟨hd, rfl⟩ := hc
  simp only [stepw, sk] at hs
  split at hs
  · rename_i q0 i0 p0 r0
    split at hs
    · rename_i hk
      split at hs
      · rename_i hi
        cases hs
        rw [Bool.and_eq_true] at hi
        have hp : p0 < G.1 := (wfS_cons.mp (wfS_cons.mp (wfS_cons.mp hW).2).2).1
        have hq : q0 < G.1 := (wfS_cons.mp hW).1
        have he := rz_get (F := F) (ad := ad) (M := M) hp
        rw [ent_row hk.1] at he
        have hv := rz_get (F := F) (ad := ad) (M := M) hq
        rw [ent_obj hk.2 (by omega)] at hv
        have hset : (rzw F ad G M).set p0 (ad p0, .inl (F.2.1 2, (G.2.2.1 p0).2, .inr (.inr (.inr (.inr (va_up (fun j => rfw ad (G.2.2.2 p0 j)) i0.toNatClampNeg (some (ad q0)))))))) = rzw F ad (G.1, G.2.1, G.2.2.1, fun c' k' => if c' = p0 then (if k' = i0.toNatClampNeg then q0 + 1 else G.2.2.2 c' k') else G.2.2.2 c' k') M := by
          refine rz_set hp rfl ?_ (fun i hi3 hne => ?_)
          · rw [ent_row (G := (G.1, G.2.1, G.2.2.1, fun c' k' => if c' = p0 then (if k' = i0.toNatClampNeg then q0 + 1 else G.2.2.2 c' k') else G.2.2.2 c' k')) hk.1]
            have e9 : (fun j => rfw ad (if p0 = p0 then (if j = i0.toNatClampNeg then q0 + 1 else G.2.2.2 p0 j) else G.2.2.2 p0 j)) = va_up (fun j => rfw ad (G.2.2.2 p0 j)) i0.toNatClampNeg (some (ad q0)) := by
              funext j
              unfold va_up
              by_cases hj : j = i0.toNatClampNeg
              · simp [hj, rfw]
              · simp [hj]
            rw [← e9]
          · unfold entw
            congr 1
            funext j
            simp [hne]
        exact va_astq hx hb hK hP hD hS p0 2 q0 5 he rfl hv rfl (inb_in hi.2) hd (fun H2 locs2 hP2 hD2 hS2 => by
          rw [hset] at hP2 hD2
          have h7 := K ad H2 locs2 lr (fun _ _ => rfl) hP2 hD2 hS2 hl
          rwa [Nat.sub_self, Nat.sub_self, Nat.add_zero, Nat.add_zero] at h7)
      · cases hs
    · cases hs
  · cases hs

set_option maxHeartbeats 2000000 in
theorem sw_arraylength  (C : Cxw p s m args meth c F A0 mid R d) (hP : va_P F.1 vwCl (rzw F ad G M) H) (hD : va_D A0 (rzw F ad G M)) (hS : va_S A0 s.heap H locs) (hG : wfG G) (hL : wfL G ls) (hW : wfS G st) (hn : ls.length ≤ mlw mid) (hl : lv_has lr (mlw mid) (lvw F ad ls)) (hc : chkE mid (pc, .arraylength, len, ea, eb, ec) = true) (hs : stepw F.2.2.2.2.2 cl (alm mid) pc .arraylength ea eb ec ls st G M = some (.inr (pc1, ls1, st1, G1, M1)))
    (K : Kow p l e R s m args below meth c Q F A0 mid ad G M G1 M1 pc1 ls1 st1 cells slots) : W p l e R s m args below meth c H locs cells slots Q (F0 m pc lr (st.map (rvw F ad))) := by
  obtain ⟨hx, hb, hml, hown, hts, hin, hK, hKP, hA, hfr, hlo, hvc⟩ := C
  simp only [chkE, Bool.and_eq_true, decide_eq_true_eq, beq_iff_eq] at hc
  obtain ⟨hd, rfl⟩ := hc
  simp only [stepw, sk] at hs
  split at hs
  · rename_i p0 r0
    split at hs
    · rename_i hk
      cases hs
      have hp : p0 < G.1 := (wfS_cons.mp hW).1
      have he := rz_get (F := F) (ad := ad) (M := M) hp
      by_cases h0 : (G.2.2.1 p0).1 = 100
      · rw [ent_int h0] at he
        exact va_alen hx hb hK hP p0 0 he rfl rfl hd (K.same hP hD hS hl)
      · by_cases h1 : (G.2.2.1 p0).1 = 101
        · rw [ent_bool h1] at he
          exact va_alen hx hb hK hP p0 1 he rfl rfl hd (K.same hP hD hS hl)
        · by_cases h2 : (G.2.2.1 p0).1 = 102
          · rw [ent_row h2] at he
            exact va_alen hx hb hK hP p0 2 he rfl rfl hd (K.same hP hD hS hl)
          · have := obj_lt hP hp rfl h0 h1 h2
            omega
    · cases hs
  · rename_i j0 r0
    split at hs
    · rename_i hk
      cases hs
      rcases hk with hk | hk
      · obtain ⟨a0, e1, hT⟩ := kon_int hKP hk
        rw [List.map_cons, show rvw F ad (.inr (.inr j0)) = .ref a0 from e1]
        exact va_tlen hx hb hT hS rfl hd (K.same hP hD hS hl)
      · obtain ⟨a0, e1, hT⟩ := kon_byte hKP hk
        rw [List.map_cons, show rvw F ad (.inr (.inr j0)) = .ref a0 from e1]
        exact va_tlen hx hb hT hS rfl hd (K.same hP hD hS hl)
    · cases hs
  · cases hs

set_option maxHeartbeats 2000000 in
theorem sw_getstatic {i : Nat} (C : Cxw p s m args meth c F A0 mid R d) (hP : va_P F.1 vwCl (rzw F ad G M) H) (hD : va_D A0 (rzw F ad G M)) (hS : va_S A0 s.heap H locs) (hG : wfG G) (hL : wfL G ls) (hW : wfS G st) (hn : ls.length ≤ mlw mid) (hl : lv_has lr (mlw mid) (lvw F ad ls)) (hc : chkE mid (pc, (.getstatic i), len, ea, eb, ec) = true) (hs : stepw F.2.2.2.2.2 cl (alm mid) pc (.getstatic i) ea eb ec ls st G M = some (.inr (pc1, ls1, st1, G1, M1)))
    (K : Kow p l e R s m args below meth c Q F A0 mid ad G M G1 M1 pc1 ls1 st1 cells slots) : W p l e R s m args below meth c H locs cells slots Q (F0 m pc lr (st.map (rvw F ad))) := by
  obtain ⟨hx, hb, hml, hown, hts, hin, hK, hKP, hA, hfr, hlo, hvc⟩ := C
  simp only [chkE, Bool.and_eq_true, decide_eq_true_eq, beq_iff_eq] at hc
  obtain ⟨hd, rfl, hv⟩ := hc
  simp only [stepw, sk] at hs
  cases hs
  split at hv
  · rename_i h0
    rw [Bool.and_eq_true, decide_eq_true_eq, decide_eq_true_eq] at hv
    obtain ⟨rfl, hlk⟩ := hv
    have h1 := K.same hP hD hS hl
    rw [if_pos h0] at h1
    exact va_gets (v := .int 1) hx hb hKP.2.2.2.2.1 hS hown (hts _ (gw_mem (lnkw_mem hlk) rfl)) (fun _ h9 => h9) hd h1
  · rename_i h0
    have h1 := K.same hP hD hS hl
    rw [if_neg h0] at h1
    split at hv
    · rename_i h56
      subst h56
      rw [decide_eq_true_eq] at hv
      exact va_gets hx hb hKP.2.2.2.2.2.1 hS hown (hts _ (gw_mem (lnkw_mem hv) rfl)) (fun _ h9 => h9) hd h1
    · rw [Bool.and_eq_true, decide_eq_true_eq, decide_eq_true_eq] at hv
      obtain ⟨rfl, hlk⟩ := hv
      exact va_gets hx hb hKP.2.2.2.2.2.2.2.1 hS hown (hts _ (gw_mem (lnkw_mem hlk) rfl)) (fun _ h9 => h9) hd h1

set_option maxHeartbeats 2000000 in
theorem sw_new {i : Nat} (C : Cxw p s m args meth c F A0 mid R d) (hP : va_P F.1 vwCl (rzw F ad G M) H) (hD : va_D A0 (rzw F ad G M)) (hS : va_S A0 s.heap H locs) (hG : wfG G) (hL : wfL G ls) (hW : wfS G st) (hn : ls.length ≤ mlw mid) (hl : lv_has lr (mlw mid) (lvw F ad ls)) (hc : chkE mid (pc, (.new i), len, ea, eb, ec) = true) (hs : stepw F.2.2.2.2.2 cl (alm mid) pc (.new i) ea eb ec ls st G M = some (.inr (pc1, ls1, st1, G1, M1)))
    (K : Kow p l e R s m args below meth c Q F A0 mid ad G M G1 M1 pc1 ls1 st1 cells slots) (hno : ea ≠ 99) (hr1 : cells + (G1.1 - G.1) ≤ R.cells) (hr2 : slots + (G1.2.1 - G.2.1) ≤ R.slots) : W p l e R s m args below meth c H locs cells slots Q (F0 m pc lr (st.map (rvw F ad))) := by
  obtain ⟨hx, hb, hml, hown, hts, hin, hK, hKP, hA, hfr, hlo, hvc⟩ := C
  simp only [chkE, Bool.and_eq_true, decide_eq_true_eq, beq_iff_eq] at hc
  obtain ⟨hd, hq⟩ := hc
  simp only [stepw, sk, nwo] at hs
  split at hs
  · cases hs
    by_cases h99 : ea = 99
    · exact absurd h99 hno
    · rw [if_neg h99] at hq
      simp only [Bool.and_eq_true, decide_eq_true_eq, beq_iff_eq] at hq
      obtain ⟨⟨⟨rfl, ha⟩, hbn⟩, hlk⟩ := hq
      obtain ⟨r, hr, e1, e2, e3⟩ := vwCl_get ha
      obtain ⟨ty0, hty0⟩ := tys_ok hr
      have hins := ins_ok ea ha
      rw [e3] at hlk hins
      rw [e1] at hins hbn
      have z1 : G.1 + 1 - G.1 = 1 := by omega
      have z2 : G.2.1 + eb - G.2.1 = r.2.2 := by omega
      dsimp only at hr1 hr2
      rw [z1] at hr1
      rw [z2] at hr2
      have hfs : ∀ j, j < r.2.2 → defaultValue (ty0 j) = vp_V ((List.range (nfw ea)).map (fvw ad ea (fun _ => 0) (fun _ => 0))) j := by
        intro j hj
        have hrk := rf_ok ea ha j (by rw [e1]; exact hj)
        rw [e2] at hrk
        have e9 : vp_V ((List.range (nfw ea)).map (fvw ad ea (fun _ => 0) (fun _ => 0))) j = fvw ad ea (fun _ => 0) (fun _ => 0) j := by
          unfold vp_V
          rw [List.getD_eq_getElem?_getD]
          simp [e1, hj]
        rw [e9]
        unfold fvw
        split at hrk
        · rename_i hrf
          rw [if_pos hrf, hty0 j hj] at *
          cases hty : ty0 j <;> rw [hty] at hrk <;> first | rfl | cases hrk
        · rename_i hrf
          rw [if_neg hrf]
          rw [Bool.or_eq_true, beq_iff_eq, beq_iff_eq] at hrk
          have h9 := hty0 j hj
          rcases hrk with hrk | hrk
          · rw [hrk, show parseFieldDescriptor "I" = some .int by decide +kernel] at h9
            rw [← Option.some.inj h9]; rfl
          · rw [hrk, show parseFieldDescriptor "Z" = some .boolean by decide +kernel] at h9
            rw [← Option.some.inj h9]; rfl
      refine va_new (ci := ea) hx hb hts (uws_ok hr) ty0 hty0 hown (hts _ (gw_mem (lnkw_mem hlk) rfl)) (hts _ (gw_mem (wdw_mem hins.1) rfl)) (hts _ (gw_mem (wdw_mem hins.2) rfl)) hK hP hD hS hA hr hfs hr1 hr2 hd (fun q0 H2 hP2 hD2 hS2 => ?_)
      have hpush := push_ok (F := F) (ad := ad) (G := G) (M := M) (q0 := q0) (x := .inr (ea, (List.range (nfw ea)).map (fvw ad ea (fun _ => 0) (fun _ => 0)))) (G2 := (G.1 + 1, G.2.1 + eb, fun c' => if c' = G.1 then (ea, 0) else G.2.2.1 c', fun c' k' => if c' = G.1 then 0 else G.2.2.2 c' k')) (M2 := fun c' k' => if c' = G.1 then 0 else M c' k') hG rfl (fun i hi => ⟨if_neg (by omega), funext fun j => if_neg (by omega), funext fun j => if_neg (by omega)⟩) (by
        rw [ent_obj (a := ea) (by simp) ha]
        congr 2
        apply List.map_congr_left
        intro j hj
        unfold fvw
        simp [rfw])
      rw [hpush] at hP2 hD2
      · have h7 := K _ H2 locs lr push_ad hP2 hD2 hS2 (lvw_ext push_ad hL hl)
        dsimp only at h7
        rw [z1, z2, List.map_cons, stk_ext (F := F) push_ad hW, show rvw F (fun i => if i = G.1 then q0 else ad i) (.inr (.inl G.1)) = .ref q0 from congrArg Value.ref (if_pos rfl)] at h7
        exact h7
  · cases hs

set_option maxHeartbeats 2000000 in
theorem sw_newarr_int  (C : Cxw p s m args meth c F A0 mid R d) (hP : va_P F.1 vwCl (rzw F ad G M) H) (hD : va_D A0 (rzw F ad G M)) (hS : va_S A0 s.heap H locs) (hG : wfG G) (hL : wfL G ls) (hW : wfS G st) (hn : ls.length ≤ mlw mid) (hl : lv_has lr (mlw mid) (lvw F ad ls)) (hc : chkE mid (pc, (.newarray .int), len, ea, eb, ec) = true) (hs : stepw F.2.2.2.2.2 cl (alm mid) pc (.newarray .int) ea eb ec ls st G M = some (.inr (pc1, ls1, st1, G1, M1)))
    (K : Kow p l e R s m args below meth c Q F A0 mid ad G M G1 M1 pc1 ls1 st1 cells slots) (hr1 : cells + (G1.1 - G.1) ≤ R.cells) (hr2 : slots + (G1.2.1 - G.2.1) ≤ R.slots) : W p l e R s m args below meth c H locs cells slots Q (F0 m pc lr (st.map (rvw F ad))) := by
  obtain ⟨hx, hb, hml, hown, hts, hin, hK, hKP, hA, hfr, hlo, hvc⟩ := C
  simp only [chkE, Bool.and_eq_true, decide_eq_true_eq, beq_iff_eq] at hc
  obtain ⟨hd, rfl⟩ := hc
  simp only [stepw, sk, nwa] at hs
  split at hs
  · split at hs
    · rename_i x0 r0
      split at hs
      · rename_i hi
        cases hs
        obtain ⟨g1, g2⟩ := clamp_of_inb hi
        have z1 : G.1 + 1 - G.1 = 1 := by omega
        have z2 : G.2.1 + x0.toNatClampNeg - G.2.1 = x0.toNatClampNeg := by omega
        dsimp only at hr1 hr2
        rw [z1] at hr1
        rw [z2] at hr2
        refine va_newa (atype := .int) (ty := .int) (a0 := (x0.toNatClampNeg, .inl (fun _ => 0))) hx hb (hts (.arrayClass (newarray.typeOf .int)) arr_ok.1) rfl hK hP hD hS hA (fun _ => rfl) g1 rfl (by show _ * 4 ≤ _; omega) hr1 hr2 hd (fun q0 cA H2 hK2 hP2 hD2 hS2 => ?_)
        have hcA : cA = F.2.1 0 := cA_one hK2 3 0 rfl rfl
        have hpush := push_ok (F := F) (ad := ad) (G := G) (M := M) (q0 := q0) (x := .inl (F.2.1 0, x0.toNatClampNeg, .inl (fun _ => 0))) (G2 := (G.1 + 1, G.2.1 + x0.toNatClampNeg, fun c' => if c' = G.1 then (100, x0.toNatClampNeg) else G.2.2.1 c', fun c' k' => if c' = G.1 then 0 else G.2.2.2 c' k')) (M2 := fun c' k' => if c' = G.1 then 0 else M c' k') hG rfl (fun i hi => ⟨if_neg (by omega), funext fun j => if_neg (by omega), funext fun j => if_neg (by omega)⟩) (by
          rw [ent_int (by simp)]
          simp)
        rw [hcA, hpush] at hP2 hD2
        · have h7 := K _ H2 locs lr push_ad hP2 hD2 hS2 (lvw_ext push_ad hL hl)
          dsimp only at h7
          rw [z1, z2, List.map_cons, stk_ext (F := F) push_ad (wfS_cons.mp hW).2, show rvw F (fun i => if i = G.1 then q0 else ad i) (.inr (.inl G.1)) = .ref q0 from congrArg Value.ref (if_pos rfl)] at h7
          exact h7
      · cases hs
    · cases hs
  · cases hs

set_option maxHeartbeats 2000000 in
theorem sw_newarr_bool  (C : Cxw p s m args meth c F A0 mid R d) (hP : va_P F.1 vwCl (rzw F ad G M) H) (hD : va_D A0 (rzw F ad G M)) (hS : va_S A0 s.heap H locs) (hG : wfG G) (hL : wfL G ls) (hW : wfS G st) (hn : ls.length ≤ mlw mid) (hl : lv_has lr (mlw mid) (lvw F ad ls)) (hc : chkE mid (pc, (.newarray .boolean), len, ea, eb, ec) = true) (hs : stepw F.2.2.2.2.2 cl (alm mid) pc (.newarray .boolean) ea eb ec ls st G M = some (.inr (pc1, ls1, st1, G1, M1)))
    (K : Kow p l e R s m args below meth c Q F A0 mid ad G M G1 M1 pc1 ls1 st1 cells slots) (hr1 : cells + (G1.1 - G.1) ≤ R.cells) (hr2 : slots + (G1.2.1 - G.2.1) ≤ R.slots) : W p l e R s m args below meth c H locs cells slots Q (F0 m pc lr (st.map (rvw F ad))) := by
  obtain ⟨hx, hb, hml, hown, hts, hin, hK, hKP, hA, hfr, hlo, hvc⟩ := C
  simp only [chkE, Bool.and_eq_true, decide_eq_true_eq, beq_iff_eq] at hc
  obtain ⟨hd, rfl⟩ := hc
  simp only [stepw, sk, nwa] at hs
  split at hs
  · split at hs
    · rename_i x0 r0
      split at hs
      · rename_i hi
        cases hs
        obtain ⟨g1, g2⟩ := clamp_of_inb hi
        have z1 : G.1 + 1 - G.1 = 1 := by omega
        have z2 : G.2.1 + x0.toNatClampNeg - G.2.1 = x0.toNatClampNeg := by omega
        dsimp only at hr1 hr2
        rw [z1] at hr1
        rw [z2] at hr2
        refine va_newa (atype := .boolean) (ty := .boolean) (a0 := (x0.toNatClampNeg, .inl (fun _ => 0))) hx hb (hts (.arrayClass (newarray.typeOf .boolean)) arr_ok.2) rfl hK hP hD hS hA (fun _ => rfl) g1 rfl (by show _ * 1 ≤ _; omega) hr1 hr2 hd (fun q0 cA H2 hK2 hP2 hD2 hS2 => ?_)
        have hcA : cA = F.2.1 1 := cA_one hK2 3 1 rfl rfl
        have hpush := push_ok (F := F) (ad := ad) (G := G) (M := M) (q0 := q0) (x := .inl (F.2.1 1, x0.toNatClampNeg, .inl (fun _ => 0))) (G2 := (G.1 + 1, G.2.1 + x0.toNatClampNeg, fun c' => if c' = G.1 then (101, x0.toNatClampNeg) else G.2.2.1 c', fun c' k' => if c' = G.1 then 0 else G.2.2.2 c' k')) (M2 := fun c' k' => if c' = G.1 then 0 else M c' k') hG rfl (fun i hi => ⟨if_neg (by omega), funext fun j => if_neg (by omega), funext fun j => if_neg (by omega)⟩) (by
          rw [ent_bool (by simp)]
          simp)
        rw [hcA, hpush] at hP2 hD2
        · have h7 := K _ H2 locs lr push_ad hP2 hD2 hS2 (lvw_ext push_ad hL hl)
          dsimp only at h7
          rw [z1, z2, List.map_cons, stk_ext (F := F) push_ad (wfS_cons.mp hW).2, show rvw F (fun i => if i = G.1 then q0 else ad i) (.inr (.inl G.1)) = .ref q0 from congrArg Value.ref (if_pos rfl)] at h7
          exact h7
      · cases hs
    · cases hs
  · cases hs

set_option maxHeartbeats 2000000 in
theorem sw_anewarray {i : Nat} (C : Cxw p s m args meth c F A0 mid R d) (hP : va_P F.1 vwCl (rzw F ad G M) H) (hD : va_D A0 (rzw F ad G M)) (hS : va_S A0 s.heap H locs) (hG : wfG G) (hL : wfL G ls) (hW : wfS G st) (hn : ls.length ≤ mlw mid) (hl : lv_has lr (mlw mid) (lvw F ad ls)) (hc : chkE mid (pc, (.anewarray i), len, ea, eb, ec) = true) (hs : stepw F.2.2.2.2.2 cl (alm mid) pc (.anewarray i) ea eb ec ls st G M = some (.inr (pc1, ls1, st1, G1, M1)))
    (K : Kow p l e R s m args below meth c Q F A0 mid ad G M G1 M1 pc1 ls1 st1 cells slots) (hr1 : cells + (G1.1 - G.1) ≤ R.cells) (hr2 : slots + (G1.2.1 - G.2.1) ≤ R.slots) : W p l e R s m args below meth c H locs cells slots Q (F0 m pc lr (st.map (rvw F ad))) := by
  obtain ⟨hx, hb, hml, hown, hts, hin, hK, hKP, hA, hfr, hlo, hvc⟩ := C
  simp only [chkE, Bool.and_eq_true, decide_eq_true_eq, beq_iff_eq] at hc
  obtain ⟨hd, rfl, hlk⟩ := hc
  simp only [stepw, sk, nwa] at hs
  split at hs
  · split at hs
    · rename_i x0 r0
      split at hs
      · rename_i hi
        cases hs
        obtain ⟨g1, g2⟩ := clamp_of_inb hi
        have z1 : G.1 + 1 - G.1 = 1 := by omega
        have z2 : G.2.1 + x0.toNatClampNeg - G.2.1 = x0.toNatClampNeg := by omega
        dsimp only at hr1 hr2
        rw [z1] at hr1
        rw [z2] at hr2
        refine va_newq hx hb hown (hts _ (gw_mem (lnkw_mem hlk) rfl)) hKP.2.1 hK hP hD hS hA g1 rfl (by omega) hr1 hr2 hd (fun q0 cA H2 hK2 hP2 hD2 hS2 => ?_)
        have hcA : cA = F.2.1 2 := cA_one hK2 3 2 rfl rfl
        have hpush := push_ok (F := F) (ad := ad) (G := G) (M := M) (q0 := q0) (x := .inl (F.2.1 2, x0.toNatClampNeg, .inr (.inr (.inr (.inr (fun _ => none)))))) (G2 := (G.1 + 1, G.2.1 + x0.toNatClampNeg, fun c' => if c' = G.1 then (102, x0.toNatClampNeg) else G.2.2.1 c', fun c' k' => if c' = G.1 then 0 else G.2.2.2 c' k')) (M2 := fun c' k' => if c' = G.1 then 0 else M c' k') hG rfl (fun i hi => ⟨if_neg (by omega), funext fun j => if_neg (by omega), funext fun j => if_neg (by omega)⟩) (by
          rw [ent_row (by simp)]
          simp [rfw])
        rw [hcA, hpush] at hP2 hD2
        · have h7 := K _ H2 locs lr push_ad hP2 hD2 hS2 (lvw_ext push_ad hL hl)
          dsimp only at h7
          rw [z1, z2, List.map_cons, stk_ext (F := F) push_ad (wfS_cons.mp hW).2, show rvw F (fun i => if i = G.1 then q0 else ad i) (.inr (.inl G.1)) = .ref q0 from congrArg Value.ref (if_pos rfl)] at h7
          exact h7
      · cases hs
    · cases hs
  · cases hs
end
end
