section
def Cxw (p : Program) (s : State) (m : MethodId) (args : Array Value) (meth : Method) (c : Code) (F : Fxw) (A0 : Nat → Prop) (mid : Nat) (R : Room) (d : Nat) : Prop :=
  p.tables.exec = Jvm.exec ∧ c.code = bmw mid ∧ c.maxLocals = mlw mid ∧ s.vm.findClass (onw mid) = some m.cls ∧ (∀ w ∈ gw_tbl, w.before args s = true) ∧ ((ymw mid).name = "<init>" → meth.name = "<init>") ∧ va_K F.1 vwCl (tysw F) s ∧ KPw F A0 s s.heap ∧ (∀ q, s.heap.size ≤ q → A0 q) ∧ d + 1 ≤ R.frames ∧ 64 * (d + 1) ≤ R.locals ∧ (F.2.2.2.2.1).category = 1
/-- what comes behind a step -/
def Kow (p : Program) (l : Launch) (e : Env) (R : Room) (s : State) (m : MethodId) (args : Array Value) (below : List Frame) (meth : Method) (c : Code) (Q : State → Prop) (F : Fxw) (A0 : Nat → Prop) (mid : Nat) (ad : Nat → Nat) (G : GGw) (M : MMw) (G1 : GGw) (M1 : MMw) (pc1 : Nat) (ls1 : LSw) (st1 : List PVw) (cells slots : Nat) : Prop :=
  ∀ (ad' : Nat → Nat) (H' : Heap) (locs' : List Loc) (lr' : Array Slot), (∀ i, i < G.1 → ad' i = ad i) → va_P F.1 vwCl (rzw F ad' G1 M1) H' → va_D A0 (rzw F ad' G1 M1) → va_S A0 s.heap H' locs' → lv_has lr' (mlw mid) (lvw F ad' ls1) → W p l e R s m args below meth c H' locs' (cells + (G1.1 - G.1)) (slots + (G1.2.1 - G.2.1)) Q (F0 m pc1 lr' (st1.map (rvw F ad')))
theorem fb_bmod {z : Int} (h1 : -2147483648 ≤ z) (h2 : z < 2147483648) : z.bmod (2 ^ 32) = z := by
  rw [Int.bmod_eq_of_le (by omega) (by omega)]
theorem fb_ofI {z : Int} (h1 : -2147483648 ≤ z) (h2 : z < 2147483648) : (Int32.ofInt z).toInt = z := by
  rw [Int32.toInt_ofInt, fb_bmod h1 h2]
theorem kvw_ref (F : Fxw) {j : Nat} (hj : j < 58) : ∃ a0 : Nat, kvw F j = .ref a0 := by
  unfold kvw
  repeat' split
  · exact ⟨_, rfl⟩
  · exact ⟨_, rfl⟩
  · exact ⟨_, rfl⟩
  · exact ⟨_, rfl⟩
  · omega
theorem ofNat_small {n : Nat} (h : n < 1000) : (Int32.ofNat n).toInt = (n : Int) := Int32.toInt_ofNat_of_lt (by omega)
theorem swt_inv {R : Type} (x : Int32) (pc : Nat) (k : Nat → Option R) (dd : Option R) : ∀ (os : List Int) (lo : Nat), lo + os.length < 1000 → (∃ (k0 : Nat) (o : Int), os[k0]? = some o ∧ x.toInt = ((lo + k0 : Nat) : Int) ∧ swt x pc k dd lo os = k ((pc : Int) + o).toNat) ∨ ((x.toInt < (lo : Int) ∨ (lo : Int) + os.length ≤ x.toInt) ∧ swt x pc k dd lo os = dd)
  | [], lo, _ => Or.inr ⟨by simp only [List.length_nil]; omega, rfl⟩
  | o :: os, lo, h => by
    have hh : lo + 1 + os.length < 1000 := by simp only [List.length_cons] at h; omega
    have e1 := ofNat_small (n := lo) (by omega)
    unfold swt
    by_cases hx : x = Int32.ofNat lo
    · rw [if_pos hx]
      exact Or.inl ⟨0, o, rfl, by rw [hx, e1]; rfl, rfl⟩
    · rw [if_neg hx]
      have hne : x.toInt ≠ (lo : Int) := fun z => hx (Int32.toInt_inj.mp (z.trans e1.symm))
      rcases swt_inv x pc k dd os (lo + 1) hh with ⟨k0, o0, h1, h2, h3⟩ | ⟨h1, h2⟩
      · exact Or.inl ⟨k0 + 1, o0, h1, by rw [h2]; omega, h3⟩
      · exact Or.inr ⟨by simp only [List.length_cons]; omega, h2⟩
theorem lwt_inv {R : Type} (x : Int32) (pc : Nat) (k : Nat → Option R) (eb : Nat) (dd : Int) (hdf : (pc : Int) + dd = (eb : Int)) : ∀ (os : List (Int × Int)), (∀ o ∈ os, 0 ≤ (pc : Int) + o.2 ∧ -1000 < o.1 ∧ o.1 < 1000) → ∃ t0 : Nat, (pc : Int) + Op.lookupswitch.offset os dd x.toInt = (t0 : Int) ∧ lwt x pc k (k eb) os = k t0
  | [], _ => ⟨eb, hdf, rfl⟩
  | o :: os, h => by
    obtain ⟨h1, h2, h3⟩ := h o List.mem_cons_self
    have e1 : (Int32.ofInt o.1).toInt = o.1 := fb_ofI (by omega) (by omega)
    unfold lwt
    by_cases hx : x = Int32.ofInt o.1
    · rw [if_pos hx]
      refine ⟨((pc : Int) + o.2).toNat, ?_, rfl⟩
      have hz : x.toInt = o.1 := by rw [hx, e1]
      simp only [Op.lookupswitch.offset, hz]
      simp
      omega
    · rw [if_neg hx]
      have hne : x.toInt ≠ o.1 := fun z => hx (Int32.toInt_inj.mp (z.trans e1.symm))
      obtain ⟨t0, g1, g2⟩ := lwt_inv x pc k eb dd hdf os (fun q hq => h q (List.mem_cons_of_mem _ hq))
      refine ⟨t0, ?_, g2⟩
      rw [← g1]
      simp only [Op.lookupswitch.offset]
      simp [Ne.symm hne, hne]
section
variable {p : Program} {l : Launch} {e : Env} {R : Room} {s : State} {m : MethodId} {args : Array Value} {below : List Frame} {meth : Method} {c : Code} {Q : State → Prop} {F : Fxw} {A0 : Nat → Prop} {mid d : Nat} {cl : CLw}
variable {pc len ea eb ec pc1 : Nat} {ls ls1 : LSw} {st st1 : List PVw} {G G1 : GGw} {M M1 : MMw} {H : Heap} {locs : List Loc} {cells slots : Nat} {ad : Nat → Nat} {lr : Array Slot}
theorem Kow.keep (K : Kow p l e R s m args below meth c Q F A0 mid ad G M G M1 pc1 ls1 st1 cells slots) {H' : Heap} {locs' : List Loc} (hP : va_P F.1 vwCl (rzw F ad G M1) H') (hD : va_D A0 (rzw F ad G M1)) (hS : va_S A0 s.heap H' locs') (hl : lv_has lr (mlw mid) (lvw F ad ls1)) : W p l e R s m args below meth c H' locs' cells slots Q (F0 m pc1 lr (st1.map (rvw F ad))) := by
  have h := K ad H' locs' lr (fun _ _ => rfl) hP hD hS hl
  rwa [Nat.sub_self, Nat.sub_self, Nat.add_zero, Nat.add_zero] at h
theorem Kow.same (K : Kow p l e R s m args below meth c Q F A0 mid ad G M G M pc1 ls1 st1 cells slots) (hP : va_P F.1 vwCl (rzw F ad G M) H) (hD : va_D A0 (rzw F ad G M)) (hS : va_S A0 s.heap H locs) (hl : lv_has lr (mlw mid) (lvw F ad ls1)) : W p l e R s m args below meth c H locs cells slots Q (F0 m pc1 lr (st1.map (rvw F ad))) := K.keep hP hD hS hl
theorem Kow.at (K : Kow p l e R s m args below meth c Q F A0 mid ad G M G M1 pc1 ls1 st1 cells slots) {n : Nat} (h : pc1 = n) : Kow p l e R s m args below meth c Q F A0 mid ad G M G M1 n ls1 st1 cells slots := h ▸ K

set_option maxHeartbeats 2000000 in
theorem sw_iload {i : Nat} (C : Cxw p s m args meth c F A0 mid R d) (hP : va_P F.1 vwCl (rzw F ad G M) H) (hD : va_D A0 (rzw F ad G M)) (hS : va_S A0 s.heap H locs) (hG : wfG G) (hL : wfL G ls) (hW : wfS G st) (hn : ls.length ≤ mlw mid) (hl : lv_has lr (mlw mid) (lvw F ad ls)) (hc : chkE mid (pc, (.iload i), len, ea, eb, ec) = true) (hs : stepw F.2.2.2.2.2 cl (alm mid) pc (.iload i) ea eb ec ls st G M = some (.inr (pc1, ls1, st1, G1, M1)))
    (K : Kow p l e R s m args below meth c Q F A0 mid ad G M G1 M1 pc1 ls1 st1 cells slots) : W p l e R s m args below meth c H locs cells slots Q (F0 m pc lr (st.map (rvw F ad))) := by
  obtain ⟨hx, hb, hml, hown, hts, hin, hK, hKP, hA, hfr, hlo, hvc⟩ := C
  simp only [chkE, Bool.and_eq_true, decide_eq_true_eq, beq_iff_eq] at hc
  obtain ⟨hd, rfl⟩ := hc
  simp only [stepw, sk, ldI] at hs
  split at hs
  · rename_i x0 hv
    cases hs
    exact lv_iload hx hb hd (lvw_at hl hv) (K.same hP hD hS hl)
  · cases hs

set_option maxHeartbeats 2000000 in
theorem sw_iload_n {i : Fin 4} (C : Cxw p s m args meth c F A0 mid R d) (hP : va_P F.1 vwCl (rzw F ad G M) H) (hD : va_D A0 (rzw F ad G M)) (hS : va_S A0 s.heap H locs) (hG : wfG G) (hL : wfL G ls) (hW : wfS G st) (hn : ls.length ≤ mlw mid) (hl : lv_has lr (mlw mid) (lvw F ad ls)) (hc : chkE mid (pc, (.iload_n i), len, ea, eb, ec) = true) (hs : stepw F.2.2.2.2.2 cl (alm mid) pc (.iload_n i) ea eb ec ls st G M = some (.inr (pc1, ls1, st1, G1, M1)))
    (K : Kow p l e R s m args below meth c Q F A0 mid ad G M G1 M1 pc1 ls1 st1 cells slots) : W p l e R s m args below meth c H locs cells slots Q (F0 m pc lr (st.map (rvw F ad))) := by
  obtain ⟨hx, hb, hml, hown, hts, hin, hK, hKP, hA, hfr, hlo, hvc⟩ := C
  simp only [chkE, Bool.and_eq_true, decide_eq_true_eq, beq_iff_eq] at hc
  obtain ⟨hd, rfl⟩ := hc
  simp only [stepw, sk, ldI] at hs
  split at hs
  · rename_i x0 hv
    cases hs
    exact lv_iload_n hx hb hd rfl (lvw_at hl hv) (K.same hP hD hS hl)
  · cases hs

set_option maxHeartbeats 2000000 in
theorem sw_aload {i : Nat} (C : Cxw p s m args meth c F A0 mid R d) (hP : va_P F.1 vwCl (rzw F ad G M) H) (hD : va_D A0 (rzw F ad G M)) (hS : va_S A0 s.heap H locs) (hG : wfG G) (hL : wfL G ls) (hW : wfS G st) (hn : ls.length ≤ mlw mid) (hl : lv_has lr (mlw mid) (lvw F ad ls)) (hc : chkE mid (pc, (.aload i), len, ea, eb, ec) = true) (hs : stepw F.2.2.2.2.2 cl (alm mid) pc (.aload i) ea eb ec ls st G M = some (.inr (pc1, ls1, st1, G1, M1)))
    (K : Kow p l e R s m args below meth c Q F A0 mid ad G M G1 M1 pc1 ls1 st1 cells slots) : W p l e R s m args below meth c H locs cells slots Q (F0 m pc lr (st.map (rvw F ad))) := by
  obtain ⟨hx, hb, hml, hown, hts, hin, hK, hKP, hA, hfr, hlo, hvc⟩ := C
  simp only [chkE, Bool.and_eq_true, decide_eq_true_eq, beq_iff_eq] at hc
  obtain ⟨hd, rfl⟩ := hc
  simp only [stepw, sk, ldA] at hs
  split at hs
  · rename_i p0 hv
    cases hs
    exact lv_aload hx hb hd (lvw_at hl hv) (K.same hP hD hS hl)
  · rename_i j0 hv
    split at hs
    · rename_i hj
      cases hs
      obtain ⟨a0, ha⟩ := kvw_ref F hj
      have h0 := lvw_at hl hv
      rw [show rvw F ad (.inr (.inr j0)) = .ref a0 from ha] at h0
      refine lv_aload hx hb hd h0 ?_
      have h1 := (K.same hP hD hS hl)
      rwa [List.map_cons, show rvw F ad (.inr (.inr j0)) = .ref a0 from ha] at h1
    · cases hs
  · cases hs

set_option maxHeartbeats 2000000 in
theorem sw_aload_n {i : Fin 4} (C : Cxw p s m args meth c F A0 mid R d) (hP : va_P F.1 vwCl (rzw F ad G M) H) (hD : va_D A0 (rzw F ad G M)) (hS : va_S A0 s.heap H locs) (hG : wfG G) (hL : wfL G ls) (hW : wfS G st) (hn : ls.length ≤ mlw mid) (hl : lv_has lr (mlw mid) (lvw F ad ls)) (hc : chkE mid (pc, (.aload_n i), len, ea, eb, ec) = true) (hs : stepw F.2.2.2.2.2 cl (alm mid) pc (.aload_n i) ea eb ec ls st G M = some (.inr (pc1, ls1, st1, G1, M1)))
    (K : Kow p l e R s m args below meth c Q F A0 mid ad G M G1 M1 pc1 ls1 st1 cells slots) : W p l e R s m args below meth c H locs cells slots Q (F0 m pc lr (st.map (rvw F ad))) := by
  obtain ⟨hx, hb, hml, hown, hts, hin, hK, hKP, hA, hfr, hlo, hvc⟩ := C
  simp only [chkE, Bool.and_eq_true, decide_eq_true_eq, beq_iff_eq] at hc
  obtain ⟨hd, rfl⟩ := hc
  simp only [stepw, sk, ldA] at hs
  split at hs
  · rename_i p0 hv
    cases hs
    exact lv_aload_n hx hb hd rfl (lvw_at hl hv) (K.same hP hD hS hl)
  · rename_i j0 hv
    split at hs
    · rename_i hj
      cases hs
      obtain ⟨a0, ha⟩ := kvw_ref F hj
      have h0 := lvw_at hl hv
      rw [show rvw F ad (.inr (.inr j0)) = .ref a0 from ha] at h0
      refine lv_aload_n hx hb hd rfl h0 ?_
      have h1 := (K.same hP hD hS hl)
      rwa [List.map_cons, show rvw F ad (.inr (.inr j0)) = .ref a0 from ha] at h1
    · cases hs
  · cases hs

set_option maxHeartbeats 2000000 in
theorem sw_istore {i : Nat} (C : Cxw p s m args meth c F A0 mid R d) (hP : va_P F.1 vwCl (rzw F ad G M) H) (hD : va_D A0 (rzw F ad G M)) (hS : va_S A0 s.heap H locs) (hG : wfG G) (hL : wfL G ls) (hW : wfS G st) (hn : ls.length ≤ mlw mid) (hl : lv_has lr (mlw mid) (lvw F ad ls)) (hc : chkE mid (pc, (.istore i), len, ea, eb, ec) = true) (hs : stepw F.2.2.2.2.2 cl (alm mid) pc (.istore i) ea eb ec ls st G M = some (.inr (pc1, ls1, st1, G1, M1)))
    (K : Kow p l e R s m args below meth c Q F A0 mid ad G M G1 M1 pc1 ls1 st1 cells slots) : W p l e R s m args below meth c H locs cells slots Q (F0 m pc lr (st.map (rvw F ad))) := by
  obtain ⟨hx, hb, hml, hown, hts, hin, hK, hKP, hA, hfr, hlo, hvc⟩ := C
  simp only [chkE, Bool.and_eq_true, decide_eq_true_eq, beq_iff_eq] at hc
  obtain ⟨hd, rfl⟩ := hc
  simp only [stepw, sk, stI] at hs
  split at hs
  · rename_i x0 r0
    split at hs
    · rename_i hi
      cases hs
      exact lv_istore hx hb hd hl (Nat.lt_of_lt_of_le hi hn) rfl (fun lr2 hl2 => K.same hP hD hS (lvw_put (v := .inl x0) hvc hl2))
    · cases hs
  · cases hs

set_option maxHeartbeats 2000000 in
theorem sw_istore_n {i : Fin 4} (C : Cxw p s m args meth c F A0 mid R d) (hP : va_P F.1 vwCl (rzw F ad G M) H) (hD : va_D A0 (rzw F ad G M)) (hS : va_S A0 s.heap H locs) (hG : wfG G) (hL : wfL G ls) (hW : wfS G st) (hn : ls.length ≤ mlw mid) (hl : lv_has lr (mlw mid) (lvw F ad ls)) (hc : chkE mid (pc, (.istore_n i), len, ea, eb, ec) = true) (hs : stepw F.2.2.2.2.2 cl (alm mid) pc (.istore_n i) ea eb ec ls st G M = some (.inr (pc1, ls1, st1, G1, M1)))
    (K : Kow p l e R s m args below meth c Q F A0 mid ad G M G1 M1 pc1 ls1 st1 cells slots) : W p l e R s m args below meth c H locs cells slots Q (F0 m pc lr (st.map (rvw F ad))) := by
  obtain ⟨hx, hb, hml, hown, hts, hin, hK, hKP, hA, hfr, hlo, hvc⟩ := C
  simp only [chkE, Bool.and_eq_true, decide_eq_true_eq, beq_iff_eq] at hc
  obtain ⟨hd, rfl⟩ := hc
  simp only [stepw, sk, stI] at hs
  split at hs
  · rename_i x0 r0
    split at hs
    · rename_i hi
      cases hs
      exact lv_istore_n hx hb hd rfl hl (Nat.lt_of_lt_of_le hi hn) rfl (fun lr2 hl2 => K.same hP hD hS (lvw_put (v := .inl x0) hvc hl2))
    · cases hs
  · cases hs

set_option maxHeartbeats 2000000 in
theorem sw_astore {i : Nat} (C : Cxw p s m args meth c F A0 mid R d) (hP : va_P F.1 vwCl (rzw F ad G M) H) (hD : va_D A0 (rzw F ad G M)) (hS : va_S A0 s.heap H locs) (hG : wfG G) (hL : wfL G ls) (hW : wfS G st) (hn : ls.length ≤ mlw mid) (hl : lv_has lr (mlw mid) (lvw F ad ls)) (hc : chkE mid (pc, (.astore i), len, ea, eb, ec) = true) (hs : stepw F.2.2.2.2.2 cl (alm mid) pc (.astore i) ea eb ec ls st G M = some (.inr (pc1, ls1, st1, G1, M1)))
    (K : Kow p l e R s m args below meth c Q F A0 mid ad G M G1 M1 pc1 ls1 st1 cells slots) : W p l e R s m args below meth c H locs cells slots Q (F0 m pc lr (st.map (rvw F ad))) := by
  obtain ⟨hx, hb, hml, hown, hts, hin, hK, hKP, hA, hfr, hlo, hvc⟩ := C
  simp only [chkE, Bool.and_eq_true, decide_eq_true_eq, beq_iff_eq] at hc
  obtain ⟨hd, rfl⟩ := hc
  simp only [stepw, sk, stA] at hs
  split at hs
  · rename_i x0 r0
    split at hs
    · rename_i hi
      cases hs
      exact lv_astore hx hb hd hl (Nat.lt_of_lt_of_le hi hn) rfl (fun lr2 hl2 => K.same hP hD hS (lvw_put (v := .inr (.inl x0)) hvc hl2))
    · cases hs
  · cases hs

set_option maxHeartbeats 2000000 in
theorem sw_astore_n {i : Fin 4} (C : Cxw p s m args meth c F A0 mid R d) (hP : va_P F.1 vwCl (rzw F ad G M) H) (hD : va_D A0 (rzw F ad G M)) (hS : va_S A0 s.heap H locs) (hG : wfG G) (hL : wfL G ls) (hW : wfS G st) (hn : ls.length ≤ mlw mid) (hl : lv_has lr (mlw mid) (lvw F ad ls)) (hc : chkE mid (pc, (.astore_n i), len, ea, eb, ec) = true) (hs : stepw F.2.2.2.2.2 cl (alm mid) pc (.astore_n i) ea eb ec ls st G M = some (.inr (pc1, ls1, st1, G1, M1)))
    (K : Kow p l e R s m args below meth c Q F A0 mid ad G M G1 M1 pc1 ls1 st1 cells slots) : W p l e R s m args below meth c H locs cells slots Q (F0 m pc lr (st.map (rvw F ad))) := by
  obtain ⟨hx, hb, hml, hown, hts, hin, hK, hKP, hA, hfr, hlo, hvc⟩ := C
  simp only [chkE, Bool.and_eq_true, decide_eq_true_eq, beq_iff_eq] at hc
  obtain ⟨hd, rfl⟩ := hc
  simp only [stepw, sk, stA] at hs
  split at hs
  · rename_i x0 r0
    split at hs
    · rename_i hi
      cases hs
      exact lv_astore_n hx hb hd rfl hl (Nat.lt_of_lt_of_le hi hn) rfl (fun lr2 hl2 => K.same hP hD hS (lvw_put (v := .inr (.inl x0)) hvc hl2))
    · cases hs
  · cases hs

set_option maxHeartbeats 2000000 in
theorem sw_iinc {i : Nat} {n : Int} (C : Cxw p s m args meth c F A0 mid R d) (hP : va_P F.1 vwCl (rzw F ad G M) H) (hD : va_D A0 (rzw F ad G M)) (hS : va_S A0 s.heap H locs) (hG : wfG G) (hL : wfL G ls) (hW : wfS G st) (hn : ls.length ≤ mlw mid) (hl : lv_has lr (mlw mid) (lvw F ad ls)) (hc : chkE mid (pc, (.iinc i n), len, ea, eb, ec) = true) (hs : stepw F.2.2.2.2.2 cl (alm mid) pc (.iinc i n) ea eb ec ls st G M = some (.inr (pc1, ls1, st1, G1, M1)))
    (K : Kow p l e R s m args below meth c Q F A0 mid ad G M G1 M1 pc1 ls1 st1 cells slots) : W p l e R s m args below meth c H locs cells slots Q (F0 m pc lr (st.map (rvw F ad))) := by
  obtain ⟨hx, hb, hml, hown, hts, hin, hK, hKP, hA, hfr, hlo, hvc⟩ := C
  simp only [chkE, Bool.and_eq_true, decide_eq_true_eq, beq_iff_eq] at hc
  obtain ⟨hd, rfl⟩ := hc
  simp only [stepw, sk, ldI] at hs
  split at hs
  · rename_i x0 hv
    cases hs
    obtain ⟨k0, hk0⟩ := List.getElem?_of_mem (lvw_mem.mpr ⟨_, hv, rfl⟩ : (i, rvw F ad (.inl x0)) ∈ lvw F ad ls)
    exact lv_iinc (v := x0 + Int32.ofInt n) hx hb hd hl hk0 rfl (Nat.lt_of_lt_of_le (List.getElem?_eq_some_iff.mp hv).1 hn) rfl (fun lr2 hl2 => K.same hP hD hS (lvw_put (v := .inl (x0 + Int32.ofInt n)) hvc hl2))
  · cases hs

set_option maxHeartbeats 2000000 in
theorem sw_iconst {n : Int} (C : Cxw p s m args meth c F A0 mid R d) (hP : va_P F.1 vwCl (rzw F ad G M) H) (hD : va_D A0 (rzw F ad G M)) (hS : va_S A0 s.heap H locs) (hG : wfG G) (hL : wfL G ls) (hW : wfS G st) (hn : ls.length ≤ mlw mid) (hl : lv_has lr (mlw mid) (lvw F ad ls)) (hc : chkE mid (pc, (.iconst n), len, ea, eb, ec) = true) (hs : stepw F.2.2.2.2.2 cl (alm mid) pc (.iconst n) ea eb ec ls st G M = some (.inr (pc1, ls1, st1, G1, M1)))
    (K : Kow p l e R s m args below meth c Q F A0 mid ad G M G1 M1 pc1 ls1 st1 cells slots) : W p l e R s m args below meth c H locs cells slots Q (F0 m pc lr (st.map (rvw F ad))) := by
  obtain ⟨hx, hb, hml, hown, hts, hin, hK, hKP, hA, hfr, hlo, hvc⟩ := C
  simp only [chkE, Bool.and_eq_true, decide_eq_true_eq, beq_iff_eq] at hc
  obtain ⟨⟨hd, rfl⟩, hv⟩ := hc.imp_left (fun h => h) |> fun h => (⟨⟨h.1, h.2.1⟩, h.2.2⟩ : (_ ∧ _) ∧ _)
  cases hs
  exact lv_iconst hx hb hd hv (K.same hP hD hS hl)

set_option maxHeartbeats 2000000 in
theorem sw_bipush {n : Int} (C : Cxw p s m args meth c F A0 mid R d) (hP : va_P F.1 vwCl (rzw F ad G M) H) (hD : va_D A0 (rzw F ad G M)) (hS : va_S A0 s.heap H locs) (hG : wfG G) (hL : wfL G ls) (hW : wfS G st) (hn : ls.length ≤ mlw mid) (hl : lv_has lr (mlw mid) (lvw F ad ls)) (hc : chkE mid (pc, (.bipush n), len, ea, eb, ec) = true) (hs : stepw F.2.2.2.2.2 cl (alm mid) pc (.bipush n) ea eb ec ls st G M = some (.inr (pc1, ls1, st1, G1, M1)))
    (K : Kow p l e R s m args below meth c Q F A0 mid ad G M G1 M1 pc1 ls1 st1 cells slots) : W p l e R s m args below meth c H locs cells slots Q (F0 m pc lr (st.map (rvw F ad))) := by
  obtain ⟨hx, hb, hml, hown, hts, hin, hK, hKP, hA, hfr, hlo, hvc⟩ := C
  simp only [chkE, Bool.and_eq_true, decide_eq_true_eq, beq_iff_eq] at hc
  obtain ⟨⟨hd, rfl⟩, hv⟩ := hc.imp_left (fun h => h) |> fun h => (⟨⟨h.1, h.2.1⟩, h.2.2⟩ : (_ ∧ _) ∧ _)
  cases hs
  exact lv_bipush hx hb hd hv (K.same hP hD hS hl)

set_option maxHeartbeats 2000000 in
theorem sw_sipush {n : Int} (C : Cxw p s m args meth c F A0 mid R d) (hP : va_P F.1 vwCl (rzw F ad G M) H) (hD : va_D A0 (rzw F ad G M)) (hS : va_S A0 s.heap H locs) (hG : wfG G) (hL : wfL G ls) (hW : wfS G st) (hn : ls.length ≤ mlw mid) (hl : lv_has lr (mlw mid) (lvw F ad ls)) (hc : chkE mid (pc, (.sipush n), len, ea, eb, ec) = true) (hs : stepw F.2.2.2.2.2 cl (alm mid) pc (.sipush n) ea eb ec ls st G M = some (.inr (pc1, ls1, st1, G1, M1)))
    (K : Kow p l e R s m args below meth c Q F A0 mid ad G M G1 M1 pc1 ls1 st1 cells slots) : W p l e R s m args below meth c H locs cells slots Q (F0 m pc lr (st.map (rvw F ad))) := by
  obtain ⟨hx, hb, hml, hown, hts, hin, hK, hKP, hA, hfr, hlo, hvc⟩ := C
  simp only [chkE, Bool.and_eq_true, decide_eq_true_eq, beq_iff_eq] at hc
  obtain ⟨⟨hd, rfl⟩, hv⟩ := hc.imp_left (fun h => h) |> fun h => (⟨⟨h.1, h.2.1⟩, h.2.2⟩ : (_ ∧ _) ∧ _)
  cases hs
  exact lv_sipush hx hb hd hv (K.same hP hD hS hl)

set_option maxHeartbeats 2000000 in
theorem sw_ldc_w {i : Nat} (C : Cxw p s m args meth c F A0 mid R d) (hP : va_P F.1 vwCl (rzw F ad G M) H) (hD : va_D A0 (rzw F ad G M)) (hS : va_S A0 s.heap H locs) (hG : wfG G) (hL : wfL G ls) (hW : wfS G st) (hn : ls.length ≤ mlw mid) (hl : lv_has lr (mlw mid) (lvw F ad ls)) (hc : chkE mid (pc, (.ldc_w i), len, ea, eb, ec) = true) (hs : stepw F.2.2.2.2.2 cl (alm mid) pc (.ldc_w i) ea eb ec ls st G M = some (.inr (pc1, ls1, st1, G1, M1)))
    (K : Kow p l e R s m args below meth c Q F A0 mid ad G M G1 M1 pc1 ls1 st1 cells slots) : W p l e R s m args below meth c H locs cells slots Q (F0 m pc lr (st.map (rvw F ad))) := by
  obtain ⟨hx, hb, hml, hown, hts, hin, hK, hKP, hA, hfr, hlo, hvc⟩ := C
  simp only [chkE, Bool.and_eq_true, decide_eq_true_eq, beq_iff_eq] at hc
  obtain ⟨hd, rfl, hv⟩ := hc
  cases hs
  exact lv_ldcw hx hb hown (hts _ (gw_mem (lnkw_mem hv) rfl)) hd (K.same hP hD hS hl)

set_option maxHeartbeats 2000000 in
theorem sw_ldc {i : Nat} (C : Cxw p s m args meth c F A0 mid R d) (hP : va_P F.1 vwCl (rzw F ad G M) H) (hD : va_D A0 (rzw F ad G M)) (hS : va_S A0 s.heap H locs) (hG : wfG G) (hL : wfL G ls) (hW : wfS G st) (hn : ls.length ≤ mlw mid) (hl : lv_has lr (mlw mid) (lvw F ad ls)) (hc : chkE mid (pc, (.ldc i), len, ea, eb, ec) = true) (hs : stepw F.2.2.2.2.2 cl (alm mid) pc (.ldc i) ea eb ec ls st G M = some (.inr (pc1, ls1, st1, G1, M1)))
    (K : Kow p l e R s m args below meth c Q F A0 mid ad G M G1 M1 pc1 ls1 st1 cells slots) : W p l e R s m args below meth c H locs cells slots Q (F0 m pc lr (st.map (rvw F ad))) := by
  obtain ⟨hx, hb, hml, hown, hts, hin, hK, hKP, hA, hfr, hlo, hvc⟩ := C
  simp only [chkE, Bool.and_eq_true, decide_eq_true_eq, beq_iff_eq] at hc
  obtain ⟨hd, rfl, hv⟩ := hc
  simp only [stepw, sk] at hs
  cases hs
  split at hv
  · rename_i h0
    have h1 := K.same hP hD hS hl
    rw [if_pos h0] at h1
    rw [decide_eq_true_eq] at hv
    exact lv_ldc hx hb hown (hts _ (gw_mem (lnkw_mem hv) rfl)) hd h1
  · rename_i h0
    have h1 := K.same hP hD hS hl
    rw [if_neg h0] at h1
    rw [Bool.and_eq_true, decide_eq_true_eq, decide_eq_true_eq] at hv
    refine va_ldcS (q := F.2.2.1.1 ea) hx hb hown (hKP.2.2.1 _ _ _ hv.1 (lnkw_mem hv.2)) hd ?_
    rwa [List.map_cons, show rvw F ad (.inr (.inr ea)) = .ref (F.2.2.1.1 ea) from if_pos hv.1] at h1

set_option maxHeartbeats 2000000 in
theorem sw_iadd  (C : Cxw p s m args meth c F A0 mid R d) (hP : va_P F.1 vwCl (rzw F ad G M) H) (hD : va_D A0 (rzw F ad G M)) (hS : va_S A0 s.heap H locs) (hG : wfG G) (hL : wfL G ls) (hW : wfS G st) (hn : ls.length ≤ mlw mid) (hl : lv_has lr (mlw mid) (lvw F ad ls)) (hc : chkE mid (pc, .iadd, len, ea, eb, ec) = true) (hs : stepw F.2.2.2.2.2 cl (alm mid) pc .iadd ea eb ec ls st G M = some (.inr (pc1, ls1, st1, G1, M1)))
    (K : Kow p l e R s m args below meth c Q F A0 mid ad G M G1 M1 pc1 ls1 st1 cells slots) : W p l e R s m args below meth c H locs cells slots Q (F0 m pc lr (st.map (rvw F ad))) := by
  obtain ⟨hx, hb, hml, hown, hts, hin, hK, hKP, hA, hfr, hlo, hvc⟩ := C
  simp only [chkE, Bool.and_eq_true, decide_eq_true_eq, beq_iff_eq] at hc
  obtain ⟨hd, rfl⟩ := hc
  simp only [stepw, sk, bin] at hs
  split at hs
  · cases hs
    exact lv_iadd hx hb hd (K.same hP hD hS hl)
  · cases hs

set_option maxHeartbeats 2000000 in
theorem sw_isub  (C : Cxw p s m args meth c F A0 mid R d) (hP : va_P F.1 vwCl (rzw F ad G M) H) (hD : va_D A0 (rzw F ad G M)) (hS : va_S A0 s.heap H locs) (hG : wfG G) (hL : wfL G ls) (hW : wfS G st) (hn : ls.length ≤ mlw mid) (hl : lv_has lr (mlw mid) (lvw F ad ls)) (hc : chkE mid (pc, .isub, len, ea, eb, ec) = true) (hs : stepw F.2.2.2.2.2 cl (alm mid) pc .isub ea eb ec ls st G M = some (.inr (pc1, ls1, st1, G1, M1)))
    (K : Kow p l e R s m args below meth c Q F A0 mid ad G M G1 M1 pc1 ls1 st1 cells slots) : W p l e R s m args below meth c H locs cells slots Q (F0 m pc lr (st.map (rvw F ad))) := by
  obtain ⟨hx, hb, hml, hown, hts, hin, hK, hKP, hA, hfr, hlo, hvc⟩ := C
  simp only [chkE, Bool.and_eq_true, decide_eq_true_eq, beq_iff_eq] at hc
  obtain ⟨hd, rfl⟩ := hc
  simp only [stepw, sk, bin] at hs
  split at hs
  · cases hs
    exact lv_isub hx hb hd (K.same hP hD hS hl)
  · cases hs

set_option maxHeartbeats 2000000 in
theorem sw_imul  (C : Cxw p s m args meth c F A0 mid R d) (hP : va_P F.1 vwCl (rzw F ad G M) H) (hD : va_D A0 (rzw F ad G M)) (hS : va_S A0 s.heap H locs) (hG : wfG G) (hL : wfL G ls) (hW : wfS G st) (hn : ls.length ≤ mlw mid) (hl : lv_has lr (mlw mid) (lvw F ad ls)) (hc : chkE mid (pc, .imul, len, ea, eb, ec) = true) (hs : stepw F.2.2.2.2.2 cl (alm mid) pc .imul ea eb ec ls st G M = some (.inr (pc1, ls1, st1, G1, M1)))
    (K : Kow p l e R s m args below meth c Q F A0 mid ad G M G1 M1 pc1 ls1 st1 cells slots) : W p l e R s m args below meth c H locs cells slots Q (F0 m pc lr (st.map (rvw F ad))) := by
  obtain ⟨hx, hb, hml, hown, hts, hin, hK, hKP, hA, hfr, hlo, hvc⟩ := C
  simp only [chkE, Bool.and_eq_true, decide_eq_true_eq, beq_iff_eq] at hc
  obtain ⟨hd, rfl⟩ := hc
  simp only [stepw, sk, bin] at hs
  split at hs
  · cases hs
    exact lv_imul hx hb hd (K.same hP hD hS hl)
  · cases hs

set_option maxHeartbeats 2000000 in
theorem sw_iand  (C : Cxw p s m args meth c F A0 mid R d) (hP : va_P F.1 vwCl (rzw F ad G M) H) (hD : va_D A0 (rzw F ad G M)) (hS : va_S A0 s.heap H locs) (hG : wfG G) (hL : wfL G ls) (hW : wfS G st) (hn : ls.length ≤ mlw mid) (hl : lv_has lr (mlw mid) (lvw F ad ls)) (hc : chkE mid (pc, .iand, len, ea, eb, ec) = true) (hs : stepw F.2.2.2.2.2 cl (alm mid) pc .iand ea eb ec ls st G M = some (.inr (pc1, ls1, st1, G1, M1)))
    (K : Kow p l e R s m args below meth c Q F A0 mid ad G M G1 M1 pc1 ls1 st1 cells slots) : W p l e R s m args below meth c H locs cells slots Q (F0 m pc lr (st.map (rvw F ad))) := by
  obtain ⟨hx, hb, hml, hown, hts, hin, hK, hKP, hA, hfr, hlo, hvc⟩ := C
  simp only [chkE, Bool.and_eq_true, decide_eq_true_eq, beq_iff_eq] at hc
  obtain ⟨hd, rfl⟩ := hc
  simp only [stepw, sk, bin] at hs
  split at hs
  · cases hs
    exact lv_iand hx hb hd (K.same hP hD hS hl)
  · cases hs

set_option maxHeartbeats 2000000 in
theorem sw_ior  (C : Cxw p s m args meth c F A0 mid R d) (hP : va_P F.1 vwCl (rzw F ad G M) H) (hD : va_D A0 (rzw F ad G M)) (hS : va_S A0 s.heap H locs) (hG : wfG G) (hL : wfL G ls) (hW : wfS G st) (hn : ls.length ≤ mlw mid) (hl : lv_has lr (mlw mid) (lvw F ad ls)) (hc : chkE mid (pc, .ior, len, ea, eb, ec) = true) (hs : stepw F.2.2.2.2.2 cl (alm mid) pc .ior ea eb ec ls st G M = some (.inr (pc1, ls1, st1, G1, M1)))
    (K : Kow p l e R s m args below meth c Q F A0 mid ad G M G1 M1 pc1 ls1 st1 cells slots) : W p l e R s m args below meth c H locs cells slots Q (F0 m pc lr (st.map (rvw F ad))) := by
  obtain ⟨hx, hb, hml, hown, hts, hin, hK, hKP, hA, hfr, hlo, hvc⟩ := C
  simp only [chkE, Bool.and_eq_true, decide_eq_true_eq, beq_iff_eq] at hc
  obtain ⟨hd, rfl⟩ := hc
  simp only [stepw, sk, bin] at hs
  split at hs
  · cases hs
    exact lv_ior hx hb hd (K.same hP hD hS hl)
  · cases hs

set_option maxHeartbeats 2000000 in
theorem sw_ixor  (C : Cxw p s m args meth c F A0 mid R d) (hP : va_P F.1 vwCl (rzw F ad G M) H) (hD : va_D A0 (rzw F ad G M)) (hS : va_S A0 s.heap H locs) (hG : wfG G) (hL : wfL G ls) (hW : wfS G st) (hn : ls.length ≤ mlw mid) (hl : lv_has lr (mlw mid) (lvw F ad ls)) (hc : chkE mid (pc, .ixor, len, ea, eb, ec) = true) (hs : stepw F.2.2.2.2.2 cl (alm mid) pc .ixor ea eb ec ls st G M = some (.inr (pc1, ls1, st1, G1, M1)))
    (K : Kow p l e R s m args below meth c Q F A0 mid ad G M G1 M1 pc1 ls1 st1 cells slots) : W p l e R s m args below meth c H locs cells slots Q (F0 m pc lr (st.map (rvw F ad))) := by
  obtain ⟨hx, hb, hml, hown, hts, hin, hK, hKP, hA, hfr, hlo, hvc⟩ := C
  simp only [chkE, Bool.and_eq_true, decide_eq_true_eq, beq_iff_eq] at hc
  obtain ⟨hd, rfl⟩ := hc
  simp only [stepw, sk, bin] at hs
  split at hs
  · cases hs
    exact lv_ixor hx hb hd (K.same hP hD hS hl)
  · cases hs

set_option maxHeartbeats 2000000 in
theorem sw_ishl  (C : Cxw p s m args meth c F A0 mid R d) (hP : va_P F.1 vwCl (rzw F ad G M) H) (hD : va_D A0 (rzw F ad G M)) (hS : va_S A0 s.heap H locs) (hG : wfG G) (hL : wfL G ls) (hW : wfS G st) (hn : ls.length ≤ mlw mid) (hl : lv_has lr (mlw mid) (lvw F ad ls)) (hc : chkE mid (pc, .ishl, len, ea, eb, ec) = true) (hs : stepw F.2.2.2.2.2 cl (alm mid) pc .ishl ea eb ec ls st G M = some (.inr (pc1, ls1, st1, G1, M1)))
    (K : Kow p l e R s m args below meth c Q F A0 mid ad G M G1 M1 pc1 ls1 st1 cells slots) : W p l e R s m args below meth c H locs cells slots Q (F0 m pc lr (st.map (rvw F ad))) := by
  obtain ⟨hx, hb, hml, hown, hts, hin, hK, hKP, hA, hfr, hlo, hvc⟩ := C
  simp only [chkE, Bool.and_eq_true, decide_eq_true_eq, beq_iff_eq] at hc
  obtain ⟨hd, rfl⟩ := hc
  simp only [stepw, sk, bin] at hs
  split at hs
  · cases hs
    exact lv_ishl hx hb hd (K.same hP hD hS hl)
  · cases hs

set_option maxHeartbeats 2000000 in
theorem sw_ishr  (C : Cxw p s m args meth c F A0 mid R d) (hP : va_P F.1 vwCl (rzw F ad G M) H) (hD : va_D A0 (rzw F ad G M)) (hS : va_S A0 s.heap H locs) (hG : wfG G) (hL : wfL G ls) (hW : wfS G st) (hn : ls.length ≤ mlw mid) (hl : lv_has lr (mlw mid) (lvw F ad ls)) (hc : chkE mid (pc, .ishr, len, ea, eb, ec) = true) (hs : stepw F.2.2.2.2.2 cl (alm mid) pc .ishr ea eb ec ls st G M = some (.inr (pc1, ls1, st1, G1, M1)))
    (K : Kow p l e R s m args below meth c Q F A0 mid ad G M G1 M1 pc1 ls1 st1 cells slots) : W p l e R s m args below meth c H locs cells slots Q (F0 m pc lr (st.map (rvw F ad))) := by
  obtain ⟨hx, hb, hml, hown, hts, hin, hK, hKP, hA, hfr, hlo, hvc⟩ := C
  simp only [chkE, Bool.and_eq_true, decide_eq_true_eq, beq_iff_eq] at hc
  obtain ⟨hd, rfl⟩ := hc
  simp only [stepw, sk, bin] at hs
  split at hs
  · cases hs
    exact lv_ishr hx hb hd (K.same hP hD hS hl)
  · cases hs

set_option maxHeartbeats 2000000 in
theorem sw_iushr  (C : Cxw p s m args meth c F A0 mid R d) (hP : va_P F.1 vwCl (rzw F ad G M) H) (hD : va_D A0 (rzw F ad G M)) (hS : va_S A0 s.heap H locs) (hG : wfG G) (hL : wfL G ls) (hW : wfS G st) (hn : ls.length ≤ mlw mid) (hl : lv_has lr (mlw mid) (lvw F ad ls)) (hc : chkE mid (pc, .iushr, len, ea, eb, ec) = true) (hs : stepw F.2.2.2.2.2 cl (alm mid) pc .iushr ea eb ec ls st G M = some (.inr (pc1, ls1, st1, G1, M1)))
    (K : Kow p l e R s m args below meth c Q F A0 mid ad G M G1 M1 pc1 ls1 st1 cells slots) : W p l e R s m args below meth c H locs cells slots Q (F0 m pc lr (st.map (rvw F ad))) := by
  obtain ⟨hx, hb, hml, hown, hts, hin, hK, hKP, hA, hfr, hlo, hvc⟩ := C
  simp only [chkE, Bool.and_eq_true, decide_eq_true_eq, beq_iff_eq] at hc
  obtain ⟨hd, rfl⟩ := hc
  simp only [stepw, sk, bin] at hs
  split at hs
  · cases hs
    exact lv_iushr hx hb hd rfl (K.same hP hD hS hl)
  · cases hs

set_option maxHeartbeats 2000000 in
theorem sw_idiv  (C : Cxw p s m args meth c F A0 mid R d) (hP : va_P F.1 vwCl (rzw F ad G M) H) (hD : va_D A0 (rzw F ad G M)) (hS : va_S A0 s.heap H locs) (hG : wfG G) (hL : wfL G ls) (hW : wfS G st) (hn : ls.length ≤ mlw mid) (hl : lv_has lr (mlw mid) (lvw F ad ls)) (hc : chkE mid (pc, .idiv, len, ea, eb, ec) = true) (hs : stepw F.2.2.2.2.2 cl (alm mid) pc .idiv ea eb ec ls st G M = some (.inr (pc1, ls1, st1, G1, M1)))
    (K : Kow p l e R s m args below meth c Q F A0 mid ad G M G1 M1 pc1 ls1 st1 cells slots) : W p l e R s m args below meth c H locs cells slots Q (F0 m pc lr (st.map (rvw F ad))) := by
  obtain ⟨hx, hb, hml, hown, hts, hin, hK, hKP, hA, hfr, hlo, hvc⟩ := C
  simp only [chkE, Bool.and_eq_true, decide_eq_true_eq, beq_iff_eq] at hc
  obtain ⟨hd, rfl⟩ := hc
  simp only [stepw, sk] at hs
  split at hs
  · split at hs
    · cases hs
    · rename_i hz
      cases hs
      exact lv_idiv hx hb hd hz (K.same hP hD hS hl)
  · cases hs

set_option maxHeartbeats 2000000 in
theorem sw_irem  (C : Cxw p s m args meth c F A0 mid R d) (hP : va_P F.1 vwCl (rzw F ad G M) H) (hD : va_D A0 (rzw F ad G M)) (hS : va_S A0 s.heap H locs) (hG : wfG G) (hL : wfL G ls) (hW : wfS G st) (hn : ls.length ≤ mlw mid) (hl : lv_has lr (mlw mid) (lvw F ad ls)) (hc : chkE mid (pc, .irem, len, ea, eb, ec) = true) (hs : stepw F.2.2.2.2.2 cl (alm mid) pc .irem ea eb ec ls st G M = some (.inr (pc1, ls1, st1, G1, M1)))
    (K : Kow p l e R s m args below meth c Q F A0 mid ad G M G1 M1 pc1 ls1 st1 cells slots) : W p l e R s m args below meth c H locs cells slots Q (F0 m pc lr (st.map (rvw F ad))) := by
  obtain ⟨hx, hb, hml, hown, hts, hin, hK, hKP, hA, hfr, hlo, hvc⟩ := C
  simp only [chkE, Bool.and_eq_true, decide_eq_true_eq, beq_iff_eq] at hc
  obtain ⟨hd, rfl⟩ := hc
  simp only [stepw, sk] at hs
  split at hs
  · split at hs
    · cases hs
    · rename_i hz
      cases hs
      exact lv_irem hx hb hd hz (K.same hP hD hS hl)
  · cases hs

set_option maxHeartbeats 2000000 in
theorem sw_ineg  (C : Cxw p s m args meth c F A0 mid R d) (hP : va_P F.1 vwCl (rzw F ad G M) H) (hD : va_D A0 (rzw F ad G M)) (hS : va_S A0 s.heap H locs) (hG : wfG G) (hL : wfL G ls) (hW : wfS G st) (hn : ls.length ≤ mlw mid) (hl : lv_has lr (mlw mid) (lvw F ad ls)) (hc : chkE mid (pc, .ineg, len, ea, eb, ec) = true) (hs : stepw F.2.2.2.2.2 cl (alm mid) pc .ineg ea eb ec ls st G M = some (.inr (pc1, ls1, st1, G1, M1)))
    (K : Kow p l e R s m args below meth c Q F A0 mid ad G M G1 M1 pc1 ls1 st1 cells slots) : W p l e R s m args below meth c H locs cells slots Q (F0 m pc lr (st.map (rvw F ad))) := by
  obtain ⟨hx, hb, hml, hown, hts, hin, hK, hKP, hA, hfr, hlo, hvc⟩ := C
  simp only [chkE, Bool.and_eq_true, decide_eq_true_eq, beq_iff_eq] at hc
  obtain ⟨hd, rfl⟩ := hc
  simp only [stepw, sk] at hs
  split at hs
  · cases hs
    exact lv_ineg hx hb hd (K.same hP hD hS hl)
  · cases hs

set_option maxHeartbeats 2000000 in
theorem sw_i2c  (C : Cxw p s m args meth c F A0 mid R d) (hP : va_P F.1 vwCl (rzw F ad G M) H) (hD : va_D A0 (rzw F ad G M)) (hS : va_S A0 s.heap H locs) (hG : wfG G) (hL : wfL G ls) (hW : wfS G st) (hn : ls.length ≤ mlw mid) (hl : lv_has lr (mlw mid) (lvw F ad ls)) (hc : chkE mid (pc, .i2c, len, ea, eb, ec) = true) (hs : stepw F.2.2.2.2.2 cl (alm mid) pc .i2c ea eb ec ls st G M = some (.inr (pc1, ls1, st1, G1, M1)))
    (K : Kow p l e R s m args below meth c Q F A0 mid ad G M G1 M1 pc1 ls1 st1 cells slots) : W p l e R s m args below meth c H locs cells slots Q (F0 m pc lr (st.map (rvw F ad))) := by
  obtain ⟨hx, hb, hml, hown, hts, hin, hK, hKP, hA, hfr, hlo, hvc⟩ := C
  simp only [chkE, Bool.and_eq_true, decide_eq_true_eq, beq_iff_eq] at hc
  obtain ⟨hd, rfl⟩ := hc
  simp only [stepw, sk] at hs
  split at hs
  · cases hs
    exact lv_i2c hx hb hd rfl (K.same hP hD hS hl)
  · cases hs

set_option maxHeartbeats 2000000 in
theorem sw_i2b  (C : Cxw p s m args meth c F A0 mid R d) (hP : va_P F.1 vwCl (rzw F ad G M) H) (hD : va_D A0 (rzw F ad G M)) (hS : va_S A0 s.heap H locs) (hG : wfG G) (hL : wfL G ls) (hW : wfS G st) (hn : ls.length ≤ mlw mid) (hl : lv_has lr (mlw mid) (lvw F ad ls)) (hc : chkE mid (pc, .i2b, len, ea, eb, ec) = true) (hs : stepw F.2.2.2.2.2 cl (alm mid) pc .i2b ea eb ec ls st G M = some (.inr (pc1, ls1, st1, G1, M1)))
    (K : Kow p l e R s m args below meth c Q F A0 mid ad G M G1 M1 pc1 ls1 st1 cells slots) : W p l e R s m args below meth c H locs cells slots Q (F0 m pc lr (st.map (rvw F ad))) := by
  obtain ⟨hx, hb, hml, hown, hts, hin, hK, hKP, hA, hfr, hlo, hvc⟩ := C
  simp only [chkE, Bool.and_eq_true, decide_eq_true_eq, beq_iff_eq] at hc
  obtain ⟨hd, rfl⟩ := hc
  simp only [stepw, sk] at hs
  split at hs
  · cases hs
    exact lv_i2b hx hb hd rfl (K.same hP hD hS hl)
  · cases hs

set_option maxHeartbeats 2000000 in
theorem sw_dup  (C : Cxw p s m args meth c F A0 mid R d) (hP : va_P F.1 vwCl (rzw F ad G M) H) (hD : va_D A0 (rzw F ad G M)) (hS : va_S A0 s.heap H locs) (hG : wfG G) (hL : wfL G ls) (hW : wfS G st) (hn : ls.length ≤ mlw mid) (hl : lv_has lr (mlw mid) (lvw F ad ls)) (hc : chkE mid (pc, .dup, len, ea, eb, ec) = true) (hs : stepw F.2.2.2.2.2 cl (alm mid) pc .dup ea eb ec ls st G M = some (.inr (pc1, ls1, st1, G1, M1)))
    (K : Kow p l e R s m args below meth c Q F A0 mid ad G M G1 M1 pc1 ls1 st1 cells slots) : W p l e R s m args below meth c H locs cells slots Q (F0 m pc lr (st.map (rvw F ad))) := by
  obtain ⟨hx, hb, hml, hown, hts, hin, hK, hKP, hA, hfr, hlo, hvc⟩ := C
  simp only [chkE, Bool.and_eq_true, decide_eq_true_eq, beq_iff_eq] at hc
  obtain ⟨hd, rfl⟩ := hc
  simp only [stepw, sk] at hs
  split at hs
  · cases hs
    exact lv_dup hx hb hd (rvw_cat hvc _) (K.same hP hD hS hl)
  · cases hs

set_option maxHeartbeats 2000000 in
theorem sw_dup2  (C : Cxw p s m args meth c F A0 mid R d) (hP : va_P F.1 vwCl (rzw F ad G M) H) (hD : va_D A0 (rzw F ad G M)) (hS : va_S A0 s.heap H locs) (hG : wfG G) (hL : wfL G ls) (hW : wfS G st) (hn : ls.length ≤ mlw mid) (hl : lv_has lr (mlw mid) (lvw F ad ls)) (hc : chkE mid (pc, .dup2, len, ea, eb, ec) = true) (hs : stepw F.2.2.2.2.2 cl (alm mid) pc .dup2 ea eb ec ls st G M = some (.inr (pc1, ls1, st1, G1, M1)))
    (K : Kow p l e R s m args below meth c Q F A0 mid ad G M G1 M1 pc1 ls1 st1 cells slots) : W p l e R s m args below meth c H locs cells slots Q (F0 m pc lr (st.map (rvw F ad))) := by
  obtain ⟨hx, hb, hml, hown, hts, hin, hK, hKP, hA, hfr, hlo, hvc⟩ := C
  simp only [chkE, Bool.and_eq_true, decide_eq_true_eq, beq_iff_eq] at hc
  obtain ⟨hd, rfl⟩ := hc
  simp only [stepw, sk] at hs
  split at hs
  · cases hs
    exact lv_dup2_11 hx hb hd (rvw_cat hvc _) (rvw_cat hvc _) (K.same hP hD hS hl)
  · cases hs

set_option maxHeartbeats 2000000 in
theorem sw_pop  (C : Cxw p s m args meth c F A0 mid R d) (hP : va_P F.1 vwCl (rzw F ad G M) H) (hD : va_D A0 (rzw F ad G M)) (hS : va_S A0 s.heap H locs) (hG : wfG G) (hL : wfL G ls) (hW : wfS G st) (hn : ls.length ≤ mlw mid) (hl : lv_has lr (mlw mid) (lvw F ad ls)) (hc : chkE mid (pc, .pop, len, ea, eb, ec) = true) (hs : stepw F.2.2.2.2.2 cl (alm mid) pc .pop ea eb ec ls st G M = some (.inr (pc1, ls1, st1, G1, M1)))
    (K : Kow p l e R s m args below meth c Q F A0 mid ad G M G1 M1 pc1 ls1 st1 cells slots) : W p l e R s m args below meth c H locs cells slots Q (F0 m pc lr (st.map (rvw F ad))) := by
  obtain ⟨hx, hb, hml, hown, hts, hin, hK, hKP, hA, hfr, hlo, hvc⟩ := C
  simp only [chkE, Bool.and_eq_true, decide_eq_true_eq, beq_iff_eq] at hc
  obtain ⟨hd, rfl⟩ := hc
  simp only [stepw, sk] at hs
  split at hs
  · cases hs
    exact lv_pop hx hb hd (rvw_cat hvc _) (K.same hP hD hS hl)
  · cases hs

set_option maxHeartbeats 2000000 in
theorem sw_goto {o : Int} (C : Cxw p s m args meth c F A0 mid R d) (hP : va_P F.1 vwCl (rzw F ad G M) H) (hD : va_D A0 (rzw F ad G M)) (hS : va_S A0 s.heap H locs) (hG : wfG G) (hL : wfL G ls) (hW : wfS G st) (hn : ls.length ≤ mlw mid) (hl : lv_has lr (mlw mid) (lvw F ad ls)) (hc : chkE mid (pc, (.goto o), len, ea, eb, ec) = true) (hs : stepw F.2.2.2.2.2 cl (alm mid) pc (.goto o) ea eb ec ls st G M = some (.inr (pc1, ls1, st1, G1, M1)))
    (K : Kow p l e R s m args below meth c Q F A0 mid ad G M G1 M1 pc1 ls1 st1 cells slots) : W p l e R s m args below meth c H locs cells slots Q (F0 m pc lr (st.map (rvw F ad))) := by
  obtain ⟨hx, hb, hml, hown, hts, hin, hK, hKP, hA, hfr, hlo, hvc⟩ := C
  simp only [chkE, Bool.and_eq_true, decide_eq_true_eq, beq_iff_eq] at hc
  obtain ⟨hd, rfl, ht⟩ := hc
  cases hs
  exact lv_goto hx hb hd ht (K.same hP hD hS hl)

set_option maxHeartbeats 2000000 in
theorem sw_ifCond {cd : Jvm.ClassFile.Cond} {o : Int} (C : Cxw p s m args meth c F A0 mid R d) (hP : va_P F.1 vwCl (rzw F ad G M) H) (hD : va_D A0 (rzw F ad G M)) (hS : va_S A0 s.heap H locs) (hG : wfG G) (hL : wfL G ls) (hW : wfS G st) (hn : ls.length ≤ mlw mid) (hl : lv_has lr (mlw mid) (lvw F ad ls)) (hc : chkE mid (pc, (.ifCond cd o), len, ea, eb, ec) = true) (hs : stepw F.2.2.2.2.2 cl (alm mid) pc (.ifCond cd o) ea eb ec ls st G M = some (.inr (pc1, ls1, st1, G1, M1)))
    (K : Kow p l e R s m args below meth c Q F A0 mid ad G M G1 M1 pc1 ls1 st1 cells slots) : W p l e R s m args below meth c H locs cells slots Q (F0 m pc lr (st.map (rvw F ad))) := by
  obtain ⟨hx, hb, hml, hown, hts, hin, hK, hKP, hA, hfr, hlo, hvc⟩ := C
  simp only [chkE, Bool.and_eq_true, decide_eq_true_eq, beq_iff_eq] at hc
  obtain ⟨hd, rfl, ht⟩ := hc
  simp only [stepw, sk] at hs
  split at hs
  · cases cd
    case eq =>
      simp only [br0] at hs
      split at hs
      · rename_i hq
        cases hs
        exact lv_if_eq hx hb hd ht (fun _ => K.same hP hD hS hl) (fun hz => by exfalso; exact hz hq)
      · rename_i hq
        cases hs
        exact lv_if_eq hx hb hd ht (fun hz => by exfalso; exact hq hz) (fun _ => K.same hP hD hS hl)
    case ne =>
      simp only [br0] at hs
      split at hs
      · rename_i hq
        cases hs
        exact lv_if_ne hx hb hd ht (fun hz => by exfalso; exact hz hq) (fun _ => K.same hP hD hS hl)
      · rename_i hq
        cases hs
        exact lv_if_ne hx hb hd ht (fun _ => K.same hP hD hS hl) (fun hz => by exfalso; exact hq hz)
    case lt =>
      simp only [br0] at hs
      split at hs
      · rename_i hq
        cases hs
        exact lv_if_lt hx hb hd ht (fun _ => K.same hP hD hS hl) (fun hz => by exfalso; exact hz hq)
      · rename_i hq
        cases hs
        exact lv_if_lt hx hb hd ht (fun hz => by exfalso; exact hq hz) (fun _ => K.same hP hD hS hl)
    case ge =>
      simp only [br0] at hs
      split at hs
      · rename_i hq
        cases hs
        exact lv_if_ge hx hb hd ht (fun hz => by exfalso; exact Int32.not_lt.mpr hz hq) (fun _ => K.same hP hD hS hl)
      · rename_i hq
        cases hs
        exact lv_if_ge hx hb hd ht (fun _ => K.same hP hD hS hl) (fun hz => by exfalso; exact hz (Int32.not_lt.mp hq))
    case gt =>
      simp only [br0] at hs
      split at hs
      · rename_i hq
        cases hs
        exact lv_if_gt hx hb hd ht (fun _ => K.same hP hD hS hl) (fun hz => by exfalso; exact hz hq)
      · rename_i hq
        cases hs
        exact lv_if_gt hx hb hd ht (fun hz => by exfalso; exact hq hz) (fun _ => K.same hP hD hS hl)
    case le =>
      simp only [br0] at hs
      split at hs
      · rename_i hq
        cases hs
        exact lv_if_le hx hb hd ht (fun hz => by exfalso; exact Int32.not_lt.mpr hz hq) (fun _ => K.same hP hD hS hl)
      · rename_i hq
        cases hs
        exact lv_if_le hx hb hd ht (fun _ => K.same hP hD hS hl) (fun hz => by exfalso; exact hz (Int32.not_lt.mp hq))
  · cases hs

set_option maxHeartbeats 2000000 in
theorem sw_if_icmp {cd : Jvm.ClassFile.Cond} {o : Int} (C : Cxw p s m args meth c F A0 mid R d) (hP : va_P F.1 vwCl (rzw F ad G M) H) (hD : va_D A0 (rzw F ad G M)) (hS : va_S A0 s.heap H locs) (hG : wfG G) (hL : wfL G ls) (hW : wfS G st) (hn : ls.length ≤ mlw mid) (hl : lv_has lr (mlw mid) (lvw F ad ls)) (hc : chkE mid (pc, (.if_icmp cd o), len, ea, eb, ec) = true) (hs : stepw F.2.2.2.2.2 cl (alm mid) pc (.if_icmp cd o) ea eb ec ls st G M = some (.inr (pc1, ls1, st1, G1, M1)))
    (K : Kow p l e R s m args below meth c Q F A0 mid ad G M G1 M1 pc1 ls1 st1 cells slots) : W p l e R s m args below meth c H locs cells slots Q (F0 m pc lr (st.map (rvw F ad))) := by
  obtain ⟨hx, hb, hml, hown, hts, hin, hK, hKP, hA, hfr, hlo, hvc⟩ := C
  simp only [chkE, Bool.and_eq_true, decide_eq_true_eq, beq_iff_eq] at hc
  obtain ⟨hd, rfl, ht⟩ := hc
  simp only [stepw, sk] at hs
  split at hs
  · cases cd
    case eq =>
      simp only [br2] at hs
      split at hs
      · rename_i hq
        cases hs
        exact lv_icmp_eq hx hb hd ht (fun _ => K.same hP hD hS hl) (fun hz => by exfalso; exact hz hq)
      · rename_i hq
        cases hs
        exact lv_icmp_eq hx hb hd ht (fun hz => by exfalso; exact hq hz) (fun _ => K.same hP hD hS hl)
    case ne =>
      simp only [br2] at hs
      split at hs
      · rename_i hq
        cases hs
        exact lv_icmp_ne hx hb hd ht (fun hz => by exfalso; exact hz hq) (fun _ => K.same hP hD hS hl)
      · rename_i hq
        cases hs
        exact lv_icmp_ne hx hb hd ht (fun _ => K.same hP hD hS hl) (fun hz => by exfalso; exact hq hz)
    case lt =>
      simp only [br2] at hs
      split at hs
      · rename_i hq
        cases hs
        exact lv_icmp_lt hx hb hd ht (fun _ => K.same hP hD hS hl) (fun hz => by exfalso; exact hz hq)
      · rename_i hq
        cases hs
        exact lv_icmp_lt hx hb hd ht (fun hz => by exfalso; exact hq hz) (fun _ => K.same hP hD hS hl)
    case ge =>
      simp only [br2] at hs
      split at hs
      · rename_i hq
        cases hs
        exact lv_icmp_ge hx hb hd ht (fun hz => by exfalso; exact Int32.not_lt.mpr hz hq) (fun _ => K.same hP hD hS hl)
      · rename_i hq
        cases hs
        exact lv_icmp_ge hx hb hd ht (fun _ => K.same hP hD hS hl) (fun hz => by exfalso; exact hz (Int32.not_lt.mp hq))
    case gt =>
      simp only [br2] at hs
      split at hs
      · rename_i hq
        cases hs
        exact lv_icmp_gt hx hb hd ht (fun _ => K.same hP hD hS hl) (fun hz => by exfalso; exact hz hq)
      · rename_i hq
        cases hs
        exact lv_icmp_gt hx hb hd ht (fun hz => by exfalso; exact hq hz) (fun _ => K.same hP hD hS hl)
    case le =>
      simp only [br2] at hs
      split at hs
      · rename_i hq
        cases hs
        exact lv_icmp_le hx hb hd ht (fun hz => by exfalso; exact Int32.not_lt.mpr hz hq) (fun _ => K.same hP hD hS hl)
      · rename_i hq
        cases hs
        exact lv_icmp_le hx hb hd ht (fun _ => K.same hP hD hS hl) (fun hz => by exfalso; exact hz (Int32.not_lt.mp hq))
  · cases hs

set_option maxHeartbeats 2000000 in
theorem sw_tableswitch {dd lo hi : Int} {os : Array Int} (C : Cxw p s m args meth c F A0 mid R d) (hP : va_P F.1 vwCl (rzw F ad G M) H) (hD : va_D A0 (rzw F ad G M)) (hS : va_S A0 s.heap H locs) (hG : wfG G) (hL : wfL G ls) (hW : wfS G st) (hn : ls.length ≤ mlw mid) (hl : lv_has lr (mlw mid) (lvw F ad ls)) (hc : chkE mid (pc, (.tableswitch dd lo hi os), len, ea, eb, ec) = true) (hs : stepw F.2.2.2.2.2 cl (alm mid) pc (.tableswitch dd lo hi os) ea eb ec ls st G M = some (.inr (pc1, ls1, st1, G1, M1)))
    (K : Kow p l e R s m args below meth c Q F A0 mid ad G M G1 M1 pc1 ls1 st1 cells slots) : W p l e R s m args below meth c H locs cells slots Q (F0 m pc lr (st.map (rvw F ad))) := by
  obtain ⟨hx, hb, hml, hown, hts, hin, hK, hKP, hA, hfr, hlo, hvc⟩ := C
  simp only [chkE, Bool.and_eq_true, decide_eq_true_eq, beq_iff_eq] at hc
  obtain ⟨⟨⟨⟨⟨hd, hdf⟩, hlo⟩, hhi⟩, hsm⟩, hall⟩ := (⟨⟨⟨⟨⟨hc.1, hc.2.1.1.1.1⟩, hc.2.1.1.1.2⟩, hc.2.1.1.2⟩, hc.2.1.2⟩, hc.2.2⟩ : ((((_ ∧ _) ∧ _) ∧ _) ∧ _) ∧ _)
  simp only [stepw, sk] at hs
  split at hs
  · rename_i x0 r0
    subst hlo
    rcases swt_inv x0 pc (fun t => (some (.inr (t, ls, r0, G, M)) : Option TRw)) (some (.inr (eb, ls, r0, G, M))) os.toList ea (by simpa using hsm) with ⟨k0, o0, h1, h2, h3⟩ | ⟨h1, h2⟩
    · rw [h3] at hs
      cases hs
      have ho : 0 ≤ (pc : Int) + o0 := of_decide_eq_true (List.all_eq_true.mp hall o0 (List.mem_of_getElem? h1))
      refine lv_tableIn (off := o0) (tgt := ((pc : Int) + o0).toNat) hx hb hd (by rw [h2]; omega) (by rw [h2]; have := (List.getElem?_eq_some_iff.mp h1).1; simp at this; omega) ?_ (by omega) (K.same hP hD hS hl)
      rw [show (x0.toInt - (ea : Int)).toNat = k0 by rw [h2]; omega, ← Array.getElem?_toList]
      exact h1
    · rw [h2] at hs
      cases hs
      exact lv_tableOut hx hb hd (by simp at h1; omega) hdf (K.same hP hD hS hl)
  · cases hs

set_option maxHeartbeats 2000000 in
theorem sw_lookupswitch {dd : Int} {os : Array (Int × Int)} (C : Cxw p s m args meth c F A0 mid R d) (hP : va_P F.1 vwCl (rzw F ad G M) H) (hD : va_D A0 (rzw F ad G M)) (hS : va_S A0 s.heap H locs) (hG : wfG G) (hL : wfL G ls) (hW : wfS G st) (hn : ls.length ≤ mlw mid) (hl : lv_has lr (mlw mid) (lvw F ad ls)) (hc : chkE mid (pc, (.lookupswitch dd os), len, ea, eb, ec) = true) (hs : stepw F.2.2.2.2.2 cl (alm mid) pc (.lookupswitch dd os) ea eb ec ls st G M = some (.inr (pc1, ls1, st1, G1, M1)))
    (K : Kow p l e R s m args below meth c Q F A0 mid ad G M G1 M1 pc1 ls1 st1 cells slots) : W p l e R s m args below meth c H locs cells slots Q (F0 m pc lr (st.map (rvw F ad))) := by
  obtain ⟨hx, hb, hml, hown, hts, hin, hK, hKP, hA, hfr, hlo, hvc⟩ := C
  simp only [chkE, Bool.and_eq_true, decide_eq_true_eq, beq_iff_eq] at hc
  obtain ⟨hd, ⟨hdf, hso⟩, hall⟩ := (⟨hc.1, ⟨hc.2.1.1, hc.2.1.2⟩, hc.2.2⟩ : _ ∧ (_ ∧ _) ∧ _)
  simp only [stepw, sk] at hs
  split at hs
  · rename_i x0 r0
    have hk : ∀ o ∈ os.toList, 0 ≤ (pc : Int) + o.2 ∧ -1000 < o.1 ∧ o.1 < 1000 := fun o ho => by
      have := List.all_eq_true.mp hall o ho
      simp only [Bool.and_eq_true, decide_eq_true_eq] at this
      exact ⟨this.1.1, this.1.2, this.2⟩
    obtain ⟨t0, h1, h2⟩ := lwt_inv x0 pc (fun t => (some (.inr (t, ls, r0, G, M)) : Option TRw)) eb dd hdf os.toList hk
    rw [h2] at hs
    cases hs
    exact lv_lookup hx hb hd hso rfl h1 (K.same hP hD hS hl)
  · cases hs
end
end
