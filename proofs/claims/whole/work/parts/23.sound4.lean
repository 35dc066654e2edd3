section
def rmw (d mc ms : Nat) : Room := { frames := d, cells := mc, slots := ms, locals := 64 * d }
def wsw (a : Nat) : List Cond := .code (ymw a) (bmw a) (mlw a) (rtw a) :: gw_tbl
def Pcw (F : Fxw) (as : List PVw) (ad : Nat → Nat) (G : GGw) (M : MMw) (sz : Nat) : Array Value → State → Prop := va_Pc (as.map (rvw F ad)) (fun U => U.heap.size = sz ∧ va_P F.1 vwCl (rzw F ad G M) U.heap ∧ va_K F.1 vwCl (tysw F) U ∧ va_D (fun _ => True) (rzw F ad G M) ∧ KPw F (va_A (rzw F ad G M) sz) U U.heap)
def Bcw (F : Fxw) (ad : Nat → Nat) (G : GGw) (M : MMw) (sz : Nat) (G2 : GGw) (M2 : MMw) (ad2 : Nat → Nat) (t : State) : Prop := (∀ i, i < G.1 → ad2 i = ad i) ∧ va_P F.1 vwCl (rzw F ad2 G2 M2) t.heap ∧ va_K F.1 vwCl (tysw F) t ∧ va_D (va_A (rzw F ad G M) sz) (rzw F ad2 G2 M2)
def Qcw (F : Fxw) (a : Nat) (ad : Nat → Nat) (G : GGw) (M : MMw) (sz : Nat) (r : Int32) (G2 : GGw) (M2 : MMw) : Array Value → State → Outcome → State → Prop := if (rtw a).isSome then va_Qi (fun x _ => x = r) (Bcw F ad G M sz G2 M2) (va_A (rzw F ad G M) sz) else va_Qv (fun _ => True) (Bcw F ad G M sz G2 M2) (va_A (rzw F ad G M) sz)
/-- the methods that are called keep to the pure calls -/
def HCw (l : Launch) (F : Fxw) (cl : CLw) (d : Nat) : Prop := ∀ a as G M r G2 M2, a < 312 → cl a as G M = some (r, G2, M2) → wfG G → wfS G as → as.length ≤ mlw a → ∀ ad sz, Met l (ymw a) (wsw a) (rmw d (G2.1 - G.1) (G2.2.1 - G.2.1)) (Pcw F as ad G M sz) (Qcw F a ad G M sz r G2 M2) (G2.1 - G.1) (G2.2.1 - G.2.1) (va_A (rzw F ad G M) sz)
def npk (a : Nat) : Bool := match (parseMethodDescriptor (ymw a).desc).map (fun d => d.parameters.length) with
  | none => true
  | some k => decide (k + (if scw a then 0 else 1) ≤ mlw a)
theorem npk_all : (List.range 312).all npk = true := by decide +kernel
theorem np_ok {a k : Nat} (ha : a < 312) (h : (parseMethodDescriptor (ymw a).desc).map (fun d => d.parameters.length) = some k) : k + (if scw a then 0 else 1) ≤ mlw a := by
  have h1 := List.all_eq_true.mp npk_all a (List.mem_range.mpr ha)
  unfold npk at h1
  rw [h] at h1
  exact of_decide_eq_true h1
theorem mlw_small : ∀ a, a < 312 → mlw a ≤ 20 := by decide +kernel
theorem cat_sum {F : Fxw} (hvc : (F.2.2.2.2.1).category = 1) {ad : Nat → Nat} : ∀ st : List PVw, ((st.map (rvw F ad)).map fun v => v.category).sum = st.length
  | [] => rfl
  | v :: st => by
    rw [List.map_cons, List.map_cons, List.sum_cons, rvw_cat hvc, cat_sum hvc st, List.length_cons]
    omega
theorem stk_split {F : Fxw} {ad : Nat → Nat} (st : List PVw) (n : Nat) : st.map (rvw F ad) = ((st.take n).reverse.map (rvw F ad)).reverse ++ (st.drop n).map (rvw F ad) := by
  rw [List.map_reverse, List.reverse_reverse, ← List.map_append, List.take_append_drop]
theorem wsw_good {a : Nat} (ha : a < 312) : GoodIn gw_tbl (wsw a) := by
  intro w hw
  rcases List.mem_cons.mp hw with rfl | hw
  · exact gw_good _ (mdw_ok ha).1
  · exact gw_good _ hw
section
variable {p : Program} {l : Launch} {e : Env} {R : Room} {s : State} {m : MethodId} {args : Array Value} {below : List Frame} {meth : Method} {c : Code} {Q : State → Prop} {F : Fxw} {A0 : Nat → Prop} {mid d : Nat} {cl : CLw}
variable {pc len ea eb ec pc1 : Nat} {ls ls1 : LSw} {st st1 : List PVw} {G G1 : GGw} {M M1 : MMw} {H : Heap} {locs : List Loc} {cells slots : Nat} {ad : Nat → Nat} {lr : Array Slot}
theorem frm_ok (C : Cxw p s m args meth c F A0 mid R d) (hD : va_D A0 (rzw F ad G M)) (hS : va_S A0 s.heap H locs) : ∀ q, va_A (rzw F ad G M) H.size q → A0 q := by
  obtain ⟨-, -, -, -, -, -, -, -, hA, -⟩ := C
  intro q h
  rcases h with ⟨k0, x, h⟩ | h
  · exact hD.2 k0 _ h
  · exact hA q (Nat.le_trans hS.1 h)
theorem pre_ok (C : Cxw p s m args meth c F A0 mid R d) (hP : va_P F.1 vwCl (rzw F ad G M) H) (hD : va_D A0 (rzw F ad G M)) (hS : va_S A0 s.heap H locs) (as : List PVw) : PreS s H (Pcw F as ad G M H.size) (as.map (rvw F ad)) := by
  have hF := frm_ok C hD hS
  obtain ⟨-, -, -, -, -, -, hK, hKP, -⟩ := C
  refine ⟨fun a U g mk h => ?_, fun U hU hWm => ?_⟩
  · obtain ⟨h0, h1, h2, h3, h4, h5⟩ := h
    exact ⟨h0, h1, h2, va_K.moved (u := U) (U := U.calling g mk a) (Vm.Alike.refl U.vm) h3, h4, KPw.same (s := U) (U := U.calling g mk a) rfl h5⟩
  · exact ⟨rfl, by rw [hU], by rw [hU]; exact hP, va_K.moved hWm.alike hK, hD.weaken (fun _ _ _ _ => trivial), by rw [hU]; exact ((hKP.kept hS.2.1).warm hWm).narrow hF⟩
theorem call_go (C : Cxw p s m args meth c F A0 mid R d) (hD : va_D A0 (rzw F ad G M)) (hS : va_S A0 s.heap H locs) {a : Nat} {r : Int32} {G2 : GGw} {M2 : MMw} {st0 rest0 : List Value} {av : Array Value} {pc : Nat}
    (hr : va_Run p l e R s m args below meth c H locs cells slots (G2.1 - G.1) (G2.2.1 - G.2.1) (F0 m pc lr st0) rest0 (Qcw F a ad G M H.size r G2 M2 av) (va_A (rzw F ad G M) H.size))
    (K : ∀ (ad' : Nat → Nat) (H' : Heap) (locs' : List Loc), (∀ i, i < G.1 → ad' i = ad i) → va_P F.1 vwCl (rzw F ad' G2 M2) H' → va_D A0 (rzw F ad' G2 M2) → va_S A0 s.heap H' locs' → W p l e R s m args below meth c H' locs' (cells + (G2.1 - G.1)) (slots + (G2.2.1 - G.2.1)) Q (F0 m (pc + 3) lr (if (rtw a).isSome then .int r :: rest0 else rest0))) : W p l e R s m args below meth c H locs cells slots Q (F0 m pc lr st0) := by
  have hF := frm_ok C hD hS
  unfold Qcw at hr
  split at hr
  · rename_i hso
    refine va_calli hr hS (fun q _ h => hF q h) hF (fun x u t H1 locs1 ht hvm hw hB hz1 hk1 hS1 => ?_)
    obtain ⟨b1, b2, b3, b4⟩ := hB
    have h7 := K u H1 locs1 b1 (by rw [← ht]; exact b2) (b4.weaken (fun _ _ _ h => hF _ h)) hS1
    rw [if_pos hso] at h7
    rw [hw]
    exact h7
  · rename_i hso
    refine va_callv hr hS (fun q _ h => hF q h) hF (fun u t H1 locs1 ht hvm hw hB hz1 hk1 hS1 => ?_)
    obtain ⟨b1, b2, b3, b4⟩ := hB
    have h7 := K u H1 locs1 b1 (by rw [← ht]; exact b2) (b4.weaken (fun _ _ _ h => hF _ h)) hS1
    rw [if_neg hso] at h7
    exact h7

theorem cll_inv {cl : CLw} {al : Bool} {a c pc : Nat} {ls : LSw} {as rest : List PVw} {G : GGw} {M : MMw} {o : TRw} (hal : ∀ a as G M r G2 M2, cl a as G M = some (r, G2, M2) → alm a = false → G2 = G) (hca : decide (2 ≤ c % 4) = alm a)
    (h : cll cl al a as rest (c % 4) G M (fun r G' M' => some (.inr (pc, ls, r, G', M'))) = some o) : rest.length ≤ 8 ∧ ∃ r G2 M2, cl a as G M = some (r, G2, M2) ∧ o = .inr (pc, ls, (if c % 2 = 1 then .inl r :: rest else rest), G2, M2) := by
  unfold cll bnd at h
  split at h
  · rename_i hl8
    refine ⟨hl8, ?_⟩
    split at h
    · rename_i h2
      split at h
      · split at h
        · cases h
        · rename_i r G2 M2 hc
          cases h
          refine ⟨r, G2, M2, hc, ?_⟩
          by_cases h3 : c % 4 = 3
          · rw [if_pos h3, if_pos (by omega)]
          · rw [if_neg h3, if_neg (by omega)]
      · cases h
    · rename_i h2
      split at h
      · cases h
      · rename_i r G2 M2 hc
        cases h
        have e := hal _ _ _ _ _ _ _ hc (by rw [← hca]; simp; omega)
        subst e
        refine ⟨r, G2, M2, hc, ?_⟩
        by_cases h3 : c % 4 = 1
        · rw [if_pos h3, if_pos (by omega)]
        · rw [if_neg h3, if_neg (by omega)]
  · cases h
theorem tak_len {α : Type} {st : List α} {n : Nat} (h : n ≤ st.length) : (st.take n).reverse.length = n := by simp [h]

set_option maxHeartbeats 2000000 in
theorem sw_invokestatic {i : Nat} (C : Cxw p s m args meth c F A0 mid R d) (hP : va_P F.1 vwCl (rzw F ad G M) H) (hD : va_D A0 (rzw F ad G M)) (hS : va_S A0 s.heap H locs) (hG : wfG G) (hL : wfL G ls) (hW : wfS G st) (hn : ls.length ≤ mlw mid) (hl : lv_has lr (mlw mid) (lvw F ad ls)) (hc : chkE mid (pc, (.invokestatic i), len, ea, eb, ec) = true) (hs : stepw F.2.2.2.2.2 cl (alm mid) pc (.invokestatic i) ea eb ec ls st G M = some (.inr (pc1, ls1, st1, G1, M1)))
    (K : Kow p l e R s m args below meth c Q F A0 mid ad G M G1 M1 pc1 ls1 st1 cells slots) (hcl : HCw l F cl d) (hno : ∀ as G M, cl 9997 as G M = none) (hal : ∀ a as G M r G2 M2, cl a as G M = some (r, G2, M2) → alm a = false → G2 = G) (hr1 : cells + (G1.1 - G.1) ≤ R.cells) (hr2 : slots + (G1.2.1 - G.2.1) ≤ R.slots) (hacp : ea ≠ 9998) : W p l e R s m args below meth c H locs cells slots Q (F0 m pc lr (st.map (rvw F ad))) := by
  have C0 := C
  obtain ⟨hx, hb, hml, hown, hts, hin, hK, hKP, hA, hfr, hlo, hvc⟩ := C
  simp only [chkE, Bool.and_eq_true, decide_eq_true_eq, beq_iff_eq] at hc
  obtain ⟨hd, rfl, hq⟩ := hc
  simp only [stepw, sk] at hs
  rw [if_neg hacp] at hs hq
  split at hs
  · rename_i hlen
    by_cases h97 : ea = 9997
    · rw [h97] at hs
      unfold cll bnd at hs
      simp only [hno] at hs
      repeat' split at hs
      all_goals cases hs
    · rw [if_neg h97] at hq
      simp only [Bool.and_eq_true, decide_eq_true_eq, beq_iff_eq, Bool.or_eq_true] at hq
      obtain ⟨⟨⟨⟨⟨ha, hsc⟩, hnp⟩, hrt⟩, hca⟩, hlk⟩ := hq
      obtain ⟨hl8, r0, G2, M2, hcall, ho⟩ := cll_inv hal hca hs
      cases ho
      obtain ⟨m1, m2, m3, m4, m5, m6, m7⟩ := mdw_ok ha
      rw [hsc, if_pos rfl] at m7
      have hM := hcl ea _ G M r0 _ _ ha hcall hG (wfS_take hW eb) (by rw [tak_len hlen]; have := np_ok ha hnp; omega) ad H.size
      have hms := mlw_small ea ha
      have hpre := pre_ok C0 hP hD hS (st.take eb).reverse
      have hstk := stk_split (F := F) (ad := ad) st eb
      have hW8 : (((st.drop eb).map (rvw F ad)).map fun v => v.category).sum ≤ 8 := by rw [cat_sum hvc]; exact hl8
      have hAl : ((st.take eb).reverse.map (rvw F ad)).length = eb := by rw [List.length_map, tak_len hlen]
      rcases hlk with hlk | hlk
      · exact call_go C0 hD hS (va_runS (cc := bmw mid) (nL := mlw mid) (index := i) (g := F0 m pc lr (st.map (rvw F ad))) ⟨hx, hb, hml, hown, hts⟩ hM ⟨callB_of (ws' := gw_tbl) eb hts (wsw_good ha) rfl rfl rfl (hts _ m2) (hts _ (gw_mem (lnkw_mem hlk) rfl)) ⟨m5, m6, hnp⟩ ⟨hfr, by show 8 + (mlw ea + 11) + 64 * d ≤ _; omega⟩, hts _ m7⟩ hpre rfl hAl hl.1 hstk (lv_room hW8) hd ⟨hr1, hr2⟩) (fun ad2 H2 locs2 h1 h2 h3 h4 => by
          have h7 := K ad2 H2 locs2 lr h1 h2 h3 h4 (lvw_ext h1 hL hl)
          rw [show (if ec % 2 = 1 then (Sum.inl r0 :: st.drop eb : List PVw) else st.drop eb).map (rvw F ad2) = (if (rtw ea).isSome then .int r0 :: (st.drop eb).map (rvw F ad) else (st.drop eb).map (rvw F ad)) from ?_] at h7
          · exact h7
          · rw [← stk_ext h1 (wfS_drop hW eb)]
            by_cases h9 : ec % 2 = 1
            · rw [if_pos h9, if_pos (by rw [hrt]; simp [h9])]; rfl
            · rw [if_neg h9, if_neg (by rw [hrt]; simp [h9])])
      · exact call_go C0 hD hS (va_runSN (cc := bmw mid) (nL := mlw mid) (index := i) (g := F0 m pc lr (st.map (rvw F ad))) ⟨hx, hb, hml, hown, hts⟩ hM ⟨va_cnB (ws' := gw_tbl) eb hts (wsw_good ha) rfl rfl rfl (hKP.1 _ (lnkw_mem hlk) rfl) (hts _ m2) ⟨m5, m6, hnp⟩ ⟨hfr, by show 8 + (mlw ea + 11) + 64 * d ≤ _; omega⟩, hts _ m7, trivial⟩ hpre rfl hAl hl.1 hstk (lv_room hW8) hd ⟨hr1, hr2⟩) (fun ad2 H2 locs2 h1 h2 h3 h4 => by
          have h7 := K ad2 H2 locs2 lr h1 h2 h3 h4 (lvw_ext h1 hL hl)
          rw [show (if ec % 2 = 1 then (Sum.inl r0 :: st.drop eb : List PVw) else st.drop eb).map (rvw F ad2) = (if (rtw ea).isSome then .int r0 :: (st.drop eb).map (rvw F ad) else (st.drop eb).map (rvw F ad)) from ?_] at h7
          · exact h7
          · rw [← stk_ext h1 (wfS_drop hW eb)]
            by_cases h9 : ec % 2 = 1
            · rw [if_pos h9, if_pos (by rw [hrt]; simp [h9])]; rfl
            · rw [if_neg h9, if_neg (by rw [hrt]; simp [h9])])
  · cases hs

theorem stk_split1 {F : Fxw} {ad : Nat → Nat} {st : List PVw} {n : Nat} {v : PVw} (hv : st[n]? = some v) : st.map (rvw F ad) = ((st.take n).reverse.map (rvw F ad)).reverse ++ rvw F ad v :: (st.drop (n + 1)).map (rvw F ad) := by
  rw [stk_split st n, List.drop_eq_getElem?_toList_append, hv]
  rfl
theorem take_rev {st : List PVw} {n : Nat} {v : PVw} (hv : st[n]? = some v) : (st.take (n + 1)).reverse = v :: (st.take n).reverse := by
  rw [List.take_succ, hv, List.reverse_append]
  rfl

set_option maxHeartbeats 2000000 in
theorem sw_invokevirtual {i : Nat} (C : Cxw p s m args meth c F A0 mid R d) (hP : va_P F.1 vwCl (rzw F ad G M) H) (hD : va_D A0 (rzw F ad G M)) (hS : va_S A0 s.heap H locs) (hG : wfG G) (hL : wfL G ls) (hW : wfS G st) (hn : ls.length ≤ mlw mid) (hl : lv_has lr (mlw mid) (lvw F ad ls)) (hc : chkE mid (pc, (.invokevirtual i), len, ea, eb, ec) = true) (hs : stepw F.2.2.2.2.2 cl (alm mid) pc (.invokevirtual i) ea eb ec ls st G M = some (.inr (pc1, ls1, st1, G1, M1)))
    (K : Kow p l e R s m args below meth c Q F A0 mid ad G M G1 M1 pc1 ls1 st1 cells slots) (hcl : HCw l F cl d) (hno : ∀ as G M, cl 9997 as G M = none) (hal : ∀ a as G M r G2 M2, cl a as G M = some (r, G2, M2) → alm a = false → G2 = G) (hr1 : cells + (G1.1 - G.1) ≤ R.cells) (hr2 : slots + (G1.2.1 - G.2.1) ≤ R.slots) : W p l e R s m args below meth c H locs cells slots Q (F0 m pc lr (st.map (rvw F ad))) := by
  have C0 := C
  obtain ⟨hx, hb, hml, hown, hts, hin, hK, hKP, hA, hfr, hlo, hvc⟩ := C
  simp only [chkE, Bool.and_eq_true, decide_eq_true_eq, beq_iff_eq] at hc
  obtain ⟨hd, rfl, hq⟩ := hc
  simp only [stepw, sk] at hs
  split at hs
  · rename_i hlen
    obtain ⟨hlen, hrc⟩ := hlen
    by_cases h97 : ea = 9997
    · rw [h97] at hs
      unfold cll bnd at hs
      simp only [hno] at hs
      repeat' split at hs
      all_goals cases hs
    · rw [if_neg h97] at hq
      simp only [Bool.and_eq_true, decide_eq_true_eq, beq_iff_eq, Bool.or_eq_true] at hq
      obtain ⟨⟨⟨⟨⟨⟨⟨ha, hsc⟩, hni⟩, hcls⟩, hnp⟩, hrt⟩, hca⟩, hlk⟩ := hq
      obtain ⟨hl8, r0, G2, M2, hcall, ho⟩ := cll_inv hal hca hs
      cases ho
      obtain ⟨m1, m2, m3, m4, m5, m6, m7⟩ := mdw_ok ha
      have hsc : scw ea = false := by simpa using hsc
      have hni : (ymw ea).name ≠ "<init>" := by simpa using hni
      rw [hsc, if_neg Bool.false_ne_true] at m7
      have m8 : Cond.selects (clsw (ec / 4)) (ymw ea) (ymw ea) ∈ gw_tbl := by rw [← hcls]; exact m7.2.resolve_left hni
      obtain ⟨v0, hv0⟩ : ∃ v, st[eb]? = some v := ⟨_, List.getElem?_eq_getElem hlen⟩
      have hrv : ∃ b0 : Nat, rvw F ad v0 = .ref b0 ∧ ∃ cellB : Cell, H[b0]? = some cellB ∧ cellB.vm.isStatics = false ∧ s.vm.findClass (clsw (ec / 4)) = some cellB.cls := by
        rw [hv0] at hrc
        rcases v0 with x0 | p0 | j0
        · cases hrc
        · have hk : (G.2.2.1 p0).1 = ec / 4 := by simpa [rcv] using hrc
          have hp : p0 < G.1 := hW _ (List.mem_of_getElem? hv0)
          refine ⟨ad p0, rfl, ?_⟩
          have he := rz_get (F := F) (ad := ad) (M := M) hp
          have hlt : ec / 4 < 13 := by
            by_cases h0 : ec / 4 = 100
            · rw [h0] at hcls; exact absurd hcls (by have := m7; intro z; exact absurd (z ▸ m2) (by decide +kernel))
            · by_cases h1 : ec / 4 = 101
              · rw [h1] at hcls; exact absurd (hcls ▸ m2) (by decide +kernel)
              · by_cases h2 : ec / 4 = 102
                · rw [h2] at hcls; exact absurd (hcls ▸ m2) (by decide +kernel)
                · exact obj_lt hP hp hk h0 h1 h2
          rw [ent_obj hk hlt] at he
          obtain ⟨r, hr, -, -, e3⟩ := vwCl_get hlt
          rw [e3]
          exact va_recv hK hP hr he
        · have hk : ec / 4 = 200 ∧ j0 < 28 := by simpa [rcv] using hrc
          refine ⟨F.2.2.1.1 j0, if_pos hk.2, ?_⟩
          rw [hk.1]
          obtain ⟨cellS, q1, q2, q3, -⟩ := (hKP.2.2.2.1 j0 hk.2).1.kept hS.2.1
          exact ⟨cellS, q1, q2, q3⟩
      obtain ⟨b0, hb0, hcell⟩ := hrv
      have hM := hcl ea _ G M r0 _ _ ha hcall hG (wfS_take hW (eb + 1)) (by rw [tak_len (by omega)]; have := np_ok ha hnp; rw [hsc] at this; simp at this; omega) ad H.size
      have hms := mlw_small ea ha
      have hpre := pre_ok C0 hP hD hS (st.take (eb + 1)).reverse
      rw [take_rev hv0, List.map_cons, hb0] at hpre
      have hpv : PreV s H (clsw (ec / 4)) b0 (Pcw F (st.take (eb + 1)).reverse ad G M H.size) ((st.take eb).reverse.map (rvw F ad)) := ⟨by rw [take_rev hv0]; exact hpre.1, hcell, by rw [take_rev hv0]; exact hpre.2⟩
      have hstk := stk_split1 (F := F) (ad := ad) hv0
      rw [hb0] at hstk
      have hW8 : (((st.drop (eb + 1)).map (rvw F ad)).map fun v => v.category).sum ≤ 8 := by rw [cat_sum hvc]; exact hl8
      have hAl : ((st.take eb).reverse.map (rvw F ad)).length = eb := by rw [List.length_map, tak_len (Nat.le_of_lt hlen)]
      rcases hlk with hlk | hlk
      · exact call_go C0 hD hS (va_runV (cc := bmw mid) (nL := mlw mid) (index := i) (g := F0 m pc lr (st.map (rvw F ad))) ⟨hx, hb, hml, hown, hts⟩ hM ⟨callB_of (ws' := gw_tbl) eb hts (wsw_good ha) rfl rfl rfl (hts _ m2) (hts _ (gw_mem (lnkw_mem hlk) rfl)) ⟨m5, m6, hnp⟩ ⟨hfr, by show 8 + (mlw ea + 11) + 64 * d ≤ _; omega⟩, hts _ m7.1, hts _ m8⟩ hpv rfl hAl hl.1 hstk (lv_room hW8) hd ⟨hr1, hr2⟩) (fun ad2 H2 locs2 h1 h2 h3 h4 => by
          have h7 := K ad2 H2 locs2 lr h1 h2 h3 h4 (lvw_ext h1 hL hl)
          rw [show (if ec % 2 = 1 then (Sum.inl r0 :: st.drop (eb + 1) : List PVw) else st.drop (eb + 1)).map (rvw F ad2) = (if (rtw ea).isSome then .int r0 :: (st.drop (eb + 1)).map (rvw F ad) else (st.drop (eb + 1)).map (rvw F ad)) from ?_] at h7
          · exact h7
          · rw [← stk_ext h1 (wfS_drop hW (eb + 1))]
            by_cases h9 : ec % 2 = 1
            · rw [if_pos h9, if_pos (by rw [hrt]; simp [h9])]; rfl
            · rw [if_neg h9, if_neg (by rw [hrt]; simp [h9])])
      · exact call_go C0 hD hS (va_runVN (cc := bmw mid) (nL := mlw mid) (index := i) (g := F0 m pc lr (st.map (rvw F ad))) ⟨hx, hb, hml, hown, hts⟩ hM ⟨va_cnB (ws' := gw_tbl) eb hts (wsw_good ha) rfl rfl rfl (hKP.1 _ (lnkw_mem hlk) rfl) (hts _ m2) ⟨m5, m6, hnp⟩ ⟨hfr, by show 8 + (mlw ea + 11) + 64 * d ≤ _; omega⟩, hts _ m7.1, hts _ m8⟩ hpv rfl hAl hl.1 hstk (lv_room hW8) hd ⟨hr1, hr2⟩) (fun ad2 H2 locs2 h1 h2 h3 h4 => by
          have h7 := K ad2 H2 locs2 lr h1 h2 h3 h4 (lvw_ext h1 hL hl)
          rw [show (if ec % 2 = 1 then (Sum.inl r0 :: st.drop (eb + 1) : List PVw) else st.drop (eb + 1)).map (rvw F ad2) = (if (rtw ea).isSome then .int r0 :: (st.drop (eb + 1)).map (rvw F ad) else (st.drop (eb + 1)).map (rvw F ad)) from ?_] at h7
          · exact h7
          · rw [← stk_ext h1 (wfS_drop hW (eb + 1))]
            by_cases h9 : ec % 2 = 1
            · rw [if_pos h9, if_pos (by rw [hrt]; simp [h9])]; rfl
            · rw [if_neg h9, if_neg (by rw [hrt]; simp [h9])])
  · cases hs

set_option maxHeartbeats 2000000 in
theorem sw_invokespecial {i : Nat} (C : Cxw p s m args meth c F A0 mid R d) (hP : va_P F.1 vwCl (rzw F ad G M) H) (hD : va_D A0 (rzw F ad G M)) (hS : va_S A0 s.heap H locs) (hG : wfG G) (hL : wfL G ls) (hW : wfS G st) (hn : ls.length ≤ mlw mid) (hl : lv_has lr (mlw mid) (lvw F ad ls)) (hc : chkE mid (pc, (.invokespecial i), len, ea, eb, ec) = true) (hs : stepw F.2.2.2.2.2 cl (alm mid) pc (.invokespecial i) ea eb ec ls st G M = some (.inr (pc1, ls1, st1, G1, M1)))
    (K : Kow p l e R s m args below meth c Q F A0 mid ad G M G1 M1 pc1 ls1 st1 cells slots) (hcl : HCw l F cl d) (hno : ∀ as G M, cl 9997 as G M = none) (hal : ∀ a as G M r G2 M2, cl a as G M = some (r, G2, M2) → alm a = false → G2 = G) (hr1 : cells + (G1.1 - G.1) ≤ R.cells) (hr2 : slots + (G1.2.1 - G.2.1) ≤ R.slots) : W p l e R s m args below meth c H locs cells slots Q (F0 m pc lr (st.map (rvw F ad))) := by
  have C0 := C
  obtain ⟨hx, hb, hml, hown, hts, hin, hK, hKP, hA, hfr, hlo, hvc⟩ := C
  simp only [chkE, Bool.and_eq_true, decide_eq_true_eq, beq_iff_eq] at hc
  obtain ⟨hd, rfl, hq⟩ := hc
  simp only [stepw, sk] at hs
  split at hs
  · rename_i h99
    rw [if_pos h99, decide_eq_true_eq] at hq
    split at hs
    · rename_i p0 r0
      split at hs
      · rename_i h8
        cases hs
        refine W.objInit hx hb hown (hts _ (gw_mem (lnkw_mem hq) rfl)) (hts _ obj_ok.1) (hts _ obj_ok.2) rfl (by rw [hml]; exact hl.1) rfl hd (by omega) ?_ (K.same hP hD hS hl)
        show 2 * 0 + ((List.map (rvw F ad) _).map fun v => v.category).sum + 12 ≤ R.locals
        rw [cat_sum hvc]
        omega
      · cases hs
    · cases hs
  · rename_i h99
    rw [if_neg h99] at hq
    split at hs
    · rename_i hlen
      obtain ⟨hlen, hip⟩ := hlen
      by_cases h97 : ea = 9997
      · rw [h97] at hs
        unfold cll bnd at hs
        simp only [hno] at hs
        repeat' split at hs
        all_goals cases hs
      · rw [if_neg h97] at hq
        simp only [Bool.and_eq_true, decide_eq_true_eq, beq_iff_eq, Bool.or_eq_true] at hq
        obtain ⟨⟨⟨⟨⟨⟨⟨ha, hsc⟩, hni⟩, hnp⟩, hrn⟩, hc2⟩, hca⟩, hlk⟩ := hq
        obtain ⟨hl8, r0, G2, M2, hcall, ho⟩ := cll_inv hal (by rw [hc2, hca]; rfl) hs
        cases ho
        have hrt : ((rtw ea).isSome) = (ec % 2 == 1) := by rw [hrn]; have : ec % 2 = 0 := by omega
                                                           rw [this]; rfl
        obtain ⟨m1, m2, m3, m4, m5, m6, m7⟩ := mdw_ok ha
        have hsc : scw ea = false := by simpa using hsc
        rw [hsc, if_neg Bool.false_ne_true] at m7
        obtain ⟨v0, hv0⟩ : ∃ v, st[eb]? = some v := ⟨_, List.getElem?_eq_getElem hlen⟩
        obtain ⟨b0, hb0⟩ : ∃ b0 : Nat, rvw F ad v0 = .ref b0 := by
          rw [hv0] at hip
          rcases v0 with x0 | p0 | j0
          · cases hip
          · exact ⟨ad p0, rfl⟩
          · cases hip
        have hM := hcl ea _ G M r0 _ _ ha hcall hG (wfS_take hW (eb + 1)) (by rw [tak_len (by omega)]; have := np_ok ha hnp; rw [hsc] at this; simp at this; omega) ad H.size
        have hms := mlw_small ea ha
        have hpre := pre_ok C0 hP hD hS (st.take (eb + 1)).reverse
        rw [take_rev hv0, List.map_cons, hb0] at hpre
        have hpv : PreS s H (Pcw F (st.take (eb + 1)).reverse ad G M H.size) (.ref b0 :: (st.take eb).reverse.map (rvw F ad)) := by rw [take_rev hv0]; exact hpre
        have hstk := stk_split1 (F := F) (ad := ad) hv0
        rw [hb0] at hstk
        have hW8 : (((st.drop (eb + 1)).map (rvw F ad)).map fun v => v.category).sum ≤ 8 := by rw [cat_sum hvc]; exact hl8
        have hAl : ((st.take eb).reverse.map (rvw F ad)).length = eb := by rw [List.length_map, tak_len (Nat.le_of_lt hlen)]
        have hwr : wsw ea = Cond.code (ymw ea) (bmw ea) (mlw ea) none :: gw_tbl := by unfold wsw; rw [hrn]
        rcases hlk with hlk | hlk
        · exact call_go C0 hD hS (va_runI (cc := bmw mid) (nL := mlw mid) (index := i) (g := F0 m pc lr (st.map (rvw F ad))) ⟨hx, hb, hml, hown, hts⟩ hM ⟨callB_of (ws' := gw_tbl) eb hts (wsw_good ha) hwr rfl rfl (hts _ m2) (hts _ (gw_mem (lnkw_mem hlk) rfl)) ⟨m5, m6, hnp⟩ ⟨hfr, by show 8 + (mlw ea + 11) + 64 * d ≤ _; omega⟩, hni, hts _ m7.1⟩ hpv rfl hAl hl.1 hstk (lv_room hW8) hd ⟨hr1, hr2⟩) (fun ad2 H2 locs2 h1 h2 h3 h4 => by
          have h7 := K ad2 H2 locs2 lr h1 h2 h3 h4 (lvw_ext h1 hL hl)
          rw [show (if ec % 2 = 1 then (Sum.inl r0 :: st.drop (eb + 1) : List PVw) else st.drop (eb + 1)).map (rvw F ad2) = (if (rtw ea).isSome then .int r0 :: (st.drop (eb + 1)).map (rvw F ad) else (st.drop (eb + 1)).map (rvw F ad)) from ?_] at h7
          · exact h7
          · rw [← stk_ext h1 (wfS_drop hW (eb + 1))]
            by_cases h9 : ec % 2 = 1
            · rw [if_pos h9, if_pos (by rw [hrt]; simp [h9])]; rfl
            · rw [if_neg h9, if_neg (by rw [hrt]; simp [h9])])
        · exact call_go C0 hD hS (va_runIN (cc := bmw mid) (nL := mlw mid) (index := i) (g := F0 m pc lr (st.map (rvw F ad))) ⟨hx, hb, hml, hown, hts⟩ hM ⟨va_cnB (ws' := gw_tbl) eb hts (wsw_good ha) hwr rfl rfl (hKP.1 _ (lnkw_mem hlk) rfl) (hts _ m2) ⟨m5, m6, hnp⟩ ⟨hfr, by show 8 + (mlw ea + 11) + 64 * d ≤ _; omega⟩, hni, hts _ m7.1⟩ hpv rfl hAl hl.1 hstk (lv_room hW8) hd ⟨hr1, hr2⟩) (fun ad2 H2 locs2 h1 h2 h3 h4 => by
          have h7 := K ad2 H2 locs2 lr h1 h2 h3 h4 (lvw_ext h1 hL hl)
          rw [show (if ec % 2 = 1 then (Sum.inl r0 :: st.drop (eb + 1) : List PVw) else st.drop (eb + 1)).map (rvw F ad2) = (if (rtw ea).isSome then .int r0 :: (st.drop (eb + 1)).map (rvw F ad) else (st.drop (eb + 1)).map (rvw F ad)) from ?_] at h7
          · exact h7
          · rw [← stk_ext h1 (wfS_drop hW (eb + 1))]
            by_cases h9 : ec % 2 = 1
            · rw [if_pos h9, if_pos (by rw [hrt]; simp [h9])]; rfl
            · rw [if_neg h9, if_neg (by rw [hrt]; simp [h9])])
    · cases hs

set_option maxHeartbeats 2000000 in
theorem sw_acp {i : Nat} (C : Cxw p s m args meth c F A0 mid R d) (hP : va_P F.1 vwCl (rzw F ad G M) H) (hD : va_D A0 (rzw F ad G M)) (hS : va_S A0 s.heap H locs) (hG : wfG G) (hL : wfL G ls) (hW : wfS G st) (hn : ls.length ≤ mlw mid) (hl : lv_has lr (mlw mid) (lvw F ad ls)) (hc : chkE mid (pc, (.invokestatic i), len, ea, eb, ec) = true) (hs : stepw F.2.2.2.2.2 cl (alm mid) pc (.invokestatic i) ea eb ec ls st G M = some (.inr (pc1, ls1, st1, G1, M1)))
    (K : Kow p l e R s m args below meth c Q F A0 mid ad G M G1 M1 pc1 ls1 st1 cells slots) (hacp : ea = 9998) : W p l e R s m args below meth c H locs cells slots Q (F0 m pc lr (st.map (rvw F ad))) := by
  obtain ⟨hx, hb, hml, hown, hts, hin, hK, hKP, hA, hfr, hlo, hvc⟩ := C
  simp only [chkE, Bool.and_eq_true, decide_eq_true_eq, beq_iff_eq] at hc
  obtain ⟨hd, rfl, hq⟩ := hc
  simp only [stepw, sk] at hs
  rw [if_pos hacp] at hs hq
  rw [decide_eq_true_eq] at hq
  unfold acp at hs
  split at hs
  · rename_i n0 dp0 d0 sp0 s0 r0
    split at hs
    · rename_i hk
      split at hs
      · rename_i hz
        cases hs
        obtain ⟨z1, z2, z3, z4, z5, z6⟩ := hz
        have hs0 : s0 < G.1 := (wfS_cons.mp (wfS_cons.mp (wfS_cons.mp (wfS_cons.mp (wfS_cons.mp hW).2).2).2).2).1
        have hd0 : d0 < G.1 := (wfS_cons.mp (wfS_cons.mp (wfS_cons.mp hW).2).2).1
        have he0 := rz_get (F := F) (ad := ad) (M := M) hs0
        have he1 := rz_get (F := F) (ad := ad) (M := M) hd0
        rw [ent_int hk.1] at he0
        rw [ent_int hk.2.1] at he1
        have nn : ∀ z : Int32, 0 ≤ z.toInt → z.toInt = (z.toNatClampNeg : Int) := fun z hz => by
          show z.toInt = ((z.toInt.toNat : Nat) : Int)
          omega
        have hset : (rzw F ad G M).set d0 (ad d0, .inl (F.2.1 0, (G.2.2.1 d0).2, .inl (va_cpy (M s0) (M d0) sp0.toNatClampNeg dp0.toNatClampNeg n0.toNatClampNeg))) = rzw F ad G (fun c' k' => if c' = d0 then (if dp0.toNatClampNeg ≤ k' ∧ k' < dp0.toNatClampNeg + n0.toNatClampNeg then M s0 (sp0.toNatClampNeg + (k' - dp0.toNatClampNeg)) else M c' k') else M c' k') := by
          refine rz_set hd0 rfl ?_ (fun i hi hne => ?_)
          · rw [ent_int hk.2.1]
            have e9 : (fun k' => if d0 = d0 then (if dp0.toNatClampNeg ≤ k' ∧ k' < dp0.toNatClampNeg + n0.toNatClampNeg then M s0 (sp0.toNatClampNeg + (k' - dp0.toNatClampNeg)) else M d0 k') else M d0 k') = va_cpy (M s0) (M d0) sp0.toNatClampNeg dp0.toNatClampNeg n0.toNatClampNeg := by
              funext k'
              rw [if_pos rfl]
              rfl
            rw [← e9]
          · unfold entw
            congr 1
            funext j
            simp [hne]
        refine va_copyi (index := i) hx hb (by rw [hml]; exact hl.1.symm) hown (hts _ (gw_mem (lnkw_mem hq) rfl)) (hts _ acp_ok.1) (hts _ acp_ok.2.1) (hts _ acp_ok.2.2) hK hP hD hS s0 d0 0 0 he0 he1 rfl rfl rfl (nn_of z1) (nn_of z2) (nn_of z3) ?_ ?_ (fun _ _ => rfl) (by omega) ?_ hd (fun H2 locs2 hP2 hD2 hS2 => ?_)
        · have := nn _ z1; have := nn _ z3; omega
        · have := nn _ z2; have := nn _ z3; omega
        · rw [cat_sum hvc]
          have : nativeFrameWords "java/lang/System" "arraycopy" 5 ≤ 7 := by decide +kernel
          omega
        · rw [hset] at hP2 hD2
          exact K.keep hP2 hD2 hS2 hl
      · cases hs
    · cases hs
  · cases hs
end
end
