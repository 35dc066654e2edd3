section
theorem kvw_v (F : Fxw) {j : Nat} (hj : j < 28) : kvw F (j + 28) = .ref (F.2.2.1.2 j) := by
  unfold kvw
  rw [if_neg (by omega), if_pos (by omega), Nat.add_sub_cancel]
theorem ent_obj {F : Fxw} {ad : Nat → Nat} {G : GGw} {M : MMw} {p a : Nat} (h : (G.2.2.1 p).1 = a) (ha : a < 13) : entw F ad G M p = .inr (a, (List.range (nfw a)).map (fvw ad a (G.2.2.2 p) (M p))) := by
  unfold entw enk
  rw [h, if_neg (by omega), if_neg (by omega), if_neg (by omega)]
theorem ent_int {F : Fxw} {ad : Nat → Nat} {G : GGw} {M : MMw} {p : Nat} (h : (G.2.2.1 p).1 = 100) : entw F ad G M p = .inl (F.2.1 0, (G.2.2.1 p).2, .inl (M p)) := by
  unfold entw enk
  rw [h, if_pos rfl]
theorem ent_bool {F : Fxw} {ad : Nat → Nat} {G : GGw} {M : MMw} {p : Nat} (h : (G.2.2.1 p).1 = 101) : entw F ad G M p = .inl (F.2.1 1, (G.2.2.1 p).2, .inl (M p)) := by
  unfold entw enk
  rw [h, if_neg (by omega), if_pos rfl]
theorem ent_row {F : Fxw} {ad : Nat → Nat} {G : GGw} {M : MMw} {p : Nat} (h : (G.2.2.1 p).1 = 102) : entw F ad G M p = .inl (F.2.1 2, (G.2.2.1 p).2, .inr (.inr (.inr (.inr (fun j => rfw ad (G.2.2.2 p j)))))) := by
  unfold entw enk
  rw [h, if_neg (by omega), if_neg (by omega), if_pos rfl]
theorem map_set {f f2 : Nat → Value} {n b : Nat} {v : Value} (hb : f2 b = v) (ho : ∀ j, j ≠ b → f2 j = f j) : ((List.range n).map f).set b v = (List.range n).map f2 := by
  apply List.ext_getElem?
  intro j
  by_cases hj : j = b
  · subst hj
    by_cases hn : j < n
    · rw [List.getElem?_set_self (by simpa using hn)]
      simp [hn, hb]
    · rw [List.getElem?_eq_none (by simp; omega), List.getElem?_eq_none (by simp; omega)]
  · rw [List.getElem?_set_ne (Ne.symm hj)]
    by_cases hn : j < n
    · simp [hn, ho j hj]
    · rw [List.getElem?_eq_none (by simp; omega), List.getElem?_eq_none (by simp; omega)]
theorem up_other {M : MMw} {c k : Nat} {v : Int32} {i : Nat} (h : i ≠ c) : up M c k v i = M i := funext fun j => by unfold up; rw [if_neg h]
theorem up_same {M : MMw} {c k : Nat} {v : Int32} : up M c k v c = upd (M c) k v := funext fun j => by
  unfold up upd
  rw [if_pos rfl]
  by_cases h : j = k
  · rw [if_pos h, if_pos h]
  · rw [if_neg h, if_neg h]
theorem ent_other {F : Fxw} {ad : Nat → Nat} {G : GGw} {M : MMw} {c k : Nat} {v : Int32} {i : Nat} (h : i ≠ c) : entw F ad G (up M c k v) i = entw F ad G M i := by unfold entw; rw [up_other h]
theorem inb_in {i : Int32} {n : Nat} (h : inb i n = true) : vp_in i n := by
  exact vp_in_iff.mpr (inb_iff.mp h)
/-- an object of a place: no other kinds than ours -/
theorem obj_lt {F : Fxw} {ad : Nat → Nat} {G : GGw} {M : MMw} {H : Heap} (hP : va_P F.1 vwCl (rzw F ad G M) H) {p : Nat} (hp : p < G.1) {k : Nat} (hk : (G.2.2.1 p).1 = k) (h1 : k ≠ 100) (h2 : k ≠ 101) (h3 : k ≠ 102) : k < 13 := by
  have h := hP p _ (rz_get hp)
  have he : entw F ad G M p = .inr (k, (List.range (nfw k)).map (fvw ad k (G.2.2.2 p) (M p))) := by
    unfold entw enk
    rw [hk, if_neg h1, if_neg h2, if_neg h3]
  rw [he] at h
  obtain ⟨r, hr, -⟩ := h
  exact (List.getElem?_eq_some_iff.mp hr).1
theorem fvw_int {ad : Nat → Nat} {a b : Nat} {Fr : Nat → Nat} {Mr : Nat → Int32} (h : isRf a b = false) : fvw ad a Fr Mr b = .int (Mr b) := by unfold fvw; rw [h]; rfl
theorem fvw_ref {ad : Nat → Nat} {a b q : Nat} {Fr : Nat → Nat} {Mr : Nat → Int32} (h : isRf a b = true) (hq : Fr b = q + 1) : fvw ad a Fr Mr b = .ref (ad q) := by unfold fvw; rw [h, hq]; rfl
theorem fits_bool {x : Int32} (h : x &&& 1 = x) : fits .boolean (.int x) = true := by
  have hx : x = 0 ∨ x = 1 := by
    obtain ⟨j, hj, e⟩ := pk_andE x (m := 1) 1 (by decide +kernel)
    rw [h] at e
    match j, hj, e with
    | 0, _, e => exact Or.inl e
    | 1, _, e => exact Or.inr e
    | k + 2, hj, _ => omega
  rcases hx with rfl | rfl <;> rfl
section
variable {p : Program} {l : Launch} {e : Env} {R : Room} {s : State} {m : MethodId} {args : Array Value} {below : List Frame} {meth : Method} {c : Code} {Q : State → Prop} {F : Fxw} {A0 : Nat → Prop} {mid d : Nat} {cl : CLw}
variable {pc len ea eb ec pc1 : Nat} {ls ls1 : LSw} {st st1 : List PVw} {G G1 : GGw} {M M1 : MMw} {H : Heap} {locs : List Loc} {cells slots : Nat} {ad : Nat → Nat} {lr : Array Slot}
set_option maxHeartbeats 2000000 in
theorem sw_getfield {i : Nat} (C : Cxw p s m args meth c F A0 mid R d) (hP : va_P F.1 vwCl (rzw F ad G M) H) (hD : va_D A0 (rzw F ad G M)) (hS : va_S A0 s.heap H locs) (hG : wfG G) (hL : wfL G ls) (hW : wfS G st) (hn : ls.length ≤ mlw mid) (hl : lv_has lr (mlw mid) (lvw F ad ls)) (hc : chkE mid (pc, (.getfield i), len, ea, eb, ec) = true) (hs : stepw F.2.2.2.2.2 cl (alm mid) pc (.getfield i) ea eb ec ls st G M = some (.inr (pc1, ls1, st1, G1, M1)))
    (K : Kow p l e R s m args below meth c Q F A0 mid ad G M G1 M1 pc1 ls1 st1 cells slots) : W p l e R s m args below meth c H locs cells slots Q (F0 m pc lr (st.map (rvw F ad))) := by
  obtain ⟨hx, hb, hml, hown, hts, hin, hK, hKP, hA, hfr, hlo, hvc⟩ := C
  simp only [chkE, Bool.and_eq_true, decide_eq_true_eq, beq_iff_eq] at hc
  simp only [stepw, sk, gfl] at hs
  split at hs
  · rename_i p0 r0
    split at hs
    · rename_i hk
      have hp : p0 < G.1 := (wfS_cons.mp hW).1
      have ha : ea < 13 := by
        obtain ⟨-, -, h3⟩ := hc
        split at h3
        · rename_i h200
          exfalso
          have := obj_lt hP hp hk (by omega) (by omega) (by omega)
          omega
        · simp only [Bool.and_eq_true, decide_eq_true_eq] at h3
          exact nfw_lt h3.1.1.2
      obtain ⟨hd, rfl, hq⟩ := hc
      rw [if_neg (by omega)] at hq
      simp only [Bool.and_eq_true, decide_eq_true_eq, beq_iff_eq] at hq
      obtain ⟨⟨⟨h2, hb2⟩, hlk⟩, hrf⟩ := hq
      obtain ⟨r, hr, e1, e2, -⟩ := vwCl_get ha
      have he := rz_get (F := F) (ad := ad) (M := M) hp
      rw [ent_obj hk ha] at he
      rw [e2] at hlk
      have hfs : ((List.range (nfw ea)).map (fvw ad ea (G.2.2.2 p0) (M p0)))[eb]? = some (fvw ad ea (G.2.2.2 p0) (M p0) eb) := by simp [hb2]
      refine va_get (q0 := p0) (k := eb) hx hb hts (uws_ok hr) hown hK hP he hr (by rw [← e1]; exact hb2) (hts _ (gw_mem (lnkw_mem hlk) rfl)) (fun _ h9 => h9) hfs hd ?_
      split at hs
      · rename_i h0
        cases hs
        rw [fvw_int (by rw [hrf, h0]; rfl)]
        exact K.same hP hD hS hl
      · rename_i h0
        split at hs
        · cases hs
        · rename_i q0 hq0
          cases hs
          rw [fvw_ref (by rw [hrf]; simp; omega) hq0]
          exact K.same hP hD hS hl
    · cases hs
  · rename_i j0 r0
    split at hs
    · rename_i hj
      obtain ⟨hd, rfl, hq⟩ := hc
      obtain ⟨hv1, hv2, hv3, hv4⟩ := hKP.2.2.2.1 j0 hj
      split at hs
      · rename_i h2
        cases hs
        rw [h2] at hq
        by_cases h200 : ea = 200
        · rw [if_pos h200, if_pos rfl, decide_eq_true_eq] at hq
          rw [List.map_cons, show rvw F ad (.inr (.inr j0)) = .ref (F.2.2.1.1 j0) from if_pos hj]
          have h1 := K.same hP hD hS hl
          rw [List.map_cons, show rvw F ad (.inr (.inr (j0 + 28))) = .ref (F.2.2.1.2 j0) from kvw_v F hj] at h1
          exact vk_getf hx hb hv3 hS hown (hts _ (gw_mem (lnkw_mem hq) rfl)) (fun _ h9 => h9) hd h1
        · rw [if_neg h200] at hq
          simp at hq
      · split at hs
        · rename_i h2 h3
          cases hs
          rw [h3] at hq
          by_cases h200 : ea = 200
          · rw [if_pos h200, if_neg (by omega), Bool.and_eq_true, decide_eq_true_eq, decide_eq_true_eq] at hq
            rw [List.map_cons, show rvw F ad (.inr (.inr j0)) = .ref (F.2.2.1.1 j0) from if_pos hj]
            exact vk_getf hx hb hv2 hS hown (hts _ (gw_mem (lnkw_mem hq.2) rfl)) (fun _ h9 => h9) hd (K.same hP hD hS hl)
          · rw [if_neg h200] at hq
            simp at hq
        · cases hs
    · cases hs
  · cases hs

set_option maxHeartbeats 2000000 in
theorem sw_putfield {i : Nat} (C : Cxw p s m args meth c F A0 mid R d) (hP : va_P F.1 vwCl (rzw F ad G M) H) (hD : va_D A0 (rzw F ad G M)) (hS : va_S A0 s.heap H locs) (hG : wfG G) (hL : wfL G ls) (hW : wfS G st) (hn : ls.length ≤ mlw mid) (hl : lv_has lr (mlw mid) (lvw F ad ls)) (hc : chkE mid (pc, (.putfield i), len, ea, eb, ec) = true) (hs : stepw F.2.2.2.2.2 cl (alm mid) pc (.putfield i) ea eb ec ls st G M = some (.inr (pc1, ls1, st1, G1, M1)))
    (K : Kow p l e R s m args below meth c Q F A0 mid ad G M G1 M1 pc1 ls1 st1 cells slots) : W p l e R s m args below meth c H locs cells slots Q (F0 m pc lr (st.map (rvw F ad))) := by
  obtain ⟨hx, hb, hml, hown, hts, hin, hK, hKP, hA, hfr, hlo, hvc⟩ := C
  simp only [chkE, Bool.and_eq_true, decide_eq_true_eq, beq_iff_eq] at hc
  obtain ⟨hd, hq⟩ := (⟨hc.1, hc.2⟩ : _ ∧ _)
  obtain ⟨⟨⟨⟨rfl, hb2⟩, hlk⟩, hty⟩, hfin⟩ := hq
  have ha : ea < 13 := nfw_lt hb2
  obtain ⟨r, hr, e1, e2, -⟩ := vwCl_get ha
  obtain ⟨ty0, hty0⟩ := tys_ok hr
  have hrk := rf_ok ea ha eb hb2
  rw [e2] at hlk hrk
  have hbN : eb < r.2.2 := by rw [← e1]; exact hb2
  have hown2 : ((r.2.1 eb).2.2.2 = false) ∨ ((r.2.1 eb).2.2.2 = true ∧ meth.name = "<init>" ∧ (r.2.1 eb).1 = onw mid) := by
    rw [e2] at hfin
    cases hf : (r.2.1 eb).2.2.2 with
    | false => exact Or.inl rfl
    | true =>
      rw [hf] at hfin
      simp only [Bool.not_true, Bool.false_or, Bool.and_eq_true, beq_iff_eq] at hfin
      exact Or.inr ⟨rfl, hin hfin.1, hfin.2⟩
  simp only [stepw, sk, pfl] at hs
  split at hs
  · rename_i x0 p0 r0
    split at hs
    · rename_i hk
      have hp : p0 < G.1 := (wfS_cons.mp (wfS_cons.mp hW).2).1
      have he := rz_get (F := F) (ad := ad) (M := M) hp
      rw [ent_obj hk ha] at he
      have hlen : eb < ((List.range (nfw ea)).map (fvw ad ea (G.2.2.2 p0) (M p0))).length := by simpa using hb2
      have hset : isRf ea eb = false → (rzw F ad G M).set p0 (ad p0, .inr (ea, ((List.range (nfw ea)).map (fvw ad ea (G.2.2.2 p0) (M p0))).set eb (.int x0))) = rzw F ad G (up M p0 eb x0) := fun hrf => by
        refine rz_set hp rfl ?_ (fun i hi hne => ent_other hne)
        rw [ent_obj hk ha, map_set (f2 := fvw ad ea (G.2.2.2 p0) (up M p0 eb x0 p0))]
        · rw [fvw_int hrf, up_same]; simp [upd]
        · intro j hj; unfold fvw; rw [up_same]; simp [upd, hj]
      have go : ∀ (ty : FieldType), parseFieldDescriptor (r.2.1 eb).2.2.1 = some ty → narrow ty (.int x0) = .int x0 → fits ty (.int x0) = true → isRf ea eb = false → Kow p l e R s m args below meth c Q F A0 mid ad G M G (up M p0 eb x0) (pc + 3) ls r0 cells slots → W p l e R s m args below meth c H locs cells slots Q (F0 m pc lr ((.inl x0 :: .inr (.inl p0) :: r0 : List PVw).map (rvw F ad))) := by
        intro ty hd1 hn1 hf1 hrf K2
        rcases hown2 with hf | ⟨hf, hi1, hi2⟩
        · exact va_put (q0 := p0) (k := eb) (v := .int x0) hx hb hts (uws_ok hr) ty0 hty0 (nms_ok hr) hown hK hP hD hS he hr hbN (hts _ (gw_mem (lnkw_mem hlk) rfl)) (fun _ h9 => h9) hf hd1 hn1 hf1 hlen hd (fun H2 locs2 hP2 hD2 hS2 => by
            rw [hset hrf] at hP2 hD2
            exact K2.keep hP2 hD2 hS2 hl)
        · exact va_putF (q0 := p0) (k := eb) (v := .int x0) hx hb hts (uws_ok hr) ty0 hty0 (nms_ok hr) hown hK hP hD hS he hr hbN (hts _ (gw_mem (lnkw_mem hlk) rfl)) (fun _ h9 => h9) hf hi1 hi2 hd1 hn1 hf1 hlen hd (fun H2 locs2 hP2 hD2 hS2 => by
            rw [hset hrf] at hP2 hD2
            exact K2.keep hP2 hD2 hS2 hl)
      split at hs
      · rename_i h0
        cases hs
        rw [if_pos h0, beq_iff_eq, e2] at hty
        exact go .int (by rw [hty]; decide +kernel) rfl rfl (by unfold isRf; rw [e2, hty]; decide) K
      · split at hs
        · rename_i h0 h2
          split at hs
          · rename_i hx1
            cases hs
            rw [if_neg h0, if_pos h2, beq_iff_eq, e2] at hty
            exact go .boolean (by rw [hty]; decide +kernel) (by show Value.int (x0 &&& 1) = _; rw [hx1]) (fits_bool hx1) (by unfold isRf; rw [e2, hty]; decide) K
          · cases hs
        · cases hs
    · cases hs
  · rename_i q0 p0 r0
    split at hs
    · rename_i hk
      split at hs
      · rename_i h1
        cases hs
        have h1 : ec = 1 := by
          rw [Bool.and_eq_true, decide_eq_true_eq] at h1
          exact h1.2
        have hp : p0 < G.1 := (wfS_cons.mp (wfS_cons.mp hW).2).1
        have he := rz_get (F := F) (ad := ad) (M := M) hp
        rw [ent_obj hk ha] at he
        have hlen : eb < ((List.range (nfw ea)).map (fvw ad ea (G.2.2.2 p0) (M p0))).length := by simpa using hb2
        rw [if_neg (by omega), if_neg (by omega), Bool.and_eq_true] at hty
        have hrf : isRf ea eb = true := hty.2
        rw [hrf, if_pos rfl] at hrk
        obtain ⟨ty, hd1, hn1, hf1⟩ : ∃ ty, parseFieldDescriptor (r.2.1 eb).2.2.1 = some ty ∧ narrow ty (.ref (ad q0)) = .ref (ad q0) ∧ fits ty (.ref (ad q0)) = true := by
          cases hpd : parseFieldDescriptor (r.2.1 eb).2.2.1 with
          | none => rw [hpd] at hrk; cases hrk
          | some t =>
            rw [hpd] at hrk
            cases t <;> first | exact ⟨_, rfl, rfl, rfl⟩ | cases hrk
        have hset : (rzw F ad G M).set p0 (ad p0, .inr (ea, ((List.range (nfw ea)).map (fvw ad ea (G.2.2.2 p0) (M p0))).set eb (.ref (ad q0)))) = rzw F ad (G.1, G.2.1, G.2.2.1, fun c' k' => if c' = p0 then (if k' = eb then q0 + 1 else G.2.2.2 c' k') else G.2.2.2 c' k') M := by
          refine rz_set hp rfl ?_ (fun i hi hne => ?_)
          · rw [ent_obj (G := (G.1, G.2.1, G.2.2.1, fun c' k' => if c' = p0 then (if k' = eb then q0 + 1 else G.2.2.2 c' k') else G.2.2.2 c' k')) hk ha, map_set]
            · rw [fvw_ref (q := q0) hrf]
              simp
            · intro j hj; unfold fvw; simp [hj]
          · unfold entw
            congr 1
            funext j
            simp [hne]
        rcases hown2 with hf | ⟨hf, hi1, hi2⟩
        · exact va_put (q0 := p0) (k := eb) (v := .ref (ad q0)) hx hb hts (uws_ok hr) ty0 hty0 (nms_ok hr) hown hK hP hD hS he hr hbN (hts _ (gw_mem (lnkw_mem hlk) rfl)) (fun _ h9 => h9) hf hd1 hn1 hf1 hlen hd (fun H2 locs2 hP2 hD2 hS2 => by
            rw [hset] at hP2 hD2
            have h7 := K ad H2 locs2 lr (fun _ _ => rfl) hP2 hD2 hS2 hl
            rwa [Nat.sub_self, Nat.sub_self, Nat.add_zero, Nat.add_zero] at h7)
        · exact va_putF (q0 := p0) (k := eb) (v := .ref (ad q0)) hx hb hts (uws_ok hr) ty0 hty0 (nms_ok hr) hown hK hP hD hS he hr hbN (hts _ (gw_mem (lnkw_mem hlk) rfl)) (fun _ h9 => h9) hf hi1 hi2 hd1 hn1 hf1 hlen hd (fun H2 locs2 hP2 hD2 hS2 => by
            rw [hset] at hP2 hD2
            have h7 := K ad H2 locs2 lr (fun _ _ => rfl) hP2 hD2 hS2 hl
            rwa [Nat.sub_self, Nat.sub_self, Nat.add_zero, Nat.add_zero] at h7)
      · cases hs
    · cases hs
  · cases hs
end
end
