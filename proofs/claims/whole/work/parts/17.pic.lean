section
def lenJ : List Nat := [136, 10, 4, 2, 3, 3, 4, 4, 4, 4, 4, 5, 4, 5, 5, 4, 4, 6, 4, 7, 6, 4, 5, 5, 4, 3, 4, 3]
/-! the pure heap as cells of the machine -/
def gw_tbl : List Cond := lw_tbl.filter goodWord
theorem gw_mem {w : Cond} (h : w ∈ lw_tbl) (g : goodWord w = true) : w ∈ gw_tbl := List.mem_filter.mpr ⟨h, g⟩
theorem gw_good : GoodIn gw_tbl gw_tbl := fun w h => ⟨h, good_of_word (List.mem_filter.mp h).2⟩
abbrev Fxw : Type := va_G × (Nat → ClassId) × ((Nat → Nat) × (Nat → Nat)) × (Nat × Nat) × Value × KXw
def kvw (F : Fxw) (j : Nat) : Value := if j < 28 then .ref (F.2.2.1.1 j) else if j < 56 then .ref (F.2.2.1.2 (j - 28)) else if j = 56 then .ref F.2.2.2.1.1 else if j = 57 then .ref F.2.2.2.1.2 else F.2.2.2.2.1
def rvw (F : Fxw) (ad : Nat → Nat) (v : PVw) : Value := match v with
  | .inl x => .int x
  | .inr (.inl p) => .ref (ad p)
  | .inr (.inr j) => kvw F j
def tysw (F : Fxw) : List (ClassId × FieldType) := [(F.2.1 0, .int), (F.2.1 1, .boolean), (F.2.1 2, .object "ToolUnion$Moves")]
def rfw (ad : Nat → Nat) (x : Nat) : Option Nat := match x with
  | 0 => none
  | q + 1 => some (ad q)
def fvw (ad : Nat → Nat) (ci : Nat) (Fr : Nat → Nat) (Mr : Nat → Int32) (j : Nat) : Value := if isRf ci j then va_rf (rfw ad (Fr j)) else .int (Mr j)
def enk (F : Fxw) (ad : Nat → Nat) (k n : Nat) (Fr : Nat → Nat) (Mr : Nat → Int32) : va_E := if k = 100 then .inl (F.2.1 0, n, .inl Mr) else if k = 101 then .inl (F.2.1 1, n, .inl Mr) else if k = 102 then .inl (F.2.1 2, n, .inr (.inr (.inr (.inr (fun j => rfw ad (Fr j)))))) else .inr (k, (List.range (nfw k)).map (fvw ad k Fr Mr))
def entw (F : Fxw) (ad : Nat → Nat) (G : GGw) (M : MMw) (i : Nat) : va_E := enk F ad (G.2.2.1 i).1 (G.2.2.1 i).2 (G.2.2.2 i) (M i)
def rzw (F : Fxw) (ad : Nat → Nat) (G : GGw) (M : MMw) : va_W := (List.range G.1).map (fun i => (ad i, entw F ad G M i))
theorem rz_get {F : Fxw} {ad : Nat → Nat} {G : GGw} {M : MMw} {i : Nat} (h : i < G.1) : (rzw F ad G M)[i]? = some (ad i, entw F ad G M i) := by
  simp [rzw, h]
theorem rz_len {F : Fxw} {ad : Nat → Nat} {G : GGw} {M : MMw} : (rzw F ad G M).length = G.1 := by simp [rzw]
theorem rz_set {F : Fxw} {ad : Nat → Nat} {G G' : GGw} {M M' : MMw} {p : Nat} {e : va_E} (hp : p < G.1) (hn : G'.1 = G.1) (he : entw F ad G' M' p = e) (ho : ∀ i, i < G.1 → i ≠ p → entw F ad G' M' i = entw F ad G M i) : (rzw F ad G M).set p (ad p, e) = rzw F ad G' M' := by
  apply List.ext_getElem?
  intro i
  by_cases hi : i < G.1
  · by_cases hip : i = p
    · subst hip
      rw [List.getElem?_set_self (by rw [rz_len]; exact hi), rz_get (by rw [hn]; exact hi), he]
    · rw [List.getElem?_set_ne (Ne.symm hip), rz_get hi, rz_get (by rw [hn]; exact hi), ho i hi hip]
  · rw [List.getElem?_eq_none (by rw [List.length_set, rz_len]; omega), List.getElem?_eq_none (by rw [rz_len, hn]; omega)]
theorem rz_push {F : Fxw} {ad ad' : Nat → Nat} {G G' : GGw} {M M' : MMw} {q : Nat} {e : va_E} (hn : G'.1 = G.1 + 1) (hq : ad' G.1 = q) (he : entw F ad' G' M' G.1 = e) (ho : ∀ i, i < G.1 → ad' i = ad i ∧ entw F ad' G' M' i = entw F ad G M i) : rzw F ad G M ++ [(q, e)] = rzw F ad' G' M' := by
  apply List.ext_getElem?
  intro i
  by_cases hi : i < G.1
  · rw [List.getElem?_append_left (by rw [rz_len]; exact hi), rz_get hi, rz_get (by rw [hn]; omega), (ho i hi).1, (ho i hi).2]
  · rw [List.getElem?_append_right (by rw [rz_len]; omega), rz_len]
    by_cases hi2 : i = G.1
    · subst hi2
      rw [Nat.sub_self, rz_get (by rw [hn]; omega), he, hq]
      rfl
    · rw [List.getElem?_eq_none (by simp; omega), List.getElem?_eq_none (by rw [rz_len, hn]; omega)]
/-- references are to places that there are -/
def wfV (G : GGw) (v : PVw) : Prop := match v with
  | .inr (.inl p) => p < G.1
  | _ => True
def wfG (G : GGw) : Prop := ∀ c, c < G.1 → ∀ k, G.2.2.2 c k ≤ G.1
def wfL (G : GGw) (ls : LSw) : Prop := ∀ (i : Nat) (v : PVw), ls[i]? = some (some v) → wfV G v
def wfS (G : GGw) (st : List PVw) : Prop := ∀ v ∈ st, wfV G v
theorem wfV.le {G G' : GGw} {v : PVw} (h : wfV G v) (hn : G.1 ≤ G'.1) : wfV G' v := by
  rcases v with x | p | j
  · exact trivial
  · exact Nat.lt_of_lt_of_le h hn
  · exact h
def lvw (F : Fxw) (ad : Nat → Nat) (ls : LSw) : List (Nat × Value) := (List.range ls.length).filterMap (fun i => match ls[i]? with
  | some (some v) => some (i, rvw F ad v)
  | _ => none)
theorem lvw_mem {F : Fxw} {ad : Nat → Nat} {ls : LSw} {i : Nat} {w : Value} : (i, w) ∈ lvw F ad ls ↔ ∃ v, ls[i]? = some (some v) ∧ w = rvw F ad v := by
  unfold lvw
  rw [List.mem_filterMap]
  constructor
  · rintro ⟨j, hj, h⟩
    split at h
    · rename_i v hv
      cases h
      exact ⟨v, hv, rfl⟩
    · cases h
  · rintro ⟨v, hv, rfl⟩
    exact ⟨i, List.mem_range.mpr (List.getElem?_eq_some_iff.mp hv).1, by rw [hv]⟩
theorem lvw_at {F : Fxw} {ad : Nat → Nat} {ls : LSw} {i nL : Nat} {v : PVw} {lr : Array Slot} (h : lv_has lr nL (lvw F ad ls)) (hv : ls[i]? = some (some v)) : lr[i]? = some (.val (rvw F ad v)) := h.2.2 (i, rvw F ad v) (lvw_mem.mpr ⟨v, hv, rfl⟩)
theorem rvw_cat {F : Fxw} (hk : (F.2.2.2.2.1).category = 1) {ad : Nat → Nat} (v : PVw) : (rvw F ad v).category = 1 := by
  rcases v with x | p | j
  · rfl
  · rfl
  · show (kvw F j).category = 1
    unfold kvw
    repeat' split
    all_goals first | rfl | exact hk
theorem lvw_put {F : Fxw} (hk : (F.2.2.2.2.1).category = 1) {ad : Nat → Nat} {ls : LSw} {i nL : Nat} {v : PVw} {lr : Array Slot} (h : lv_has lr nL ((i, rvw F ad v) :: (lvw F ad ls).filter (fun q => !(q.1 == i) && !(q.1 + 1 == i && q.2.category == 2)))) : lv_has lr nL (lvw F ad (ls.set i (some v))) := by
  refine ⟨h.1, h.2.1, fun q hq => ?_⟩
  obtain ⟨j, w⟩ := q
  obtain ⟨u, hu, rfl⟩ := lvw_mem.mp hq
  by_cases hij : j = i
  · subst hij
    have hl : j < (ls.set j (some v)).length := (List.getElem?_eq_some_iff.mp hu).1
    rw [List.length_set] at hl
    rw [List.getElem?_set_self hl] at hu
    cases hu
    exact h.2.2 _ List.mem_cons_self
  · rw [List.getElem?_set_ne (Ne.symm hij)] at hu
    refine h.2.2 _ (List.mem_cons_of_mem _ (List.mem_filter.mpr ⟨lvw_mem.mpr ⟨u, hu, rfl⟩, ?_⟩))
    simp [hij, rvw_cat hk u]
theorem nrm_some {o : Option (List Bool)} {ls : LSw} {i : Nat} {v : PVw} (h : (nrm o ls)[i]? = some (some v)) : ls[i]? = some (some v) := by
  unfold nrm at h
  split at h
  · exact h
  · rename_i m
    rw [List.getElem?_zipWith] at h
    split at h
    · rename_i b w hb hw
      split at h
      · rw [hw, Option.some.inj h]
      · cases h
    · cases h
theorem nrm_len {o : Option (List Bool)} {ls : LSw} : (nrm o ls).length ≤ ls.length := by
  unfold nrm
  split
  · exact Nat.le_refl _
  · rw [List.length_zipWith]; exact Nat.min_le_right _ _
theorem lvw_nrm {F : Fxw} {ad : Nat → Nat} {ls : LSw} {nL : Nat} {lr : Array Slot} (o : Option (List Bool)) (h : lv_has lr nL (lvw F ad ls)) : lv_has lr nL (lvw F ad (nrm o ls)) := by
  refine ⟨h.1, h.2.1, fun q hq => ?_⟩
  obtain ⟨j, w⟩ := q
  obtain ⟨u, hu, rfl⟩ := lvw_mem.mp hq
  exact lvw_at h (nrm_some hu)
theorem rvw_ext {F : Fxw} {ad ad' : Nat → Nat} {G : GGw} (he : ∀ i, i < G.1 → ad' i = ad i) {v : PVw} (h : wfV G v) : rvw F ad' v = rvw F ad v := by
  rcases v with x | p | j
  · rfl
  · show Value.ref (ad' p) = Value.ref (ad p)
    rw [he p h]
  · rfl
theorem lvw_ext {F : Fxw} {ad ad' : Nat → Nat} {G : GGw} (he : ∀ i, i < G.1 → ad' i = ad i) {ls : LSw} (h : wfL G ls) {lr : Array Slot} {nL : Nat} (hl : lv_has lr nL (lvw F ad ls)) : lv_has lr nL (lvw F ad' ls) := by
  refine ⟨hl.1, hl.2.1, fun q hq => ?_⟩
  obtain ⟨j, w⟩ := q
  obtain ⟨u, hu, rfl⟩ := lvw_mem.mp hq
  rw [rvw_ext he (h j u hu)]
  exact lvw_at hl hu
theorem stk_ext {F : Fxw} {ad ad' : Nat → Nat} {G : GGw} (he : ∀ i, i < G.1 → ad' i = ad i) {st : List PVw} (h : wfS G st) : st.map (rvw F ad') = st.map (rvw F ad) := List.map_congr_left (fun v hv => rvw_ext he (h v hv))
theorem rfw_ext {ad ad' : Nat → Nat} {n x : Nat} (he : ∀ i, i < n → ad' i = ad i) (h : x ≤ n) : rfw ad' x = rfw ad x := by
  cases x with
  | zero => rfl
  | succ q => show some (ad' q) = some (ad q); rw [he q h]
theorem enk_ext {F : Fxw} {ad ad' : Nat → Nat} {k n N : Nat} {Fr : Nat → Nat} {Mr : Nat → Int32} (he : ∀ i, i < N → ad' i = ad i) (h : ∀ j, Fr j ≤ N) : enk F ad' k n Fr Mr = enk F ad k n Fr Mr := by
  have e1 : (fun j => rfw ad' (Fr j)) = (fun j => rfw ad (Fr j)) := funext fun j => rfw_ext he (h j)
  have e2 : fvw ad' k Fr Mr = fvw ad k Fr Mr := funext fun j => by unfold fvw; rw [rfw_ext he (h j)]
  unfold enk
  rw [e1, e2]
/-- what stands outside of the world: constants, links between nest mates -/
def isNst (w : Cond) : Bool := match w with
  | .methodLinkNest _ _ _ _ => true
  | _ => false
def vkw (adK adV : Nat → Nat) (A : Nat → Prop) (U : State) (H : Heap) : Prop := ∀ i : Nat, i < 28 → va_O "java/lang/String" (adK i) A U H ∧ va_OF "java/lang/String" "coder" "B" (.int 0) (adK i) A U H ∧ va_OF "java/lang/String" "value" "[B" (.ref (adV i)) (adK i) A U H ∧ va_T .byte (adV i) (lenJ.getD i 0) (fun j => .int ((bytJ.getD i []).getD j 0)) A U H
theorem vkw.moved {adK adV : Nat → Nat} {A : Nat → Prop} {u U : State} {H : Heap} (hvm : u.vm.Alike U.vm) (h : vkw adK adV A u H) : vkw adK adV A U H :=
  fun i hi => ⟨va_O.moved hvm (h i hi).1, va_OF.moved hvm (h i hi).2.1, va_OF.moved hvm (h i hi).2.2.1, va_T.moved hvm (h i hi).2.2.2⟩
theorem vkw.kept {adK adV : Nat → Nat} {A : Nat → Prop} {U : State} {H H1 : Heap} (h : vkw adK adV A U H) (hq : ∀ a : Nat, a < H.size → ¬ A a → H1[a]? = H[a]?) : vkw adK adV A U H1 :=
  fun i hi => ⟨(h i hi).1.kept hq, (h i hi).2.1.kept hq, (h i hi).2.2.1.kept hq, (h i hi).2.2.2.kept hq⟩
theorem vkw.narrow {adK adV : Nat → Nat} {A B : Nat → Prop} {U : State} {H : Heap} (h : vkw adK adV A U H) (hAB : ∀ q, B q → A q) : vkw adK adV B U H :=
  fun i hi => ⟨(h i hi).1.narrow hAB, (h i hi).2.1.narrow hAB, (h i hi).2.2.1.narrow hAB, (h i hi).2.2.2.narrow hAB⟩
def KPw (F : Fxw) (A : Nat → Prop) (U : State) (H : Heap) : Prop :=
  (∀ w ∈ lw_tbl, isNst w = true → va_Nw w U) ∧ va_AO "ToolUnion$Moves" U ∧ (∀ (own : String) (i j : Nat), j < 28 → Cond.stringRef own i (strw j) ∈ lw_tbl → vk_R own i (strw j) (F.2.2.1.1 j) U) ∧
  vkw F.2.2.1.1 F.2.2.1.2 A U H ∧ va_Z "java/lang/String" "COMPACT_STRINGS" "Z" (.int 1) A U H ∧ va_Z "ToolUnion$Crew" "ORDERS_OF" "[I" (.ref F.2.2.2.1.1) A U H ∧ va_T .int F.2.2.2.1.1 8 (fun j => .int (ordJ.getD j 0)) A U H ∧
  va_Z "jdk/internal/util/Preconditions" "SIOOBE_FORMATTER" "Ljava/util/function/BiFunction;" F.2.2.2.2.1 A U H ∧ va_T .int F.2.2.2.1.2 F.2.2.2.2.2.1 (fun j => .int (F.2.2.2.2.2.2 j)) A U H
theorem KPw.warm {F : Fxw} {A : Nat → Prop} {s U : State} {H : Heap} (hW : s.WarmedH U.vm) (h : KPw F A s H) : KPw F A U H := by
  obtain ⟨h1, h2, h3, h4, h5, h6, h7, h8, h9⟩ := h
  refine ⟨fun w hw hn => ?_, h2.moved hW.alike, fun o i j hj hm => (h3 o i j hj hm).warm hW, h4.moved hW.alike, h5.moved hW.alike, h6.moved hW.alike, h7.moved hW.alike, h8.moved hW.alike, h9.moved hW.alike⟩
  have h0 := h1 w hw hn
  cases w <;> simp only [isNst] at hn <;> first | exact va_Nw.warmM hW h0 | cases hn
theorem KPw.same {F : Fxw} {A : Nat → Prop} {s U : State} {H : Heap} (hv : U.vm = s.vm) (h : KPw F A s H) : KPw F A U H := by
  obtain ⟨h1, h2, h3, h4, h5, h6, h7, h8, h9⟩ := h
  have ha : s.vm.Alike U.vm := by rw [hv]; exact Vm.Alike.refl s.vm
  refine ⟨fun w hw hn => ?_, h2.moved ha, fun o i j hj hm => (h3 o i j hj hm).same hv, h4.moved ha, h5.moved ha, h6.moved ha, h7.moved ha, h8.moved ha, h9.moved ha⟩
  have h0 := h1 w hw hn
  cases w <;> simp only [isNst] at hn <;> first | exact va_Nw.same rfl hv.symm h0 | cases hn
theorem KPw.kept {F : Fxw} {A : Nat → Prop} {U : State} {H H1 : Heap} (h : KPw F A U H) (hq : ∀ a : Nat, a < H.size → ¬ A a → H1[a]? = H[a]?) : KPw F A U H1 := by
  obtain ⟨h1, h2, h3, h4, h5, h6, h7, h8, h9⟩ := h
  exact ⟨h1, h2, h3, h4.kept hq, h5.kept hq, h6.kept hq, h7.kept hq, h8.kept hq, h9.kept hq⟩
theorem KPw.narrow {F : Fxw} {A B : Nat → Prop} {U : State} {H : Heap} (h : KPw F A U H) (hAB : ∀ q, B q → A q) : KPw F B U H := by
  obtain ⟨h1, h2, h3, h4, h5, h6, h7, h8, h9⟩ := h
  exact ⟨h1, h2, h3, h4.narrow hAB, h5.narrow hAB, h6.narrow hAB, h7.narrow hAB, h8.narrow hAB, h9.narrow hAB⟩
end
