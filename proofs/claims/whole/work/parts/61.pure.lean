section
-- needs: bits
/-! calls and what is known of their answers -/
theorem bnd_some {R : Type} {x : Int32} {G : GGw} {M : MMw} {f : Int32 → GGw → MMw → Option R} : bnd (some (x, G, M)) f = f x G M := rfl
/-- a call, what is known of its answer and of the memory behind it; the shape stays -/
def Sq (X : KXw) (D mid : Nat) (as : List PVw) (G : GGw) (M : MMw) (Q : Int32 → MMw → Prop) : Prop := ∃ x M', callw X D mid as G M = some (x, G, M') ∧ Q x M'
/-- the same from a place in a method on -/
def Lq (X : KXw) (cl : CLw) (mid pc : Nat) (ls : LSw) (G : GGw) (M : MMw) (Q : Int32 → MMw → Prop) : Prop := ∃ x M', Ev X cl mid pc ls [] G M (x, G, M') ∧ Q x M'
def Wq (X : KXw) (cl : CLw) (mid : Nat) (G : GGw) (Q : Int32 → MMw → Prop) (t : Option TRw) : Prop := ∃ x M', EvT X cl mid t (x, G, M') ∧ Q x M'
theorem Lq.of {X : KXw} {cl : CLw} {mid n pc : Nat} {ls : LSw} {G : GGw} {M : MMw} {Q : Int32 → MMw → Prop} {t : Option TRw} (h : seg X cl mid n pc ls [] G M = t) (ht : Wq X cl mid G Q t) : Lq X cl mid pc ls G M Q := by
  obtain ⟨x, M', h1, h2⟩ := ht
  exact ⟨x, M', Ev_of h h1, h2⟩
theorem Sq.of {X : KXw} {D mid : Nat} {as : List PVw} {G : GGw} {M : MMw} {Q : Int32 → MMw → Prop} (h : Lq X (callw X D) mid 0 (cin mid as) G M Q) : Sq X (D + 1) mid as G M Q := by
  obtain ⟨x, M', h1, h2⟩ := h
  exact ⟨x, M', callw_of h1, h2⟩
theorem Sq.mk {X : KXw} {k D mid : Nat} {as : List PVw} {G : GGw} {M : MMw} {Q : Int32 → MMw → Prop} (hD : k + 1 ≤ D) (h : ∀ D', k ≤ D' → Lq X (callw X D') mid 0 (cin mid as) G M Q) : Sq X D mid as G M Q := by
  obtain ⟨D', rfl⟩ : ∃ D', D = D' + 1 := ⟨D - 1, by omega⟩
  exact Sq.of (h D' (by omega))
/-- an exact answer -/
theorem Sq.eq {X : KXw} {D mid : Nat} {as : List PVw} {G : GGw} {M M' : MMw} {v : Int32} (h : Sq X D mid as G M (fun x M1 => x = v ∧ M1 = M')) : callw X D mid as G M = some (v, G, M') := by
  obtain ⟨x, M1, h1, rfl, rfl⟩ := h
  exact h1
theorem Sq.ex {X : KXw} {D mid : Nat} {as : List PVw} {G : GGw} {M M' : MMw} {v : Int32} {Q : Int32 → MMw → Prop} (h : callw X D mid as G M = some (v, G, M')) (hq : Q v M') : Sq X D mid as G M Q := ⟨v, M', h, hq⟩
theorem Wq_ret {X : KXw} {cl : CLw} {mid : Nat} {G : GGw} {Q : Int32 → MMw → Prop} {x : Int32} {M' : MMw} : Wq X cl mid G Q (some (.inl (x, G, M'))) = Q x M' := propext ⟨fun h => by
  obtain ⟨x1, M1, h1, h2⟩ := h
  have h1 : (x, G, M') = (x1, G, M1) := h1
  injection h1 with a b
  injection b with c d
  rw [a, d]
  exact h2, fun h => ⟨x, M', rfl, h⟩⟩
theorem Wq_jmp {X : KXw} {cl : CLw} {mid pc : Nat} {ls : LSw} {G : GGw} {Q : Int32 → MMw → Prop} {M' : MMw} : Wq X cl mid G Q (some (.inr (pc, ls, [], G, M'))) = Lq X cl mid pc ls G M' Q := rfl
theorem Wq.call {X : KXw} {D a mid : Nat} {as : List PVw} {G : GGw} {M : MMw} {Q Q1 : Int32 → MMw → Prop} {f : Int32 → GGw → MMw → Option TRw} (h : Sq X D a as G M Q1) (hk : ∀ x M', Q1 x M' → Wq X (callw X D) mid G Q (f x G M')) : Wq X (callw X D) mid G Q (bnd (callw X D a as G M) f) := by
  obtain ⟨x, M', h1, h2⟩ := h
  rw [h1]
  exact hk x M' h2
theorem Lq.mono {X : KXw} {cl : CLw} {mid pc : Nat} {ls : LSw} {G : GGw} {M : MMw} {Q Q1 : Int32 → MMw → Prop} (h : Lq X cl mid pc ls G M Q1) (hq : ∀ x M', Q1 x M' → Q x M') : Lq X cl mid pc ls G M Q := by
  obtain ⟨x, M', h1, h2⟩ := h
  exact ⟨x, M', h1, hq x M' h2⟩
theorem Sq.mono {X : KXw} {D mid : Nat} {as : List PVw} {G : GGw} {M : MMw} {Q Q1 : Int32 → MMw → Prop} (h : Sq X D mid as G M Q1) (hq : ∀ x M', Q1 x M' → Q x M') : Sq X D mid as G M Q := by
  obtain ⟨x, M', h1, h2⟩ := h
  exact ⟨x, M', h1, hq x M' h2⟩
/-- a method whose way is one segment -/
theorem ex1 {X : KXw} {D mid n : Nat} {as : List PVw} {G : GGw} {M M' : MMw} {v : Int32} {t : CLw → Option TRw} (hD : 1 ≤ D) (h : ∀ cl, seg X cl mid n 0 (cin mid as) [] G M = t cl) (ht : ∀ cl, t cl = some (.inl (v, G, M'))) : callw X D mid as G M = some (v, G, M') := by
  obtain ⟨D', rfl⟩ : ∃ D', D = D' + 1 := ⟨D - 1, by omega⟩
  exact callw_of (Ev_of (h _) (by rw [ht]; rfl))
theorem exk {X : KXw} {k D mid n : Nat} {as : List PVw} {G : GGw} {M M' : MMw} {v : Int32} {t : Nat → Option TRw} (hD : k + 1 ≤ D) (h : ∀ D', k ≤ D' → seg X (callw X D') mid n 0 (cin mid as) [] G M = t D') (ht : ∀ D', k ≤ D' → t D' = some (.inl (v, G, M'))) : callw X D mid as G M = some (v, G, M') := by
  obtain ⟨D', rfl⟩ : ∃ D', D = D' + 1 := ⟨D - 1, by omega⟩
  exact callw_of (Ev_of (h D' (by omega)) (by rw [ht D' (by omega)]; rfl))
end
