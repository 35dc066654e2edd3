section
def stpT : List (List (List (Nat × List Bool))) := [
  [[], [(53, [true, true])], [], [], [], [], [], [], [], [], [], [(103, [true, true])], [(171, [true, true])], [], [], []],
  [[], [], [], [], [], [], [], [], [(70, [true, false, false, true])], [], [], [], [], [], [], []],
  [[], [(60, [true, true, true, true])], [], [], [], [], [], [], [], [], [], [(11, [true, true]), (51, [true, true])], [], [], [], []],
  [[], [], [], [], [], [], [], [], [(24, [false, false, false])], [], [(13, [true, true, true, true])], [], [], [(100, [true, true, true, true, false])], [(6, [true, true, false, true, true, true, false, false, false, false]), (137, [true, true, false, true, true, true, true, true, false, false]), (192, [true, true, false, true, true, true, true, false, false, false])], [(2, [true, true, true, true])]],
  [[], [], [], [(40, [true, false, false, false, false, true, true, true, true])], [], [], [(118, [true, true, true, true, true, true, true, true, true, true, true])], [], [(2, [true, true, true, true])], [(19, [true, true])], [(13, [true, true, true, true, true, true])], [(40, [true, true, true])], [], [], [(4, [true, true, true])], []],
  [[], [(88, [true, true, false])], [], [(6, [true, true, false, true, true, true, false, false]), (150, [true, true, false, true, true, true, true, false])], [], [(8, [true, false, false, true])], [], [], [], [(3, [true, true, true, true, true, true])], [], [], [], [(70, [true, false, false, false, false])], [], []],
  [[(9, [true, true, true, true, false]), (36, [true, true, true, true, false]), (145, [true, true, true, true, false]), (238, [true, false, true, true, false])], [(30, [true, true, true, true])], [(3, [true, true, true]), (46, [true, true, true])], [], [(18, [true, true, true, true, true, true, true, false])], [], [], [(2, [true, false, true])], [], [], [(16, [true, false, true]), (54, [true, false, true])], [], [], [], [], []],
  [[], [], [(3, [true, true, true, true, true])], [(9, [true, true, true, true, true, true])], [], [(7, [true, false, false, true, true, true])], [], [], [], [], [(5, [true, true, true, true, true])], [(18, [true, true, true, false])], [], [], [], []],
  [[], [(9, [true, true, true, true, false]), (56, [true, true, false, true, false])], [], [(30, [true, true, false, false])], [(11, [true, true, true, true, true, false]), (41, [true, true, true, false, true, false]), (76, [true, true, true, false, true, true])], [(57, [true, true, true]), (115, [true, false, true])], [], [(18, [true, true, true, true])], [(108, [true, true, true])], [(10, [true, true])], [], [(2, [true, true])], [], [], [], [(10, [true, true, true])]],
  [[], [], [], [], [], [(24, [true, true, true, true])], [], [(64, [true]), (103, [true])], [], [], [], [], [(0, [true, false, false]), (76, [true, false, false]), (126, [true, false, false])], [], [], []],
  [[(9, [true, false, false]), (45, [true, true, false])], [(9, [true, false]), (29, [true, false])], [], [], [], [(9, [true])], [(9, [true])], [(93, [true])], [(12, [true, true])], [], [], [(46, [true, true])], [], [(7, [true, true])], [(15, [true, true, true]), (129, [true, true, true])], [(29, [true, true]), (63, [true, true])]],
  [[(13, [true, true])], [(62, [true, true, true])], [], [], [], [(4, [true, true, true, true])], [], [], [(10, [true, false, true, true, true, true])], [(5, [true, true, true, true, true])], [(2, [true, true])], [(4, [true, true, true, true])], [], [], [(2, [true, true, true, true, false]), (23, [true, true, true, true, false]), (70, [true, true, true, true, false])], []],
  [[(4, [true, true, true, true])], [], [], [(4, [true, true, true, true])], [(4, [true, true, true])], [], [(4, [true, true, true, true])], [(4, [true, true, true, true])], [], [], [(2, [true, false, true, false, false])], [(2, [true, true]), (23, [true, true]), (43, [true, true])], [], [], [], [(2, [true, true, true])]],
  [[], [(4, [true, true, true, true])], [(17, [true, true, false, true, true, true])], [(4, [true, true, true, true])], [(49, [true, true])], [], [(14, [true, true, true, true])], [], [], [(2, [true, true, true, false]), (15, [true, true, true, true])], [(4, [true, true, true, true, false]), (18, [true, true, true, true, true])], [], [], [], [], []],
  [[], [], [(4, [true, true, true, true])], [(11, [false, true, true, true, true])], [], [(4, [true, true, true, true])], [(4, [true, true, true, true, false, false]), (16, [true, true, true, true, true, true])], [(11, [true, true, true, false]), (23, [true, true, true, true]), (63, [true, true, false, true])], [(4, [false, true, true, true])], [(5, [true, true, true, true, true])], [(4, [true, true, true, true])], [(2, [true, true, true, true, false, false, false]), (25, [true, true, true, true, true, false, false]), (114, [true, false, false, true, true, false, false])], [(7, [true, true, true, true, true])], [(7, [true, true, true, true])], [(2, [true, true, true])], []],
  [[(31, [true, true, true, true, true, true, true, true, true])], [], [], [(20, [true, true, true, true, true, true, false])], [(63, [true, true, false, false])], [], [(6, [true, true, true, true, false, false]), (32, [true, true, true, true, true, false]), (71, [true, true, true, true, true, true]), (150, [true, true, true, true, false, false])], [(2, [true, true, true]), (32, [true, true, true])], [(2, [true, true, false]), (15, [true, true, true]), (56, [true, true, false])], [(4, [true, true, true])], [(4, [true, true, true])], [(4, [true, true, true, true, false]), (52, [true, false, true, true, true])], [(2, [true, true, true, true])], [(5, [true, false, true, true, true])], [(37, [true, true, true, true, true, true, false])], [(11, [true, true, true, true])]],
  [[(17, [true, true, true])], [], [(5, [true, true, true, true, true, false])], [], [(5, [true, true, true, true, true, false])], [], [(4, [true, true, true, true, false]), (18, [true, true, true, true, true])], [(4, [true, true, true, false])], [(2, [true, true, true])], [(4, [true, true, true])], [], [(2, [true, true, true, true])], [(17, [true, true, false, true, true, true])], [(52, [true, true, true, true])], [(2, [true, true, true])], [(4, [true, true, true, true, false]), (46, [true, true, true, true, true])]],
  [[(24, [true, true, true, true, true])], [], [], [(34, [true, true, true, true])], [(2, [true, true])], [(2, [true, true])], [(24, [true, true, true, true, false])], [(23, [true, true, true])], [], [(45, [true, true, true, true, true])], [], [(18, [true, true, true, false]), (39, [true, false, true, true])], [(27, [true, true, true, true])], [(26, [true, true, true, true, false])], [(2, [true, true, true, true, false]), (23, [true, true, true, true, false]), (82, [true, false, false, true, true])], []],
  [[(4, [true, true, true, true])], [(2, [true, true, false, false, false]), (26, [true, true, true, true, false])], [(7, [true, true])], [(8, [true, true, true])], [], [(88, [true, false, false])], [(9, [true, true, true, true])], [(4, [true, true, true, true, false])], [(2, [true, true, false]), (43, [true, true, true])], [(2, [true, true, true])], [(7, [true, true, true, true, true])], [], [], [(2, [true, true, false]), (33, [true, true, false]), (89, [true, true, false]), (114, [true, true, true]), (166, [true, true, false])], [(2, [true, true, true])], [(59, [true, true, true, true, true])]],
  [[], [(21, [true, true])], [], [], [], [(15, [true, true, true])], [(28, [true, true])], [], [(18, [true, true, true, true]), (180, [true, true, true, true]), (203, [true, true, true, true]), (246, [true, true, true, true]), (279, [true, true, true, true]), (322, [true, true, true, true]), (371, [true, true, true, true]), (420, [true, true, true, true]), (479, [true, true, true, true]), (502, [true, true, true, true]), (565, [true, true, true, true]), (588, [true, true, true, true]), (611, [true, true, true, true]), (634, [true, true, true, true]), (667, [true, true, true, true]), (700, [true, true, true, true]), (733, [true, true, true, true]), (766, [true, true, true, true]), (809, [true, true, true, true]), (842, [true, true, true, true]), (865, [true, true, true, true]), (888, [true, true, true, true]), (911, [true, true, true, true]), (934, [true, true, true, true]), (967, [true, true, true, true]), (1000, [true, true, true, true]), (1023, [true, true, true, true]), (1056, [true, true, true, true]), (1069, [true, true, true, true]), (1082, [true, true, true, true]), (1115, [true, true, true, true]), (1138, [true, true, true, true]), (1151, [true, true, true, true]), (1190, [true, true, true, true])]]]
/-- the index is compared in a way that does not compute: so that trees stand as they are printed -/
noncomputable def up (M : MMw) (c k : Nat) (v : Int32) : MMw := fun c' k' => if c' = c then @ite _ (k' = k) (Classical.propDecidable _) v (M c' k') else M c' k'
/-- in such a form that it stops at once where i is not known -/
def inb (i : Int32) (n : Nat) : Bool := Nat.blt i.toUInt32.toNat n && Nat.blt i.toUInt32.toNat 2147483648
theorem inb_iff {i : Int32} {n : Nat} : inb i n = true ↔ 0 ≤ i.toInt ∧ i.toInt < (n : Int) := by
  unfold inb
  have e : i.toUInt32.toNat = i.toBitVec.toNat := rfl
  have e2 : i.toInt = i.toBitVec.toInt := rfl
  have h3 := i.toBitVec.isLt
  rw [Bool.and_eq_true, Nat.blt_eq, Nat.blt_eq, e, e2]
  rw [BitVec.toInt_eq_toNat_cond]
  split <;> omega
def kKind (j : Nat) : Nat := if j < 28 then 200 else if j < 56 then 103 else if j < 58 then 100 else 299
def kLen (X : KXw) (j : Nat) : Nat := if j < 56 then (bytJ.getD (j - 28) []).length else if j = 56 then 8 else X.1
def kAt (X : KXw) (j i : Nat) : Int32 := if j < 56 then (bytJ.getD (j - 28) []).getD i 0 else if j = 56 then ordJ.getD i 0 else X.2 i
def ldI {R : Type} (ls : LSw) (i : Nat) (f : PVw → Option R) : Option R := match ls[i]? with
  | some (some (.inl x)) => f (.inl x)
  | _ => none
def ldA {R : Type} (ls : LSw) (i : Nat) (f : PVw → Option R) : Option R := match ls[i]? with
  | some (some (.inr (.inl p))) => f (.inr (.inl p))
  | some (some (.inr (.inr j))) => if j < 58 then f (.inr (.inr j)) else none
  | _ => none
def stI {R : Type} (ls : LSw) (i : Nat) (st : List PVw) (f : LSw → List PVw → Option R) : Option R := match st with
  | .inl x :: r => if i < ls.length then f (ls.set i (some (.inl x))) r else none
  | _ => none
def stA {R : Type} (ls : LSw) (i : Nat) (st : List PVw) (f : LSw → List PVw → Option R) : Option R := match st with
  | .inr (.inl x) :: r => if i < ls.length then f (ls.set i (some (.inr (.inl x)))) r else none
  | _ => none
def bin {R : Type} (st : List PVw) (f : Int32 → Int32 → Int32) (g : List PVw → Option R) : Option R := match st with
  | .inl y :: .inl x :: r => g (.inl (f x y) :: r)
  | _ => none
def br0 {R : Type} (cd : Jvm.ClassFile.Cond) (x : Int32) (t e : Option R) : Option R := match cd with
  | .eq => if x = 0 then t else e
  | .ne => if x = 0 then e else t
  | .lt => if x < 0 then t else e
  | .ge => if x < 0 then e else t
  | .gt => if 0 < x then t else e
  | .le => if 0 < x then e else t
def br2 {R : Type} (cd : Jvm.ClassFile.Cond) (x y : Int32) (t e : Option R) : Option R := match cd with
  | .eq => if x = y then t else e
  | .ne => if x = y then e else t
  | .lt => if x < y then t else e
  | .ge => if x < y then e else t
  | .gt => if y < x then t else e
  | .le => if y < x then e else t
def swt {R : Type} (x : Int32) (pc : Nat) (k : Nat → Option R) (d : Option R) : Nat → List Int → Option R
  | _, [] => d
  | lo, o :: os => if x = Int32.ofNat lo then k ((pc : Int) + o).toNat else swt x pc k d (lo + 1) os
def lwt {R : Type} (x : Int32) (pc : Nat) (k : Nat → Option R) (d : Option R) : List (Int × Int) → Option R
  | [] => d
  | o :: os => if x = Int32.ofInt o.1 then k ((pc : Int) + o.2).toNat else lwt x pc k d os
def nrw (c : Nat) (x : Int32) : Int32 := match c with
  | 0 => x
  | 1 => x &&& 1
  | 2 => x.toUInt32.toUInt16.toUInt32.toInt32
  | _ => x.toInt8.toInt32
def gfl {R : Type} (a b c : Nat) (st : List PVw) (G : GGw) (M : MMw) (f : List PVw → Option R) : Option R := match st with
  | .inr (.inl p) :: r => if (G.2.2.1 p).1 = a then (if c = 0 then f (.inl (M p b) :: r) else match G.2.2.2 p b with
    | 0 => none
    | q + 1 => f (.inr (.inl q) :: r)) else none
  | .inr (.inr j) :: r => if j < 28 then (if c = 2 then f (.inr (.inr (j + 28)) :: r) else if c = 3 then f (.inl 0 :: r) else none) else none
  | _ => none
noncomputable def pfl {R : Type} (al : Bool) (a b c : Nat) (st : List PVw) (G : GGw) (M : MMw) (f : List PVw → GGw → MMw → Option R) : Option R := match st with
  | .inl x :: .inr (.inl p) :: r => if (G.2.2.1 p).1 = a then (if c = 0 then f r G (up M p b x) else if c = 2 then (if x &&& 1 = x then f r G (up M p b x) else none) else none) else none
  | .inr (.inl q) :: .inr (.inl p) :: r => if (G.2.2.1 p).1 = a then (if al && decide (c = 1) then f r (G.1, G.2.1, G.2.2.1, fun c' k' => if c' = p then (if k' = b then q + 1 else G.2.2.2 c' k') else G.2.2.2 c' k') M else none) else none
  | _ => none
def ald {R : Type} (X : KXw) (kd kc : Nat) (st : List PVw) (G : GGw) (M : MMw) (f : List PVw → Option R) : Option R := match st with
  | .inl i :: .inr (.inl p) :: r => if (G.2.2.1 p).1 = kd then (if inb i (G.2.2.1 p).2 then f (.inl (M p i.toNatClampNeg) :: r) else none) else none
  | .inl i :: .inr (.inr j) :: r => if kKind j = kc then (if inb i (kLen X j) then f (.inl (kAt X j i.toNatClampNeg) :: r) else none) else none
  | _ => none
noncomputable def ast {R : Type} (kd : Nat) (st : List PVw) (G : GGw) (M : MMw) (f : List PVw → MMw → Option R) : Option R := match st with
  | .inl x :: .inl i :: .inr (.inl p) :: r => if (G.2.2.1 p).1 = kd then (if inb i (G.2.2.1 p).2 then (if kd = 100 then f r (up M p i.toNatClampNeg x) else if nrw 1 x = x then f r (up M p i.toNatClampNeg x) else none) else none) else none
  | _ => none
def bnd {R : Type} (o : Option RRw) (f : Int32 → GGw → MMw → Option R) : Option R := match o with
  | none => none
  | some (r, G', M') => f r G' M'
/-- c: 1 if there is an answer, 2 more if cells may be made -/
def cll {R : Type} (cl : CLw) (al : Bool) (a : Nat) (args : List PVw) (rest : List PVw) (c : Nat) (G : GGw) (M : MMw) (f : List PVw → GGw → MMw → Option R) : Option R :=
  if rest.length ≤ 8 then (if 2 ≤ c then (if al then bnd (cl a args G M) (fun r G' M' => f (if c = 3 then .inl r :: rest else rest) G' M') else none) else bnd (cl a args G M) (fun r _ M' => f (if c = 1 then .inl r :: rest else rest) G M')) else none
def rcv (ci : Nat) (v : Option PVw) (G : GGw) : Bool := match v with
  | some (.inr (.inl p)) => (G.2.2.1 p).1 == ci
  | some (.inr (.inr j)) => ci == 200 && decide (j < 28)
  | _ => false
def isP (v : Option PVw) : Bool := match v with
  | some (.inr (.inl _)) => true
  | _ => false
def acp {R : Type} (st : List PVw) (G : GGw) (M : MMw) (f : List PVw → MMw → Option R) : Option R := match st with
  | .inl n :: .inl dp :: .inr (.inl d) :: .inl sp :: .inr (.inl s) :: r => if (G.2.2.1 s).1 = 100 ∧ (G.2.2.1 d).1 = 100 ∧ d ≠ s then (if 0 ≤ sp.toInt ∧ 0 ≤ dp.toInt ∧ 0 ≤ n.toInt ∧ sp.toInt + n.toInt ≤ ((G.2.2.1 s).2 : Int) ∧ dp.toInt + n.toInt ≤ ((G.2.2.1 d).2 : Int) ∧ r.length ≤ 8 then f r (fun c' k' => if c' = d then (if dp.toNatClampNeg ≤ k' ∧ k' < dp.toNatClampNeg + n.toNatClampNeg then M s (sp.toNatClampNeg + (k' - dp.toNatClampNeg)) else M c' k') else M c' k') else none) else none
  | _ => none
def nwo {R : Type} (a b : Nat) (st : List PVw) (G : GGw) (M : MMw) (f : List PVw → GGw → MMw → Option R) : Option R :=
  f (.inr (.inl G.1) :: st) (G.1 + 1, G.2.1 + b, fun c' => if c' = G.1 then (a, 0) else G.2.2.1 c', fun c' k' => if c' = G.1 then 0 else G.2.2.2 c' k') (fun c' k' => if c' = G.1 then 0 else M c' k')
def nwa {R : Type} (kd : Nat) (st : List PVw) (G : GGw) (M : MMw) (f : List PVw → GGw → MMw → Option R) : Option R := match st with
  | .inl x :: r => if inb x 100000 then f (.inr (.inl G.1) :: r) (G.1 + 1, G.2.1 + x.toNatClampNeg, fun c' => if c' = G.1 then (kd, x.toNatClampNeg) else G.2.2.1 c', fun c' k' => if c' = G.1 then 0 else G.2.2.2 c' k') (fun c' k' => if c' = G.1 then 0 else M c' k') else none
  | _ => none
/-- one instruction, in continuation form -/
noncomputable def sk {R : Type} (X : KXw) (cl : CLw) (al : Bool) (pc : Nat) (I : Jvm.ClassFile.Instr) (a b c : Nat) (ls : LSw) (st : List PVw) (G : GGw) (M : MMw) (k : KTw R) (rt : Int32 → GGw → MMw → Option R) : Option R := match I with
  | .iload i => ldI ls i fun v => k (pc + 2) ls (v :: st) G M
  | .iload_n i => ldI ls i fun v => k (pc + 1) ls (v :: st) G M
  | .aload i => ldA ls i fun v => k (pc + 2) ls (v :: st) G M
  | .aload_n i => ldA ls i fun v => k (pc + 1) ls (v :: st) G M
  | .istore i => stI ls i st fun ls' r => k (pc + 2) ls' r G M
  | .istore_n i => stI ls i st fun ls' r => k (pc + 1) ls' r G M
  | .astore i => stA ls i st fun ls' r => k (pc + 2) ls' r G M
  | .astore_n i => stA ls i st fun ls' r => k (pc + 1) ls' r G M
  | .iinc i n => ldI ls i fun v => match v with
    | .inl x => k (pc + 3) (ls.set i (some (.inl (x + Int32.ofInt n)))) st G M
    | _ => none
  | .iconst _ => k (pc + 1) ls (.inl (Int32.ofNat a) :: st) G M
  | .bipush _ => k (pc + 2) ls (.inl (Int32.ofNat a) :: st) G M
  | .sipush _ => k (pc + 3) ls (.inl (Int32.ofNat a) :: st) G M
  | .ldc _ => k (pc + 2) ls ((if c = 0 then .inl (Int32.ofNat a) else .inr (.inr a)) :: st) G M
  | .ldc_w _ => k (pc + 3) ls (.inl (Int32.ofNat a) :: st) G M
  | .iadd => bin st (· + ·) fun r => k (pc + 1) ls r G M
  | .isub => bin st (· - ·) fun r => k (pc + 1) ls r G M
  | .imul => bin st (· * ·) fun r => k (pc + 1) ls r G M
  | .iand => bin st (· &&& ·) fun r => k (pc + 1) ls r G M
  | .ior => bin st (· ||| ·) fun r => k (pc + 1) ls r G M
  | .ixor => bin st (· ^^^ ·) fun r => k (pc + 1) ls r G M
  | .ishl => bin st (fun x y => x <<< (y &&& 31)) fun r => k (pc + 1) ls r G M
  | .ishr => bin st (fun x y => x >>> (y &&& 31)) fun r => k (pc + 1) ls r G M
  | .iushr => bin st (fun x y => (x.toUInt32 >>> (y.toUInt32 &&& Int32.toUInt32 31)).toInt32) fun r => k (pc + 1) ls r G M
  | .idiv => match st with
    | .inl y :: .inl x :: r => if y = 0 then none else k (pc + 1) ls (.inl (x / y) :: r) G M
    | _ => none
  | .irem => match st with
    | .inl y :: .inl x :: r => if y = 0 then none else k (pc + 1) ls (.inl (x - x / y * y) :: r) G M
    | _ => none
  | .ineg => match st with
    | .inl x :: r => k (pc + 1) ls (.inl (-x) :: r) G M
    | _ => none
  | .i2c => match st with
    | .inl x :: r => k (pc + 1) ls (.inl (x.toUInt32 % 65536).toInt32 :: r) G M
    | _ => none
  | .i2b => match st with
    | .inl x :: r => k (pc + 1) ls (.inl x.toInt8.toInt32 :: r) G M
    | _ => none
  | .ifCond cd _ => match st with
    | .inl x :: r => br0 cd x (k a ls r G M) (k (pc + 3) ls r G M)
    | _ => none
  | .if_icmp cd _ => match st with
    | .inl y :: .inl x :: r => br2 cd x y (k a ls r G M) (k (pc + 3) ls r G M)
    | _ => none
  | .goto _ => k a ls st G M
  | .tableswitch _ _ _ offs => match st with
    | .inl x :: r => swt x pc (fun t => k t ls r G M) (k b ls r G M) a offs.toList
    | _ => none
  | .lookupswitch _ ps => match st with
    | .inl x :: r => lwt x pc (fun t => k t ls r G M) (k b ls r G M) ps.toList
    | _ => none
  | .dup => match st with
    | v :: r => k (pc + 1) ls (v :: v :: r) G M
    | _ => none
  | .dup2 => match st with
    | v :: w :: r => k (pc + 1) ls (v :: w :: v :: w :: r) G M
    | _ => none
  | .pop => match st with
    | _ :: r => k (pc + 1) ls r G M
    | _ => none
  | .getfield _ => gfl a b c st G M fun r => k (pc + 3) ls r G M
  | .putfield _ => pfl al a b c st G M fun r G' M' => k (pc + 3) ls r G' M'
  | .getstatic _ => k (pc + 3) ls ((if c = 0 then .inl (Int32.ofNat a) else .inr (.inr a)) :: st) G M
  | .iaload => ald X 100 100 st G M fun r => k (pc + 1) ls r G M
  | .baload => ald X 101 103 st G M fun r => k (pc + 1) ls r G M
  | .iastore => ast 100 st G M fun r M' => k (pc + 1) ls r G M'
  | .bastore => ast 101 st G M fun r M' => k (pc + 1) ls r G M'
  | .aaload => match st with
    | .inl i :: .inr (.inl p) :: r => if (G.2.2.1 p).1 = 102 then (if inb i (G.2.2.1 p).2 then (match G.2.2.2 p i.toNatClampNeg with
      | 0 => none
      | q + 1 => k (pc + 1) ls (.inr (.inl q) :: r) G M) else none) else none
    | _ => none
  | .aastore => match st with
    | .inr (.inl q) :: .inl i :: .inr (.inl p) :: r => if (G.2.2.1 p).1 = 102 ∧ (G.2.2.1 q).1 = 5 then (if al && inb i (G.2.2.1 p).2 then k (pc + 1) ls r (G.1, G.2.1, G.2.2.1, fun c' k' => if c' = p then (if k' = i.toNatClampNeg then q + 1 else G.2.2.2 c' k') else G.2.2.2 c' k') M else none) else none
    | _ => none
  | .arraylength => match st with
    | .inr (.inl p) :: r => if 100 ≤ (G.2.2.1 p).1 then k (pc + 1) ls (.inl (Int32.ofNat (G.2.2.1 p).2) :: r) G M else none
    | .inr (.inr j) :: r => if kKind j = 100 ∨ kKind j = 103 then k (pc + 1) ls (.inl (Int32.ofNat (kLen X j)) :: r) G M else none
    | _ => none
  | .new _ => if al then nwo a b st G M (fun r G' M' => k (pc + 3) ls r G' M') else none
  | .newarray .int => if al then nwa 100 st G M (fun r G' M' => k (pc + 2) ls r G' M') else none
  | .newarray .boolean => if al then nwa 101 st G M (fun r G' M' => k (pc + 2) ls r G' M') else none
  | .anewarray _ => if al then nwa 102 st G M (fun r G' M' => k (pc + 3) ls r G' M') else none
  | .invokestatic _ => if a = 9998 then acp st G M fun r M' => k (pc + 3) ls r G M' else if b ≤ st.length then cll cl al a (st.take b).reverse (st.drop b) (c % 4) G M fun r G' M' => k (pc + 3) ls r G' M' else none
  | .invokevirtual _ => if b < st.length ∧ rcv (c / 4) st[b]? G then cll cl al a (st.take (b + 1)).reverse (st.drop (b + 1)) (c % 4) G M fun r G' M' => k (pc + 3) ls r G' M' else none
  | .invokespecial _ => if a = 9999 then (match st with
      | .inr (.inl _) :: r => if r.length ≤ 8 then k (pc + 3) ls r G M else none
      | _ => none) else if b < st.length ∧ isP st[b]? then cll cl al a (st.take (b + 1)).reverse (st.drop (b + 1)) (c % 4) G M fun r G' M' => k (pc + 3) ls r G' M' else none
  | .ireturn => match st with
    | [.inl x] => if c = 0 then rt x G M else if nrw c x = x then rt x G M else none
    | _ => none
  | .return_ => match st with
    | [] => rt 0 G M
    | _ => none
  | _ => none
def nrm (o : Option (List Bool)) (ls : LSw) : LSw := match o with
  | none => ls
  | some m => List.zipWith (fun b v => if b then v else none) m ls
def stp (mid pc : Nat) : Option (List Bool) := match stpT[mid / 16]? with
  | none => none
  | some l => match l[mid % 16]? with
    | none => none
    | some t => (t.find? (fun e => e.1 == pc)).map (fun e => e.2)
noncomputable def run (X : KXw) (cl : CLw) (mid : Nat) : Nat → Nat → LSw → List PVw → GGw → MMw → Option RRw
  | 0, _, _, _, _, _ => none
  | n + 1, pc, ls, st, G, M => match fetch mid pc with
    | none => none
    | some (_, I, _, a, b, c) => sk X cl (alm mid) pc I a b c ls st G M (fun pc' ls' st' G' M' => run X cl mid n pc' (nrm (stp mid pc') ls') st' G' M') (fun r G' M' => some (r, G', M'))
noncomputable def seg (X : KXw) (cl : CLw) (mid : Nat) : Nat → Nat → LSw → List PVw → GGw → MMw → Option (RRw ⊕ (Nat × LSw × List PVw × GGw × MMw))
  | 0, _, _, _, _, _ => none
  | n + 1, pc, ls, st, G, M => match fetch mid pc with
    | none => none
    | some (_, I, _, a, b, c) => sk X cl (alm mid) pc I a b c ls st G M (fun pc' ls' st' G' M' => match stp mid pc' with
      | none => seg X cl mid n pc' ls' st' G' M'
      | some m => some (.inr (pc', nrm (some m) ls', st', G', M'))) (fun r G' M' => some (.inl (r, G', M')))

abbrev TRw : Type := RRw ⊕ (Nat × LSw × List PVw × GGw × MMw)
noncomputable def stepw (X : KXw) (cl : CLw) (al : Bool) (pc : Nat) (I : Jvm.ClassFile.Instr) (a b c : Nat) (ls : LSw) (st : List PVw) (G : GGw) (M : MMw) : Option TRw :=
  sk X cl al pc I a b c ls st G M (fun pc ls st G M => some (.inr (pc, ls, st, G, M))) (fun x G M => some (.inl (x, G, M)))
def ktr {R : Type} (k : KTw R) (rt : Int32 → GGw → MMw → Option R) (o : TRw) : Option R := match o with
  | .inl (x, G, M) => rt x G M
  | .inr (pc, ls, st, G, M) => k pc ls st G M
theorem swt_nat {R S : Type} (f : S → Option R) (x : Int32) (pc : Nat) (k : Nat → Option S) (d : Option S) : ∀ (os : List Int) (lo : Nat), (swt x pc k d lo os).bind f = swt x pc (fun t => (k t).bind f) (d.bind f) lo os
  | [], _ => rfl
  | o :: os, lo => by
    unfold swt
    split
    · rfl
    · exact swt_nat f x pc k d os (lo + 1)
theorem lwt_nat {R S : Type} (f : S → Option R) (x : Int32) (pc : Nat) (k : Nat → Option S) (d : Option S) : ∀ (os : List (Int × Int)), (lwt x pc k d os).bind f = lwt x pc (fun t => (k t).bind f) (d.bind f) os
  | [] => rfl
  | o :: os => by
    unfold lwt
    split
    · rfl
    · exact lwt_nat f x pc k d os
set_option maxHeartbeats 4000000 in
theorem sk_nat {R : Type} (X : KXw) (cl : CLw) (al : Bool) (pc : Nat) (I : Jvm.ClassFile.Instr) (a b c : Nat) (ls : LSw) (st : List PVw) (G : GGw) (M : MMw) (k : KTw R) (rt : Int32 → GGw → MMw → Option R) :
    sk X cl al pc I a b c ls st G M k rt = (stepw X cl al pc I a b c ls st G M).bind (ktr k rt) := by
  unfold stepw
  cases I
  case iload i => simp only [sk, ldI]; split <;> rfl
  case iload_n i => simp only [sk, ldI]; split <;> rfl
  case aload i => simp only [sk, ldA]; (repeat' split) <;> rfl
  case aload_n i => simp only [sk, ldA]; (repeat' split) <;> rfl
  case istore i => simp only [sk, stI]; (repeat' split) <;> rfl
  case istore_n i => simp only [sk, stI]; (repeat' split) <;> rfl
  case astore i => simp only [sk, stA]; (repeat' split) <;> rfl
  case astore_n i => simp only [sk, stA]; (repeat' split) <;> rfl
  case iinc i n => simp only [sk, ldI]; (repeat' split) <;> rfl
  case iadd => simp only [sk, bin]; split <;> rfl
  case isub => simp only [sk, bin]; split <;> rfl
  case imul => simp only [sk, bin]; split <;> rfl
  case iand => simp only [sk, bin]; split <;> rfl
  case ior => simp only [sk, bin]; split <;> rfl
  case ixor => simp only [sk, bin]; split <;> rfl
  case ishl => simp only [sk, bin]; split <;> rfl
  case ishr => simp only [sk, bin]; split <;> rfl
  case iushr => simp only [sk, bin]; split <;> rfl
  case idiv => simp only [sk]; (repeat' split) <;> rfl
  case irem => simp only [sk]; (repeat' split) <;> rfl
  case ineg => simp only [sk]; (repeat' split) <;> rfl
  case i2c => simp only [sk]; (repeat' split) <;> rfl
  case i2b => simp only [sk]; (repeat' split) <;> rfl
  case ifCond cd o => simp only [sk]; split <;> (try rfl); (cases cd <;> simp only [br0] <;> split <;> rfl)
  case if_icmp cd o => simp only [sk]; split <;> (try rfl); (cases cd <;> simp only [br2] <;> split <;> rfl)
  case tableswitch => simp only [sk]; split <;> (try rfl); rw [swt_nat]; rfl
  case lookupswitch => simp only [sk]; split <;> (try rfl); rw [lwt_nat]; rfl
  case dup => simp only [sk]; (repeat' split) <;> rfl
  case dup2 => simp only [sk]; (repeat' split) <;> rfl
  case pop => simp only [sk]; (repeat' split) <;> rfl
  case getfield => simp only [sk, gfl]; (repeat' split) <;> rfl
  case putfield => simp only [sk, pfl]; (repeat' split) <;> rfl
  case iaload => simp only [sk, ald]; (repeat' split) <;> rfl
  case baload => simp only [sk, ald]; (repeat' split) <;> rfl
  case iastore => simp only [sk, ast]; (repeat' split) <;> rfl
  case bastore => simp only [sk, ast]; (repeat' split) <;> rfl
  case aaload => simp only [sk]; (repeat' split) <;> rfl
  case aastore => simp only [sk]; (repeat' split) <;> rfl
  case arraylength => simp only [sk]; (repeat' split) <;> rfl
  case new => simp only [sk, nwo]; (repeat' split) <;> rfl
  case newarray t => cases t <;> simp only [sk, nwa] <;> (repeat' split) <;> rfl
  case anewarray => simp only [sk, nwa]; (repeat' split) <;> rfl
  case invokestatic => simp only [sk, acp, cll, bnd]; (repeat' split) <;> rfl
  case invokevirtual => simp only [sk, cll, bnd]; (repeat' split) <;> rfl
  case invokespecial => simp only [sk, cll, bnd]; (repeat' split) <;> rfl
  case ireturn => simp only [sk]; (repeat' split) <;> rfl
  case return_ => simp only [sk]; (repeat' split) <;> rfl
  all_goals rfl
end
