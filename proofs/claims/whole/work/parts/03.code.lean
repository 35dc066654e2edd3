section
/-! A small pure machine: places in place of addresses, one memory of ints. -/
abbrev PVw : Type := Int32 ⊕ (Nat ⊕ Nat)
abbrev LSw : Type := List (Option PVw)
abbrev GGw : Type := Nat × Nat × (Nat → Nat × Nat) × (Nat → Nat → Nat)
abbrev MMw : Type := Nat → Nat → Int32
abbrev KXw : Type := Nat × (Nat → Int32)
abbrev RRw : Type := Int32 × GGw × MMw
abbrev CLw : Type := Nat → List PVw → GGw → MMw → Option RRw
abbrev EEw : Type := Nat × Jvm.ClassFile.Instr × Nat × Nat × Nat × Nat
abbrev KTw (R : Type) : Type := Nat → LSw → List PVw → GGw → MMw → Option R
def f0 : Fin 4 := 0
def f1 : Fin 4 := 1
def f2 : Fin 4 := 2
def f3 : Fin 4 := 3
def bytJ : List (List Int32) := [[119, 105, 108, 108, 32, 119, 111, 110, 116, 32, 119, 101, 97, 114, 32, 109, 111, 111, 100, 32, 108, 105, 107, 101, 32, 119, 104, 101, 110, 32, 111, 114, 32, 97, 110, 100, 32, 110, 111, 116, 32, 115, 107, 105, 108, 108, 32, 101, 100, 103, 101, 32, 109, 111, 111, 100, 115, 32, 116, 111, 100, 97, 121, 32, 107, 105, 110, 100, 32, 115, 97, 109, 101, 32, 98, 114, 97, 110, 99, 104, 32, 98, 101, 108, 108, 32, 119, 101, 101, 107, 100, 97, 121, 32, 115, 101, 114, 118, 101, 100, 32, 119, 111, 114, 107, 32, 116, 97, 107, 101, 115, 32, 97, 102, 116, 101, 114, 32, 116, 111, 111, 108, 32, 109, 97, 110, 32, 102, 114, 111, 109, 32, 102, 111, 114, 32], [59, 43, 45, 42, 47, 40, 41, 60, 61, 62], [119, 104, 101, 110], [111, 114], [97, 110, 100], [110, 111, 116], [119, 105, 108, 108], [119, 111, 110, 116], [119, 101, 97, 114], [109, 111, 111, 100], [108, 105, 107, 101], [115, 107, 105, 108, 108], [101, 100, 103, 101], [109, 111, 111, 100, 115], [116, 111, 100, 97, 121], [107, 105, 110, 100], [115, 97, 109, 101], [98, 114, 97, 110, 99, 104], [98, 101, 108, 108], [119, 101, 101, 107, 100, 97, 121], [115, 101, 114, 118, 101, 100], [119, 111, 114, 107], [116, 97, 107, 101, 115], [97, 102, 116, 101, 114], [116, 111, 111, 108], [109, 97, 110], [102, 114, 111, 109], [102, 111, 114]]
def ordJ : List Int32 := [1, 1, 2, 6, 24, 120, 720, 5040]
/-- ToolUnion$Crew.<init>()V -/
def cd_0 : List (List EEw) := [
  [(0, .aload_n f0, 1, 0, 0, 0), (1, .invokespecial 3, 3, 9999, 0, 0), (4, .aload_n f0, 1, 0, 0, 0), (5, .iconst 1, 1, 1, 0, 0), (6, .putfield 9, 3, 0, 3, 0), (9, .aload_n f0, 1, 0, 0, 0), (10, .bipush 8, 2, 8, 0, 0), (12, .newarray .int, 2, 0, 0, 0), (14, .putfield 15, 3, 0, 4, 1)],
  [(17, .aload_n f0, 1, 0, 0, 0), (18, .bipush 8, 2, 8, 0, 0), (20, .newarray .int, 2, 0, 0, 0), (22, .putfield 19, 3, 0, 5, 1), (25, .aload_n f0, 1, 0, 0, 0), (26, .bipush 8, 2, 8, 0, 0), (28, .newarray .int, 2, 0, 0, 0), (30, .putfield 22, 3, 0, 6, 1)],
  [(33, .aload_n f0, 1, 0, 0, 0), (34, .bipush 8, 2, 8, 0, 0), (36, .newarray .int, 2, 0, 0, 0), (38, .putfield 25, 3, 0, 7, 1), (41, .aload_n f0, 1, 0, 0, 0), (42, .bipush 8, 2, 8, 0, 0), (44, .newarray .int, 2, 0, 0, 0), (46, .putfield 28, 3, 0, 8, 1)],
  [(49, .aload_n f0, 1, 0, 0, 0), (50, .iconst 4, 1, 4, 0, 0), (51, .newarray .int, 2, 0, 0, 0), (53, .putfield 31, 3, 0, 9, 1), (56, .aload_n f0, 1, 0, 0, 0), (57, .iconst 4, 1, 4, 0, 0), (58, .newarray .int, 2, 0, 0, 0), (60, .putfield 34, 3, 0, 10, 1), (63, .return_, 1, 0, 0, 0)]]
/-- ToolUnion$Moves.<init>()V -/
def cd_1 : List (List EEw) := [
  [(0, .aload_n f0, 1, 0, 0, 0), (1, .invokespecial 3, 3, 9999, 0, 0), (4, .aload_n f0, 1, 0, 0, 0), (5, .bipush 8, 2, 8, 0, 0), (7, .newarray .int, 2, 0, 0, 0), (9, .putfield 9, 3, 5, 0, 1), (12, .aload_n f0, 1, 0, 0, 0), (13, .bipush 8, 2, 8, 0, 0), (15, .newarray .int, 2, 0, 0, 0)],
  [(17, .putfield 15, 3, 5, 1, 1), (20, .aload_n f0, 1, 0, 0, 0), (21, .bipush 8, 2, 8, 0, 0), (23, .newarray .int, 2, 0, 0, 0), (25, .putfield 18, 3, 5, 2, 1), (28, .aload_n f0, 1, 0, 0, 0), (29, .bipush 8, 2, 8, 0, 0), (31, .newarray .int, 2, 0, 0, 0)],
  [(33, .putfield 21, 3, 5, 3, 1), (36, .aload_n f0, 1, 0, 0, 0), (37, .bipush 8, 2, 8, 0, 0), (39, .newarray .int, 2, 0, 0, 0), (41, .putfield 24, 3, 5, 4, 1), (44, .aload_n f0, 1, 0, 0, 0), (45, .iconst 4, 1, 4, 0, 0), (46, .newarray .int, 2, 0, 0, 0)],
  [(48, .putfield 27, 3, 5, 5, 1), (51, .iconst 0, 1, 0, 0, 0), (52, .istore_n f1, 1, 0, 0, 0), (53, .iload_n f1, 1, 0, 0, 0), (54, .iconst 4, 1, 4, 0, 0), (55, .if_icmp .ge 17, 3, 72, 0, 0), (58, .aload_n f0, 1, 0, 0, 0), (59, .getfield 27, 3, 5, 5, 1), (62, .iload_n f1, 1, 0, 0, 0), (63, .bipush 15, 2, 15, 0, 0)],
  [(65, .iastore, 1, 0, 0, 0), (66, .iinc 1 1, 3, 0, 0, 0), (69, .goto (-16), 3, 53, 0, 0), (72, .return_, 1, 0, 0, 0)]]
/-- ToolUnion$Hull.<init>()V -/
def cd_2 : List (List EEw) := [
  [(0, .aload_n f0, 1, 0, 0, 0), (1, .invokespecial 3, 3, 9999, 0, 0), (4, .aload_n f0, 1, 0, 0, 0), (5, .bipush 8, 2, 8, 0, 0), (7, .newarray .int, 2, 0, 0, 0), (9, .putfield 9, 3, 1, 1, 1), (12, .aload_n f0, 1, 0, 0, 0), (13, .bipush 8, 2, 8, 0, 0), (15, .newarray .int, 2, 0, 0, 0)],
  [(17, .putfield 15, 3, 1, 2, 1), (20, .aload_n f0, 1, 0, 0, 0), (21, .bipush 8, 2, 8, 0, 0), (23, .newarray .int, 2, 0, 0, 0), (25, .putfield 18, 3, 1, 3, 1), (28, .aload_n f0, 1, 0, 0, 0), (29, .bipush 12, 2, 12, 0, 0), (31, .newarray .int, 2, 0, 0, 0)],
  [(33, .putfield 21, 3, 1, 5, 1), (36, .aload_n f0, 1, 0, 0, 0), (37, .bipush 12, 2, 12, 0, 0), (39, .newarray .int, 2, 0, 0, 0), (41, .putfield 24, 3, 1, 6, 1), (44, .aload_n f0, 1, 0, 0, 0), (45, .bipush 8, 2, 8, 0, 0), (47, .newarray .int, 2, 0, 0, 0)],
  [(49, .putfield 27, 3, 1, 7, 1), (52, .aload_n f0, 1, 0, 0, 0), (53, .sipush 256, 3, 256, 0, 0), (56, .newarray .int, 2, 0, 0, 0), (58, .putfield 30, 3, 1, 8, 1), (61, .return_, 1, 0, 0, 0)]]
/-- ToolUnion$Rota.<init>()V -/
def cd_3 : List (List EEw) := [
  [(0, .aload_n f0, 1, 0, 0, 0), (1, .invokespecial 3, 3, 9999, 0, 0), (4, .aload_n f0, 1, 0, 0, 0), (5, .bipush 20, 2, 20, 0, 0), (7, .newarray .int, 2, 0, 0, 0), (9, .putfield 9, 3, 8, 1, 1), (12, .aload_n f0, 1, 0, 0, 0), (13, .bipush 20, 2, 20, 0, 0), (15, .newarray .int, 2, 0, 0, 0)],
  [(17, .putfield 15, 3, 8, 2, 1), (20, .aload_n f0, 1, 0, 0, 0), (21, .bipush 20, 2, 20, 0, 0), (23, .newarray .int, 2, 0, 0, 0), (25, .putfield 18, 3, 8, 3, 1), (28, .aload_n f0, 1, 0, 0, 0), (29, .bipush 20, 2, 20, 0, 0), (31, .newarray .int, 2, 0, 0, 0)],
  [(33, .putfield 21, 3, 8, 4, 1), (36, .aload_n f0, 1, 0, 0, 0), (37, .bipush 20, 2, 20, 0, 0), (39, .newarray .int, 2, 0, 0, 0), (41, .putfield 24, 3, 8, 5, 1), (44, .return_, 1, 0, 0, 0)]]
/-- ToolUnion$Law.<init>()V -/
def cd_4 : List (List EEw) := [
  [(0, .aload_n f0, 1, 0, 0, 0), (1, .invokespecial 3, 3, 9999, 0, 0), (4, .aload_n f0, 1, 0, 0, 0), (5, .bipush 16, 2, 16, 0, 0), (7, .newarray .int, 2, 0, 0, 0), (9, .putfield 9, 3, 3, 2, 1), (12, .aload_n f0, 1, 0, 0, 0), (13, .bipush 16, 2, 16, 0, 0), (15, .newarray .int, 2, 0, 0, 0)],
  [(17, .putfield 15, 3, 3, 3, 1), (20, .aload_n f0, 1, 0, 0, 0), (21, .bipush 16, 2, 16, 0, 0), (23, .newarray .int, 2, 0, 0, 0), (25, .putfield 18, 3, 3, 4, 1), (28, .aload_n f0, 1, 0, 0, 0), (29, .bipush 16, 2, 16, 0, 0), (31, .newarray .int, 2, 0, 0, 0)],
  [(33, .putfield 21, 3, 3, 5, 1), (36, .aload_n f0, 1, 0, 0, 0), (37, .sipush 400, 3, 400, 0, 0), (40, .newarray .int, 2, 0, 0, 0), (42, .putfield 24, 3, 3, 6, 1), (45, .return_, 1, 0, 0, 0)]]
/-- ToolUnion$Yard.<init>()V -/
def cd_5 : List (List EEw) := [
  [(0, .aload_n f0, 1, 0, 0, 0), (1, .invokespecial 3, 3, 9999, 0, 0), (4, .aload_n f0, 1, 0, 0, 0), (5, .new 9, 3, 0, 11, 0), (8, .dup, 1, 0, 0, 0), (9, .invokespecial 11, 3, 0, 0, 2), (12, .putfield 12, 3, 10, 0, 1), (15, .aload_n f0, 1, 0, 0, 0)],
  [(16, .new 18, 3, 5, 10, 0), (19, .dup, 1, 0, 0, 0), (20, .invokespecial 20, 3, 1, 0, 22), (23, .putfield 21, 3, 10, 1, 1), (26, .aload_n f0, 1, 0, 0, 0), (27, .new 25, 3, 1, 9, 0), (30, .dup, 1, 0, 0, 0), (31, .invokespecial 27, 3, 2, 0, 6)],
  [(34, .putfield 28, 3, 10, 2, 1), (37, .aload_n f0, 1, 0, 0, 0), (38, .new 32, 3, 8, 6, 0), (41, .dup, 1, 0, 0, 0), (42, .invokespecial 34, 3, 3, 0, 34), (45, .putfield 35, 3, 10, 3, 1)],
  [(48, .aload_n f0, 1, 0, 0, 0), (49, .new 39, 3, 3, 7, 0), (52, .dup, 1, 0, 0, 0), (53, .invokespecial 41, 3, 4, 0, 14), (56, .putfield 42, 3, 10, 4, 1), (59, .aload_n f0, 1, 0, 0, 0), (60, .new 39, 3, 3, 7, 0), (63, .dup, 1, 0, 0, 0)],
  [(64, .invokespecial 41, 3, 4, 0, 14), (67, .putfield 46, 3, 10, 5, 1), (70, .aload_n f0, 1, 0, 0, 0), (71, .sipush 800, 3, 800, 0, 0), (74, .newarray .int, 2, 0, 0, 0), (76, .putfield 49, 3, 10, 6, 1), (79, .return_, 1, 0, 0, 0)]]
/-- ToolUnion$Reader.<init>()V -/
def cd_6 : List (List EEw) := [
  [(0, .aload_n f0, 1, 0, 0, 0), (1, .invokespecial 3, 3, 9999, 0, 0), (4, .aload_n f0, 1, 0, 0, 0), (5, .sipush 400, 3, 400, 0, 0), (8, .newarray .int, 2, 0, 0, 0), (10, .putfield 9, 3, 7, 0, 1), (13, .aload_n f0, 1, 0, 0, 0), (14, .iconst (-1), 1, 4294967295, 0, 0), (15, .putfield 15, 3, 7, 3, 0)],
  [(18, .aload_n f0, 1, 0, 0, 0), (19, .sipush 401, 3, 401, 0, 0), (22, .newarray .int, 2, 0, 0, 0), (24, .putfield 19, 3, 7, 4, 1), (27, .aload_n f0, 1, 0, 0, 0), (28, .sipush 401, 3, 401, 0, 0), (31, .newarray .int, 2, 0, 0, 0)],
  [(33, .putfield 22, 3, 7, 5, 1), (36, .aload_n f0, 1, 0, 0, 0), (37, .sipush 401, 3, 401, 0, 0), (40, .newarray .int, 2, 0, 0, 0), (42, .putfield 25, 3, 7, 6, 1), (45, .aload_n f0, 1, 0, 0, 0), (46, .new 28, 3, 3, 7, 0)],
  [(49, .dup, 1, 0, 0, 0), (50, .invokespecial 30, 3, 4, 0, 14), (53, .putfield 31, 3, 7, 10, 1), (56, .aload_n f0, 1, 0, 0, 0), (57, .new 35, 3, 1, 9, 0), (60, .dup, 1, 0, 0, 0), (61, .invokespecial 37, 3, 2, 0, 6)],
  [(64, .putfield 38, 3, 7, 11, 1), (67, .aload_n f0, 1, 0, 0, 0), (68, .new 42, 3, 8, 6, 0), (71, .dup, 1, 0, 0, 0), (72, .invokespecial 44, 3, 3, 0, 34), (75, .putfield 45, 3, 7, 12, 1), (78, .return_, 1, 0, 0, 0)]]
/-- ToolUnion$Judge.<init>()V -/
def cd_7 : List (List EEw) := [
  [(0, .aload_n f0, 1, 0, 0, 0), (1, .invokespecial 3, 3, 9999, 0, 0), (4, .aload_n f0, 1, 0, 0, 0), (5, .bipush 64, 2, 64, 0, 0), (7, .newarray .int, 2, 0, 0, 0), (9, .putfield 11, 3, 2, 0, 1), (12, .aload_n f0, 1, 0, 0, 0), (13, .bipush 10, 2, 10, 0, 0), (15, .newarray .int, 2, 0, 0, 0)],
  [(17, .putfield 15, 3, 2, 1, 1), (20, .return_, 1, 0, 0, 0)]]
/-- ToolUnion$Shift.<init>()V -/
def cd_8 : List (List EEw) := [
  [(0, .aload_n f0, 1, 0, 0, 0), (1, .invokespecial 3, 3, 9999, 0, 0), (4, .return_, 1, 0, 0, 0)]]
/-- ToolUnion$Planner.<init>()V -/
def cd_9 : List (List EEw) := [
  [(0, .aload_n f0, 1, 0, 0, 0), (1, .invokespecial 3, 3, 9999, 0, 0), (4, .aload_n f0, 1, 0, 0, 0), (5, .iconst 4, 1, 4, 0, 0), (6, .newarray .int, 2, 0, 0, 0), (8, .putfield 9, 3, 6, 0, 1), (11, .aload_n f0, 1, 0, 0, 0), (12, .bipush 16, 2, 16, 0, 0), (14, .newarray .int, 2, 0, 0, 0)],
  [(16, .putfield 15, 3, 6, 1, 1), (19, .aload_n f0, 1, 0, 0, 0), (20, .bipush 16, 2, 16, 0, 0), (22, .newarray .int, 2, 0, 0, 0), (24, .putfield 18, 3, 6, 2, 1), (27, .aload_n f0, 1, 0, 0, 0), (28, .bipush 8, 2, 8, 0, 0), (30, .newarray .int, 2, 0, 0, 0)],
  [(32, .putfield 21, 3, 6, 3, 1), (35, .aload_n f0, 1, 0, 0, 0), (36, .iconst 4, 1, 4, 0, 0), (37, .newarray .int, 2, 0, 0, 0), (39, .putfield 24, 3, 6, 4, 1), (42, .aload_n f0, 1, 0, 0, 0), (43, .iconst 1, 1, 1, 0, 0), (44, .newarray .int, 2, 0, 0, 0), (46, .putfield 27, 3, 6, 5, 1)],
  [(49, .return_, 1, 0, 0, 0)]]
/-- ToolUnion$Mates.<init>()V -/
def cd_10 : List (List EEw) := [
  [(0, .aload_n f0, 1, 0, 0, 0), (1, .invokespecial 3, 3, 9999, 0, 0), (4, .aload_n f0, 1, 0, 0, 0), (5, .bipush 8, 2, 8, 0, 0), (7, .newarray .int, 2, 0, 0, 0), (9, .putfield 9, 3, 4, 0, 1), (12, .aload_n f0, 1, 0, 0, 0), (13, .iconst 4, 1, 4, 0, 0), (14, .newarray .int, 2, 0, 0, 0)],
  [(16, .putfield 15, 3, 4, 1, 1), (19, .aload_n f0, 1, 0, 0, 0), (20, .iconst 4, 1, 4, 0, 0), (21, .newarray .int, 2, 0, 0, 0), (23, .putfield 18, 3, 4, 2, 1), (26, .aload_n f0, 1, 0, 0, 0), (27, .bipush 8, 2, 8, 0, 0), (29, .newarray .int, 2, 0, 0, 0), (31, .putfield 21, 3, 4, 3, 1)],
  [(34, .return_, 1, 0, 0, 0)]]
/-- ToolUnion.<init>()V -/
def cd_11 : List (List EEw) := [
  [(0, .aload_n f0, 1, 0, 0, 0), (1, .invokespecial 1, 3, 9999, 0, 0), (4, .aload_n f0, 1, 0, 0, 0), (5, .new 7, 3, 10, 7, 0), (8, .dup, 1, 0, 0, 0), (9, .invokespecial 9, 3, 5, 0, 42), (12, .putfield 10, 3, 11, 0, 1), (15, .aload_n f0, 1, 0, 0, 0)],
  [(16, .new 7, 3, 10, 7, 0), (19, .dup, 1, 0, 0, 0), (20, .invokespecial 9, 3, 5, 0, 42), (23, .putfield 16, 3, 11, 1, 1), (26, .aload_n f0, 1, 0, 0, 0), (27, .new 19, 3, 5, 10, 0), (30, .dup, 1, 0, 0, 0), (31, .invokespecial 21, 3, 1, 0, 22)],
  [(34, .putfield 22, 3, 11, 3, 1), (37, .aload_n f0, 1, 0, 0, 0), (38, .bipush 6, 2, 6, 0, 0), (40, .anewarray 19, 3, 0, 0, 0), (43, .putfield 26, 3, 11, 4, 1), (46, .aload_n f0, 1, 0, 0, 0), (47, .new 30, 3, 7, 13, 0)],
  [(50, .dup, 1, 0, 0, 0), (51, .invokespecial 32, 3, 6, 0, 30), (54, .putfield 33, 3, 11, 7, 1), (57, .aload_n f0, 1, 0, 0, 0), (58, .new 37, 3, 2, 2, 0), (61, .dup, 1, 0, 0, 0), (62, .invokespecial 39, 3, 7, 0, 10)],
  [(65, .putfield 40, 3, 11, 8, 1), (68, .aload_n f0, 1, 0, 0, 0), (69, .new 44, 3, 9, 7, 0), (72, .dup, 1, 0, 0, 0), (73, .invokespecial 46, 3, 8, 0, 38), (76, .putfield 47, 3, 11, 9, 1), (79, .aload_n f0, 1, 0, 0, 0)],
  [(80, .new 51, 3, 6, 7, 0), (83, .dup, 1, 0, 0, 0), (84, .invokespecial 53, 3, 9, 0, 26), (87, .putfield 54, 3, 11, 10, 1), (90, .aload_n f0, 1, 0, 0, 0), (91, .new 58, 3, 4, 4, 0), (94, .dup, 1, 0, 0, 0), (95, .invokespecial 60, 3, 10, 0, 18)],
  [(98, .putfield 61, 3, 11, 11, 1), (101, .iconst 0, 1, 0, 0, 0), (102, .istore_n f1, 1, 0, 0, 0), (103, .iload_n f1, 1, 0, 0, 0), (104, .bipush 6, 2, 6, 0, 0), (106, .if_icmp .ge 22, 3, 128, 0, 0), (109, .aload_n f0, 1, 0, 0, 0), (110, .getfield 26, 3, 11, 4, 1)],
  [(113, .iload_n f1, 1, 0, 0, 0), (114, .new 19, 3, 5, 10, 0), (117, .dup, 1, 0, 0, 0), (118, .invokespecial 21, 3, 1, 0, 22), (121, .aastore, 1, 0, 0, 0), (122, .iinc 1 1, 3, 0, 0, 0), (125, .goto (-22), 3, 103, 0, 0)],
  [(128, .return_, 1, 0, 0, 0)]]
/-- ToolUnionModel.<init>()V -/
def cd_12_0 : List (List EEw) := [
  [(0, .aload_n f0, 1, 0, 0, 0), (1, .invokespecial 1, 3, 9999, 0, 0), (4, .aload_n f0, 1, 0, 0, 0), (5, .sipush 2834, 3, 2834, 0, 0), (8, .newarray .int, 2, 0, 0, 0), (10, .putfield 7, 3, 12, 0, 1), (13, .aload_n f0, 1, 0, 0, 0), (14, .sipush 2834, 3, 2834, 0, 0)],
  [(17, .newarray .int, 2, 0, 0, 0), (19, .putfield 13, 3, 12, 1, 1), (22, .aload_n f0, 1, 0, 0, 0), (23, .sipush 576, 3, 576, 0, 0), (26, .newarray .int, 2, 0, 0, 0), (28, .putfield 16, 3, 12, 2, 1), (31, .aload_n f0, 1, 0, 0, 0)],
  [(32, .bipush 96, 2, 96, 0, 0), (34, .newarray .int, 2, 0, 0, 0), (36, .putfield 19, 3, 12, 3, 1), (39, .aload_n f0, 1, 0, 0, 0), (40, .bipush 64, 2, 64, 0, 0), (42, .newarray .int, 2, 0, 0, 0), (44, .putfield 22, 3, 12, 6, 1), (47, .aload_n f0, 1, 0, 0, 0)],
  [(48, .sipush 820, 3, 820, 0, 0), (51, .newarray .int, 2, 0, 0, 0), (53, .putfield 25, 3, 12, 7, 1), (56, .aload_n f0, 1, 0, 0, 0), (57, .bipush 100, 2, 100, 0, 0), (59, .newarray .int, 2, 0, 0, 0), (61, .putfield 28, 3, 12, 8, 1)],
  [(64, .aload_n f0, 1, 0, 0, 0), (65, .sipush 400, 3, 400, 0, 0), (68, .newarray .int, 2, 0, 0, 0), (70, .putfield 31, 3, 12, 9, 1), (73, .aload_n f0, 1, 0, 0, 0), (74, .sipush 420, 3, 420, 0, 0), (77, .newarray .int, 2, 0, 0, 0), (79, .putfield 34, 3, 12, 10, 1)],
  [(82, .aload_n f0, 1, 0, 0, 0), (83, .bipush 11, 2, 11, 0, 0), (85, .newarray .int, 2, 0, 0, 0), (87, .putfield 37, 3, 12, 11, 1), (90, .aload_n f0, 1, 0, 0, 0), (91, .iconst (-1), 1, 4294967295, 0, 0), (92, .putfield 40, 3, 12, 25, 0), (95, .aload_n f0, 1, 0, 0, 0)],
  [(96, .sipush 256, 3, 256, 0, 0), (99, .newarray .boolean, 2, 0, 0, 0), (101, .putfield 44, 3, 12, 31, 1), (104, .aload_n f0, 1, 0, 0, 0), (105, .sipush 4096, 3, 4096, 0, 0), (108, .newarray .boolean, 2, 0, 0, 0), (110, .putfield 48, 3, 12, 32, 1)],
  [(113, .aload_n f0, 1, 0, 0, 0), (114, .bipush 32, 2, 32, 0, 0), (116, .newarray .boolean, 2, 0, 0, 0), (118, .putfield 51, 3, 12, 33, 1), (121, .aload_n f0, 1, 0, 0, 0), (122, .ldc 54, 2, 65536, 0, 0), (124, .newarray .int, 2, 0, 0, 0), (126, .putfield 55, 3, 12, 34, 1)],
  [(129, .aload_n f0, 1, 0, 0, 0), (130, .bipush 8, 2, 8, 0, 0), (132, .newarray .int, 2, 0, 0, 0), (134, .putfield 58, 3, 12, 35, 1), (137, .aload_n f0, 1, 0, 0, 0), (138, .iconst 4, 1, 4, 0, 0), (139, .newarray .int, 2, 0, 0, 0), (141, .putfield 61, 3, 12, 36, 1)],
  [(144, .aload_n f0, 1, 0, 0, 0), (145, .bipush 8, 2, 8, 0, 0), (147, .newarray .int, 2, 0, 0, 0), (149, .putfield 64, 3, 12, 37, 1), (152, .aload_n f0, 1, 0, 0, 0), (153, .sipush 256, 3, 256, 0, 0), (156, .newarray .int, 2, 0, 0, 0), (158, .putfield 67, 3, 12, 38, 1)],
  [(161, .aload_n f0, 1, 0, 0, 0), (162, .getfield 7, 3, 12, 0, 1), (165, .bipush 103, 2, 103, 0, 0), (167, .iconst 1, 1, 1, 0, 0), (168, .iastore, 1, 0, 0, 0), (169, .iconst 0, 1, 0, 0, 0), (170, .istore_n f1, 1, 0, 0, 0), (171, .iload_n f1, 1, 0, 0, 0), (172, .iconst 4, 1, 4, 0, 0), (173, .if_icmp .ge 19, 3, 192, 0, 0)],
  [(176, .aload_n f0, 1, 0, 0, 0), (177, .getfield 7, 3, 12, 0, 1), (180, .iconst 4, 1, 4, 0, 0), (181, .iload_n f1, 1, 0, 0, 0), (182, .iadd, 1, 0, 0, 0), (183, .bipush 15, 2, 15, 0, 0), (185, .iastore, 1, 0, 0, 0), (186, .iinc 1 1, 3, 0, 0, 0), (189, .goto (-18), 3, 171, 0, 0)]]
def cd_12_1 : List (List EEw) := [
  [(192, .return_, 1, 0, 0, 0)]]
def cd_12 : List (List EEw) := cd_12_0 ++ (cd_12_1)
/-- ToolUnion.forget()V -/
def cd_13 : List (List EEw) := [
  [(0, .aload_n f0, 1, 0, 0, 0), (1, .iconst 0, 1, 0, 0, 0), (2, .putfield 403, 3, 11, 5, 0), (5, .return_, 1, 0, 0, 0)]]
/-- ToolUnion.state(I)I -/
def cd_14 : List (List EEw) := [
  [(0, .aload_n f0, 1, 0, 0, 0), (1, .getfield 10, 3, 11, 0, 1), (4, .getfield 65, 3, 10, 1, 1), (7, .getfield 68, 3, 5, 7, 0), (10, .istore_n f2, 1, 0, 0, 0), (11, .aload_n f0, 1, 0, 0, 0), (12, .getfield 10, 3, 11, 0, 1), (15, .getfield 65, 3, 10, 1, 1)],
  [(18, .iload_n f1, 1, 0, 0, 0), (19, .putfield 68, 3, 5, 7, 0), (22, .aload_n f0, 1, 0, 0, 0), (23, .invokevirtual 72, 3, 13, 0, 44), (26, .iload_n f2, 1, 0, 0, 0), (27, .ireturn, 1, 0, 0, 0)]]
/-- ToolUnionModel.forgets()V -/
def cd_15 : List (List EEw) := [
  [(0, .aload_n f0, 1, 0, 0, 0), (1, .iconst 0, 1, 0, 0, 0), (2, .putfield 81, 3, 12, 4, 0), (5, .return_, 1, 0, 0, 0)]]
/-- ToolUnionModel.state(I)I -/
def cd_16 : List (List EEw) := [
  [(0, .aload_n f0, 1, 0, 0, 0), (1, .getfield 7, 3, 12, 0, 1), (4, .iconst 3, 1, 3, 0, 0), (5, .iaload, 1, 0, 0, 0), (6, .istore_n f2, 1, 0, 0, 0), (7, .aload_n f0, 1, 0, 0, 0), (8, .getfield 7, 3, 12, 0, 1), (11, .iconst 3, 1, 3, 0, 0), (12, .iload_n f1, 1, 0, 0, 0), (13, .iastore, 1, 0, 0, 0), (14, .aload_n f0, 1, 0, 0, 0), (15, .invokevirtual 84, 3, 15, 0, 48)],
  [(18, .iload_n f2, 1, 0, 0, 0), (19, .ireturn, 1, 0, 0, 0)]]
/-- ToolUnion.isWithin(II)Z -/
def cd_17 : List (List EEw) := [
  [(0, .iload_n f0, 1, 0, 0, 0), (1, .ifCond .lt 12, 3, 13, 0, 0), (4, .iload_n f0, 1, 0, 0, 0), (5, .iload_n f1, 1, 0, 0, 0), (6, .if_icmp .gt 7, 3, 13, 0, 0), (9, .iconst 1, 1, 1, 0, 0), (10, .goto 4, 3, 14, 0, 0), (13, .iconst 0, 1, 0, 0, 0), (14, .ireturn, 1, 0, 0, 1)]]
/-- ToolUnion$Moves.begin(I)V -/
def cd_18 : List (List EEw) := [
  [(0, .aload_n f0, 1, 0, 0, 0), (1, .getfield 9, 3, 5, 0, 1), (4, .iload_n f1, 1, 0, 0, 0), (5, .bipush 60, 2, 60, 0, 0), (7, .iastore, 1, 0, 0, 0), (8, .aload_n f0, 1, 0, 0, 0), (9, .getfield 15, 3, 5, 1, 1), (12, .iload_n f1, 1, 0, 0, 0), (13, .bipush 50, 2, 50, 0, 0), (15, .iastore, 1, 0, 0, 0)],
  [(16, .aload_n f0, 1, 0, 0, 0), (17, .getfield 18, 3, 5, 2, 1), (20, .iload_n f1, 1, 0, 0, 0), (21, .iconst 0, 1, 0, 0, 0), (22, .iastore, 1, 0, 0, 0), (23, .aload_n f0, 1, 0, 0, 0), (24, .getfield 21, 3, 5, 3, 1), (27, .iload_n f1, 1, 0, 0, 0), (28, .iconst 0, 1, 0, 0, 0), (29, .iastore, 1, 0, 0, 0), (30, .return_, 1, 0, 0, 0)]]
/-- ToolUnion.tool(III)I -/
def cd_19 : List (List EEw) := [
  [(0, .aload_n f0, 1, 0, 0, 0), (1, .getfield 10, 3, 11, 0, 1), (4, .getfield 75, 3, 10, 0, 1), (7, .astore 4, 2, 0, 0, 0), (9, .aload 4, 2, 0, 0, 0), (11, .getfield 79, 3, 0, 0, 0), (14, .istore 5, 2, 0, 0, 0)],
  [(16, .iload 5, 2, 0, 0, 0), (18, .bipush 8, 2, 8, 0, 0), (20, .if_icmp .ge 27, 3, 47, 0, 0), (23, .iload_n f1, 1, 0, 0, 0), (24, .iconst 3, 1, 3, 0, 0), (25, .invokestatic 84, 3, 17, 2, 1), (28, .ifCond .eq 19, 3, 47, 0, 0), (31, .iload_n f2, 1, 0, 0, 0)],
  [(32, .iconst 3, 1, 3, 0, 0), (33, .invokestatic 84, 3, 17, 2, 1), (36, .ifCond .eq 11, 3, 47, 0, 0), (39, .iload_n f3, 1, 0, 0, 0), (40, .iconst 1, 1, 1, 0, 0), (41, .invokestatic 84, 3, 17, 2, 1), (44, .ifCond .ne 5, 3, 49, 0, 0), (47, .iconst (-1), 1, 4294967295, 0, 0)],
  [(48, .ireturn, 1, 0, 0, 0), (49, .aload 4, 2, 0, 0, 0), (51, .getfield 88, 3, 0, 4, 1), (54, .iload 5, 2, 0, 0, 0), (56, .iload_n f1, 1, 0, 0, 0), (57, .iastore, 1, 0, 0, 0), (58, .aload 4, 2, 0, 0, 0), (60, .getfield 92, 3, 0, 5, 1), (63, .iload 5, 2, 0, 0, 0)],
  [(65, .iload_n f2, 1, 0, 0, 0), (66, .iastore, 1, 0, 0, 0), (67, .aload 4, 2, 0, 0, 0), (69, .getfield 95, 3, 0, 6, 1), (72, .iload 5, 2, 0, 0, 0), (74, .iload_n f3, 1, 0, 0, 0), (75, .iastore, 1, 0, 0, 0), (76, .aload 4, 2, 0, 0, 0), (78, .getfield 98, 3, 0, 7, 1)],
  [(81, .iload 5, 2, 0, 0, 0), (83, .iconst 1, 1, 1, 0, 0), (84, .iastore, 1, 0, 0, 0), (85, .aload 4, 2, 0, 0, 0), (87, .getfield 101, 3, 0, 8, 1), (90, .iload 5, 2, 0, 0, 0), (92, .bipush 7, 2, 7, 0, 0), (94, .iastore, 1, 0, 0, 0), (95, .aload 4, 2, 0, 0, 0)],
  [(97, .iload 5, 2, 0, 0, 0), (99, .iconst 1, 1, 1, 0, 0), (100, .iadd, 1, 0, 0, 0), (101, .putfield 79, 3, 0, 0, 0), (104, .aload_n f0, 1, 0, 0, 0), (105, .getfield 10, 3, 11, 0, 1), (108, .getfield 65, 3, 10, 1, 1), (111, .iload 5, 2, 0, 0, 0)],
  [(113, .invokevirtual 104, 3, 18, 1, 20), (116, .aload_n f0, 1, 0, 0, 0), (117, .invokevirtual 72, 3, 13, 0, 44), (120, .iload 5, 2, 0, 0, 0), (122, .ireturn, 1, 0, 0, 0)]]
/-- ToolUnionModel.isIn(III)Z -/
def cd_20 : List (List EEw) := [
  [(0, .iload_n f0, 1, 0, 0, 0), (1, .iload_n f1, 1, 0, 0, 0), (2, .if_icmp .lt 12, 3, 14, 0, 0), (5, .iload_n f0, 1, 0, 0, 0), (6, .iload_n f2, 1, 0, 0, 0), (7, .if_icmp .gt 7, 3, 14, 0, 0), (10, .iconst 1, 1, 1, 0, 0), (11, .goto 4, 3, 15, 0, 0), (14, .iconst 0, 1, 0, 0, 0), (15, .ireturn, 1, 0, 0, 1)]]
/-- ToolUnionModel.tools(III)V -/
def cd_21 : List (List EEw) := [
  [(0, .aload_n f0, 1, 0, 0, 0), (1, .getfield 7, 3, 12, 0, 1), (4, .bipush 16, 2, 16, 0, 0), (6, .bipush 10, 2, 10, 0, 0), (8, .iload_n f1, 1, 0, 0, 0), (9, .imul, 1, 0, 0, 0), (10, .iadd, 1, 0, 0, 0), (11, .iload_n f2, 1, 0, 0, 0), (12, .iadd, 1, 0, 0, 0), (13, .iload_n f3, 1, 0, 0, 0), (14, .iastore, 1, 0, 0, 0), (15, .return_, 1, 0, 0, 0)]]
/-- ToolUnionModel.tool(III)I -/
def cd_22 : List (List EEw) := [
  [(0, .iload_n f1, 1, 0, 0, 0), (1, .iconst 0, 1, 0, 0, 0), (2, .iconst 3, 1, 3, 0, 0), (3, .invokestatic 77, 3, 20, 3, 1), (6, .ifCond .eq 33, 3, 39, 0, 0), (9, .iload_n f2, 1, 0, 0, 0), (10, .iconst 0, 1, 0, 0, 0), (11, .iconst 3, 1, 3, 0, 0), (12, .invokestatic 77, 3, 20, 3, 1), (15, .ifCond .eq 24, 3, 39, 0, 0)],
  [(18, .iload_n f3, 1, 0, 0, 0), (19, .iconst 0, 1, 0, 0, 0), (20, .iconst 1, 1, 1, 0, 0), (21, .invokestatic 77, 3, 20, 3, 1), (24, .ifCond .eq 15, 3, 39, 0, 0), (27, .aload_n f0, 1, 0, 0, 0), (28, .getfield 7, 3, 12, 0, 1), (31, .bipush 96, 2, 96, 0, 0)],
  [(33, .iaload, 1, 0, 0, 0), (34, .bipush 8, 2, 8, 0, 0), (36, .if_icmp .ne 5, 3, 41, 0, 0), (39, .iconst (-1), 1, 4294967295, 0, 0), (40, .ireturn, 1, 0, 0, 0), (41, .aload_n f0, 1, 0, 0, 0), (42, .getfield 7, 3, 12, 0, 1), (45, .bipush 96, 2, 96, 0, 0), (47, .iaload, 1, 0, 0, 0)],
  [(48, .istore 4, 2, 0, 0, 0), (50, .aload_n f0, 1, 0, 0, 0), (51, .iload 4, 2, 0, 0, 0), (53, .iconst 0, 1, 0, 0, 0), (54, .iload_n f1, 1, 0, 0, 0), (55, .invokevirtual 89, 3, 21, 3, 48), (58, .aload_n f0, 1, 0, 0, 0), (59, .iload 4, 2, 0, 0, 0), (61, .iconst 1, 1, 1, 0, 0), (62, .iload_n f2, 1, 0, 0, 0), (63, .invokevirtual 89, 3, 21, 3, 48)],
  [(66, .aload_n f0, 1, 0, 0, 0), (67, .iload 4, 2, 0, 0, 0), (69, .iconst 2, 1, 2, 0, 0), (70, .iload_n f3, 1, 0, 0, 0), (71, .invokevirtual 89, 3, 21, 3, 48), (74, .aload_n f0, 1, 0, 0, 0), (75, .iload 4, 2, 0, 0, 0), (77, .iconst 3, 1, 3, 0, 0), (78, .bipush 60, 2, 60, 0, 0)],
  [(80, .invokevirtual 89, 3, 21, 3, 48), (83, .aload_n f0, 1, 0, 0, 0), (84, .iload 4, 2, 0, 0, 0), (86, .iconst 4, 1, 4, 0, 0), (87, .bipush 50, 2, 50, 0, 0), (89, .invokevirtual 89, 3, 21, 3, 48), (92, .aload_n f0, 1, 0, 0, 0), (93, .iload 4, 2, 0, 0, 0), (95, .iconst 5, 1, 5, 0, 0)],
  [(96, .iconst 1, 1, 1, 0, 0), (97, .invokevirtual 89, 3, 21, 3, 48), (100, .aload_n f0, 1, 0, 0, 0), (101, .iload 4, 2, 0, 0, 0), (103, .bipush 6, 2, 6, 0, 0), (105, .bipush 7, 2, 7, 0, 0), (107, .invokevirtual 89, 3, 21, 3, 48), (110, .aload_n f0, 1, 0, 0, 0), (111, .iload 4, 2, 0, 0, 0)],
  [(113, .bipush 7, 2, 7, 0, 0), (115, .iconst 0, 1, 0, 0, 0), (116, .invokevirtual 89, 3, 21, 3, 48), (119, .aload_n f0, 1, 0, 0, 0), (120, .iload 4, 2, 0, 0, 0), (122, .bipush 8, 2, 8, 0, 0), (124, .iconst 0, 1, 0, 0, 0), (125, .invokevirtual 89, 3, 21, 3, 48)],
  [(128, .aload_n f0, 1, 0, 0, 0), (129, .iload 4, 2, 0, 0, 0), (131, .bipush 9, 2, 9, 0, 0), (133, .iconst 0, 1, 0, 0, 0), (134, .invokevirtual 89, 3, 21, 3, 48), (137, .aload_n f0, 1, 0, 0, 0), (138, .getfield 7, 3, 12, 0, 1), (141, .bipush 96, 2, 96, 0, 0), (143, .dup2, 1, 0, 0, 0)],
  [(144, .iaload, 1, 0, 0, 0), (145, .iconst 1, 1, 1, 0, 0), (146, .iadd, 1, 0, 0, 0), (147, .iastore, 1, 0, 0, 0), (148, .aload_n f0, 1, 0, 0, 0), (149, .invokevirtual 84, 3, 15, 0, 48), (152, .iload 4, 2, 0, 0, 0), (154, .ireturn, 1, 0, 0, 0)]]
/-- ToolUnion.man(II)I -/
def cd_23 : List (List EEw) := [
  [(0, .aload_n f0, 1, 0, 0, 0), (1, .getfield 10, 3, 11, 0, 1), (4, .getfield 75, 3, 10, 0, 1), (7, .astore_n f3, 1, 0, 0, 0), (8, .aload_n f3, 1, 0, 0, 0), (9, .getfield 108, 3, 0, 1, 0), (12, .istore 4, 2, 0, 0, 0), (14, .iload 4, 2, 0, 0, 0)],
  [(16, .iconst 4, 1, 4, 0, 0), (17, .if_icmp .ge 20, 3, 37, 0, 0), (20, .iload_n f1, 1, 0, 0, 0), (21, .bipush 99, 2, 99, 0, 0), (23, .invokestatic 84, 3, 17, 2, 1), (26, .ifCond .eq 11, 3, 37, 0, 0), (29, .iload_n f2, 1, 0, 0, 0), (30, .iconst 1, 1, 1, 0, 0), (31, .invokestatic 84, 3, 17, 2, 1)],
  [(34, .ifCond .ne 5, 3, 39, 0, 0), (37, .iconst (-1), 1, 4294967295, 0, 0), (38, .ireturn, 1, 0, 0, 0), (39, .aload_n f3, 1, 0, 0, 0), (40, .getfield 111, 3, 0, 9, 1), (43, .iload 4, 2, 0, 0, 0), (45, .iload_n f1, 1, 0, 0, 0), (46, .iastore, 1, 0, 0, 0), (47, .aload_n f3, 1, 0, 0, 0)],
  [(48, .getfield 114, 3, 0, 10, 1), (51, .iload 4, 2, 0, 0, 0), (53, .iload_n f2, 1, 0, 0, 0), (54, .iastore, 1, 0, 0, 0), (55, .aload_n f3, 1, 0, 0, 0), (56, .iload 4, 2, 0, 0, 0), (58, .iconst 1, 1, 1, 0, 0), (59, .iadd, 1, 0, 0, 0), (60, .putfield 108, 3, 0, 1, 0), (63, .aload_n f0, 1, 0, 0, 0)],
  [(64, .invokevirtual 72, 3, 13, 0, 44), (67, .iload 4, 2, 0, 0, 0), (69, .ireturn, 1, 0, 0, 0)]]
/-- ToolUnionModel.man(II)I -/
def cd_24 : List (List EEw) := [
  [(0, .iload_n f1, 1, 0, 0, 0), (1, .iconst 0, 1, 0, 0, 0), (2, .bipush 99, 2, 99, 0, 0), (4, .invokestatic 77, 3, 20, 3, 1), (7, .ifCond .eq 23, 3, 30, 0, 0), (10, .iload_n f2, 1, 0, 0, 0), (11, .iconst 0, 1, 0, 0, 0), (12, .iconst 1, 1, 1, 0, 0), (13, .invokestatic 77, 3, 20, 3, 1)],
  [(16, .ifCond .eq 14, 3, 30, 0, 0), (19, .aload_n f0, 1, 0, 0, 0), (20, .getfield 7, 3, 12, 0, 1), (23, .bipush 97, 2, 97, 0, 0), (25, .iaload, 1, 0, 0, 0), (26, .iconst 4, 1, 4, 0, 0), (27, .if_icmp .ne 5, 3, 32, 0, 0), (30, .iconst (-1), 1, 4294967295, 0, 0), (31, .ireturn, 1, 0, 0, 0)],
  [(32, .aload_n f0, 1, 0, 0, 0), (33, .getfield 7, 3, 12, 0, 1), (36, .bipush 97, 2, 97, 0, 0), (38, .iaload, 1, 0, 0, 0), (39, .istore_n f3, 1, 0, 0, 0), (40, .aload_n f0, 1, 0, 0, 0), (41, .getfield 7, 3, 12, 0, 1), (44, .sipush 130, 3, 130, 0, 0), (47, .iconst 2, 1, 2, 0, 0)],
  [(48, .iload_n f3, 1, 0, 0, 0), (49, .imul, 1, 0, 0, 0), (50, .iadd, 1, 0, 0, 0), (51, .iconst 0, 1, 0, 0, 0), (52, .iadd, 1, 0, 0, 0), (53, .iload_n f1, 1, 0, 0, 0), (54, .iastore, 1, 0, 0, 0), (55, .aload_n f0, 1, 0, 0, 0), (56, .getfield 7, 3, 12, 0, 1), (59, .sipush 130, 3, 130, 0, 0), (62, .iconst 2, 1, 2, 0, 0), (63, .iload_n f3, 1, 0, 0, 0)],
  [(64, .imul, 1, 0, 0, 0), (65, .iadd, 1, 0, 0, 0), (66, .iconst 1, 1, 1, 0, 0), (67, .iadd, 1, 0, 0, 0), (68, .iload_n f2, 1, 0, 0, 0), (69, .iastore, 1, 0, 0, 0), (70, .aload_n f0, 1, 0, 0, 0), (71, .getfield 7, 3, 12, 0, 1), (74, .bipush 97, 2, 97, 0, 0), (76, .dup2, 1, 0, 0, 0), (77, .iaload, 1, 0, 0, 0), (78, .iconst 1, 1, 1, 0, 0), (79, .iadd, 1, 0, 0, 0)],
  [(80, .iastore, 1, 0, 0, 0), (81, .aload_n f0, 1, 0, 0, 0), (82, .invokevirtual 84, 3, 15, 0, 48), (85, .iload_n f3, 1, 0, 0, 0), (86, .ireturn, 1, 0, 0, 0)]]
/-- ToolUnion.isTool(I)Z -/
def cd_25 : List (List EEw) := [
  [(0, .iload_n f1, 1, 0, 0, 0), (1, .ifCond .lt 27, 3, 28, 0, 0), (4, .iload_n f1, 1, 0, 0, 0), (5, .aload_n f0, 1, 0, 0, 0), (6, .getfield 10, 3, 11, 0, 1), (9, .getfield 75, 3, 10, 0, 1), (12, .getfield 79, 3, 0, 0, 0), (15, .if_icmp .ge 13, 3, 28, 0, 0)],
  [(18, .iload_n f1, 1, 0, 0, 0), (19, .bipush 8, 2, 8, 0, 0), (21, .if_icmp .ge 7, 3, 28, 0, 0), (24, .iconst 1, 1, 1, 0, 0), (25, .goto 4, 3, 29, 0, 0), (28, .iconst 0, 1, 0, 0, 0), (29, .ireturn, 1, 0, 0, 1)]]
/-- ToolUnion.isMan(I)Z -/
def cd_26 : List (List EEw) := [
  [(0, .iload_n f1, 1, 0, 0, 0), (1, .ifCond .lt 26, 3, 27, 0, 0), (4, .iload_n f1, 1, 0, 0, 0), (5, .aload_n f0, 1, 0, 0, 0), (6, .getfield 10, 3, 11, 0, 1), (9, .getfield 75, 3, 10, 0, 1), (12, .getfield 108, 3, 0, 1, 0), (15, .if_icmp .ge 12, 3, 27, 0, 0)],
  [(18, .iload_n f1, 1, 0, 0, 0), (19, .iconst 4, 1, 4, 0, 0), (20, .if_icmp .ge 7, 3, 27, 0, 0), (23, .iconst 1, 1, 1, 0, 0), (24, .goto 4, 3, 28, 0, 0), (27, .iconst 0, 1, 0, 0, 0), (28, .ireturn, 1, 0, 0, 1)]]
/-- ToolUnion.canSet(III)Z -/
def cd_27 : List (List EEw) := [
  [(0, .iload_n f1, 1, 0, 0, 0), (1, .tableswitch 160 0 6 #[43, 43, 66, 89, 112, 135, 143], 43, 0, 161, 0)],
  [],
  [(44, .aload_n f0, 1, 0, 0, 0), (45, .iload_n f2, 1, 0, 0, 0), (46, .invokevirtual 125, 3, 25, 1, 45)],
  [(49, .ifCond .eq 16, 3, 65, 0, 0), (52, .iload_n f3, 1, 0, 0, 0), (53, .bipush 99, 2, 99, 0, 0), (55, .invokestatic 84, 3, 17, 2, 1), (58, .ifCond .eq 7, 3, 65, 0, 0), (61, .iconst 1, 1, 1, 0, 0), (62, .goto 4, 3, 66, 0, 0)],
  [(65, .iconst 0, 1, 0, 0, 0), (66, .ireturn, 1, 0, 0, 1), (67, .aload_n f0, 1, 0, 0, 0), (68, .iload_n f2, 1, 0, 0, 0), (69, .invokevirtual 125, 3, 25, 1, 45), (72, .ifCond .eq 16, 3, 88, 0, 0), (75, .iload_n f3, 1, 0, 0, 0), (76, .bipush 9, 2, 9, 0, 0), (78, .invokestatic 84, 3, 17, 2, 1)],
  [(81, .ifCond .eq 7, 3, 88, 0, 0), (84, .iconst 1, 1, 1, 0, 0), (85, .goto 4, 3, 89, 0, 0), (88, .iconst 0, 1, 0, 0, 0), (89, .ireturn, 1, 0, 0, 1), (90, .aload_n f0, 1, 0, 0, 0), (91, .iload_n f2, 1, 0, 0, 0), (92, .invokevirtual 125, 3, 25, 1, 45), (95, .ifCond .eq 16, 3, 111, 0, 0)],
  [(98, .iload_n f3, 1, 0, 0, 0), (99, .bipush 7, 2, 7, 0, 0), (101, .invokestatic 84, 3, 17, 2, 1), (104, .ifCond .eq 7, 3, 111, 0, 0), (107, .iconst 1, 1, 1, 0, 0), (108, .goto 4, 3, 112, 0, 0), (111, .iconst 0, 1, 0, 0, 0)],
  [(112, .ireturn, 1, 0, 0, 1), (113, .aload_n f0, 1, 0, 0, 0), (114, .iload_n f2, 1, 0, 0, 0), (115, .invokevirtual 129, 3, 26, 1, 45), (118, .ifCond .eq 16, 3, 134, 0, 0), (121, .iload_n f3, 1, 0, 0, 0), (122, .bipush 99, 2, 99, 0, 0), (124, .invokestatic 84, 3, 17, 2, 1), (127, .ifCond .eq 7, 3, 134, 0, 0)],
  [(130, .iconst 1, 1, 1, 0, 0), (131, .goto 4, 3, 135, 0, 0), (134, .iconst 0, 1, 0, 0, 0), (135, .ireturn, 1, 0, 0, 1), (136, .iload_n f3, 1, 0, 0, 0), (137, .sipush 1000, 3, 1000, 0, 0), (140, .invokestatic 84, 3, 17, 2, 1), (143, .ireturn, 1, 0, 0, 1)],
  [(144, .iload_n f3, 1, 0, 0, 0), (145, .iconst 1, 1, 1, 0, 0), (146, .if_icmp .lt 13, 3, 159, 0, 0), (149, .iload_n f3, 1, 0, 0, 0), (150, .bipush 80, 2, 80, 0, 0), (152, .if_icmp .gt 7, 3, 159, 0, 0), (155, .iconst 1, 1, 1, 0, 0), (156, .goto 4, 3, 160, 0, 0), (159, .iconst 0, 1, 0, 0, 0)],
  [(160, .ireturn, 1, 0, 0, 1), (161, .iconst 0, 1, 0, 0, 0), (162, .ireturn, 1, 0, 0, 1)]]
/-- ToolUnion.change(III)V -/
def cd_28 : List (List EEw) := [
  [(0, .iload_n f2, 1, 0, 0, 0), (1, .bipush 7, 2, 7, 0, 0), (3, .iand, 1, 0, 0, 0), (4, .istore 4, 2, 0, 0, 0), (6, .iload_n f1, 1, 0, 0, 0), (7, .tableswitch 137 0 5 #[37, 54, 71, 88, 105, 123], 37, 0, 144, 0)],
  [],
  [(44, .aload_n f0, 1, 0, 0, 0), (45, .getfield 10, 3, 11, 0, 1)],
  [(48, .getfield 65, 3, 10, 1, 1), (51, .getfield 132, 3, 5, 0, 1), (54, .iload 4, 2, 0, 0, 0), (56, .iload_n f3, 1, 0, 0, 0), (57, .iastore, 1, 0, 0, 0), (58, .goto 97, 3, 155, 0, 0), (61, .aload_n f0, 1, 0, 0, 0), (62, .getfield 10, 3, 11, 0, 1)],
  [(65, .getfield 65, 3, 10, 1, 1), (68, .getfield 135, 3, 5, 1, 1), (71, .iload 4, 2, 0, 0, 0), (73, .iload_n f3, 1, 0, 0, 0), (74, .iastore, 1, 0, 0, 0), (75, .goto 80, 3, 155, 0, 0), (78, .aload_n f0, 1, 0, 0, 0), (79, .getfield 10, 3, 11, 0, 1)],
  [(82, .getfield 75, 3, 10, 0, 1), (85, .getfield 98, 3, 0, 7, 1), (88, .iload 4, 2, 0, 0, 0), (90, .iload_n f3, 1, 0, 0, 0), (91, .iastore, 1, 0, 0, 0), (92, .goto 63, 3, 155, 0, 0), (95, .aload_n f0, 1, 0, 0, 0)],
  [(96, .getfield 10, 3, 11, 0, 1), (99, .getfield 75, 3, 10, 0, 1), (102, .getfield 101, 3, 0, 8, 1), (105, .iload 4, 2, 0, 0, 0), (107, .iload_n f3, 1, 0, 0, 0), (108, .iastore, 1, 0, 0, 0), (109, .goto 46, 3, 155, 0, 0)],
  [(112, .aload_n f0, 1, 0, 0, 0), (113, .getfield 10, 3, 11, 0, 1), (116, .getfield 75, 3, 10, 0, 1), (119, .getfield 111, 3, 0, 9, 1), (122, .iload_n f2, 1, 0, 0, 0), (123, .iconst 3, 1, 3, 0, 0), (124, .iand, 1, 0, 0, 0), (125, .iload_n f3, 1, 0, 0, 0), (126, .iastore, 1, 0, 0, 0), (127, .goto 28, 3, 155, 0, 0)],
  [(130, .aload_n f0, 1, 0, 0, 0), (131, .getfield 10, 3, 11, 0, 1), (134, .getfield 75, 3, 10, 0, 1), (137, .iload_n f3, 1, 0, 0, 0), (138, .putfield 138, 3, 0, 2, 0), (141, .goto 14, 3, 155, 0, 0)],
  [(144, .aload_n f0, 1, 0, 0, 0), (145, .getfield 10, 3, 11, 0, 1), (148, .getfield 75, 3, 10, 0, 1), (151, .iload_n f3, 1, 0, 0, 0), (152, .putfield 141, 3, 0, 3, 0), (155, .return_, 1, 0, 0, 0)]]
/-- ToolUnion.set(III)Z -/
def cd_29 : List (List EEw) := [
  [(0, .aload_n f0, 1, 0, 0, 0), (1, .iload_n f1, 1, 0, 0, 0), (2, .iload_n f2, 1, 0, 0, 0), (3, .iload_n f3, 1, 0, 0, 0), (4, .invokevirtual 117, 3, 27, 3, 45), (7, .istore 4, 2, 0, 0, 0), (9, .iload 4, 2, 0, 0, 0), (11, .ifCond .eq 14, 3, 25, 0, 0), (14, .aload_n f0, 1, 0, 0, 0), (15, .iload_n f1, 1, 0, 0, 0)],
  [(16, .iload_n f2, 1, 0, 0, 0), (17, .iload_n f3, 1, 0, 0, 0), (18, .invokevirtual 121, 3, 28, 3, 44), (21, .aload_n f0, 1, 0, 0, 0), (22, .invokevirtual 72, 3, 13, 0, 44), (25, .iload 4, 2, 0, 0, 0), (27, .ireturn, 1, 0, 0, 1)]]
/-- ToolUnionModel.mostOf(I)I -/
def cd_30 : List (List EEw) := [
  [(0, .iload_n f0, 1, 0, 0, 0), (1, .tableswitch 48 2 6 #[35, 38, 48, 41, 45], 35, 2, 49, 0)],
  [],
  [(36, .bipush 9, 2, 9, 0, 0), (38, .ireturn, 1, 0, 0, 0), (39, .bipush 7, 2, 7, 0, 0), (41, .ireturn, 1, 0, 0, 0), (42, .sipush 1000, 3, 1000, 0, 0), (45, .ireturn, 1, 0, 0, 0), (46, .bipush 80, 2, 80, 0, 0)],
  [(48, .ireturn, 1, 0, 0, 0), (49, .bipush 99, 2, 99, 0, 0), (51, .ireturn, 1, 0, 0, 0)]]
/-- ToolUnionModel.isTool(I)Z -/
def cd_31 : List (List EEw) := [
  [(0, .iload_n f1, 1, 0, 0, 0), (1, .iconst 0, 1, 0, 0, 0), (2, .aload_n f0, 1, 0, 0, 0), (3, .getfield 7, 3, 12, 0, 1), (6, .bipush 96, 2, 96, 0, 0), (8, .iaload, 1, 0, 0, 0), (9, .iconst 1, 1, 1, 0, 0), (10, .isub, 1, 0, 0, 0), (11, .invokestatic 77, 3, 20, 3, 1), (14, .ireturn, 1, 0, 0, 1)]]
/-- ToolUnionModel.isMan(I)Z -/
def cd_32 : List (List EEw) := [
  [(0, .iload_n f1, 1, 0, 0, 0), (1, .iconst 0, 1, 0, 0, 0), (2, .aload_n f0, 1, 0, 0, 0), (3, .getfield 7, 3, 12, 0, 1), (6, .bipush 97, 2, 97, 0, 0), (8, .iaload, 1, 0, 0, 0), (9, .iconst 1, 1, 1, 0, 0), (10, .isub, 1, 0, 0, 0), (11, .invokestatic 77, 3, 20, 3, 1), (14, .ireturn, 1, 0, 0, 1)]]
/-- ToolUnionModel.set(III)Z -/
def cd_33 : List (List EEw) := [
  [(0, .iload_n f1, 1, 0, 0, 0), (1, .iconst 0, 1, 0, 0, 0), (2, .bipush 6, 2, 6, 0, 0), (4, .invokestatic 77, 3, 20, 3, 1), (7, .ifCond .eq 51, 3, 58, 0, 0), (10, .iload_n f3, 1, 0, 0, 0), (11, .iload_n f1, 1, 0, 0, 0), (12, .bipush 6, 2, 6, 0, 0), (14, .if_icmp .ne 7, 3, 21, 0, 0)],
  [(17, .iconst 1, 1, 1, 0, 0), (18, .goto 4, 3, 22, 0, 0), (21, .iconst 0, 1, 0, 0, 0), (22, .iload_n f1, 1, 0, 0, 0), (23, .invokestatic 93, 3, 30, 1, 1), (26, .invokestatic 77, 3, 20, 3, 1), (29, .ifCond .eq 29, 3, 58, 0, 0)],
  [(32, .iload_n f1, 1, 0, 0, 0), (33, .iconst 4, 1, 4, 0, 0), (34, .if_icmp .ge 11, 3, 45, 0, 0), (37, .aload_n f0, 1, 0, 0, 0), (38, .iload_n f2, 1, 0, 0, 0), (39, .invokevirtual 97, 3, 31, 1, 49), (42, .ifCond .eq 16, 3, 58, 0, 0), (45, .iload_n f1, 1, 0, 0, 0), (46, .iconst 4, 1, 4, 0, 0), (47, .if_icmp .ne 13, 3, 60, 0, 0)],
  [(50, .aload_n f0, 1, 0, 0, 0), (51, .iload_n f2, 1, 0, 0, 0), (52, .invokevirtual 101, 3, 32, 1, 49), (55, .ifCond .ne 5, 3, 60, 0, 0), (58, .iconst 0, 1, 0, 0, 0), (59, .ireturn, 1, 0, 0, 1), (60, .iload_n f1, 1, 0, 0, 0), (61, .iconst 4, 1, 4, 0, 0), (62, .if_icmp .ge 15, 3, 77, 0, 0)],
  [(65, .aload_n f0, 1, 0, 0, 0), (66, .iload_n f2, 1, 0, 0, 0), (67, .iconst 3, 1, 3, 0, 0), (68, .iload_n f1, 1, 0, 0, 0), (69, .iadd, 1, 0, 0, 0), (70, .iload_n f3, 1, 0, 0, 0), (71, .invokevirtual 89, 3, 21, 3, 48), (74, .goto 38, 3, 112, 0, 0), (77, .iload_n f1, 1, 0, 0, 0), (78, .iconst 4, 1, 4, 0, 0), (79, .if_icmp .ne 21, 3, 100, 0, 0)],
  [(82, .aload_n f0, 1, 0, 0, 0), (83, .getfield 7, 3, 12, 0, 1), (86, .sipush 130, 3, 130, 0, 0), (89, .iconst 2, 1, 2, 0, 0), (90, .iload_n f2, 1, 0, 0, 0), (91, .imul, 1, 0, 0, 0), (92, .iadd, 1, 0, 0, 0), (93, .iconst 0, 1, 0, 0, 0), (94, .iadd, 1, 0, 0, 0), (95, .iload_n f3, 1, 0, 0, 0)],
  [(96, .iastore, 1, 0, 0, 0), (97, .goto 15, 3, 112, 0, 0), (100, .aload_n f0, 1, 0, 0, 0), (101, .getfield 7, 3, 12, 0, 1), (104, .bipush 102, 2, 102, 0, 0), (106, .iload_n f1, 1, 0, 0, 0), (107, .iadd, 1, 0, 0, 0), (108, .iconst 5, 1, 5, 0, 0), (109, .isub, 1, 0, 0, 0), (110, .iload_n f3, 1, 0, 0, 0), (111, .iastore, 1, 0, 0, 0)],
  [(112, .aload_n f0, 1, 0, 0, 0), (113, .invokevirtual 84, 3, 15, 0, 48), (116, .iconst 1, 1, 1, 0, 0), (117, .ireturn, 1, 0, 0, 1)]]
/-- java/lang/Math.min(II)I -/
def cd_34 : List (List EEw) := [
  [(0, .iload_n f0, 1, 0, 0, 0), (1, .iload_n f1, 1, 0, 0, 0), (2, .if_icmp .gt 7, 3, 9, 0, 0), (5, .iload_n f0, 1, 0, 0, 0), (6, .goto 4, 3, 10, 0, 0), (9, .iload_n f1, 1, 0, 0, 0), (10, .ireturn, 1, 0, 0, 0)]]
/-- ToolUnion.copyRow([I[I)V -/
def cd_35 : List (List EEw) := [
  [(0, .aload_n f0, 1, 0, 0, 0), (1, .iconst 0, 1, 0, 0, 0), (2, .aload_n f1, 1, 0, 0, 0), (3, .iconst 0, 1, 0, 0, 0), (4, .aload_n f0, 1, 0, 0, 0), (5, .arraylength, 1, 0, 0, 0), (6, .aload_n f1, 1, 0, 0, 0), (7, .arraylength, 1, 0, 0, 0), (8, .invokestatic 409, 3, 34, 2, 1), (11, .invokestatic 427, 3, 9998, 0, 0), (14, .return_, 1, 0, 0, 0)]]
/-- ToolUnion$Moves.copy(LToolUnion$Moves;)V -/
def cd_36 : List (List EEw) := [
  [(0, .aload_n f1, 1, 0, 0, 0), (1, .getfield 9, 3, 5, 0, 1), (4, .aload_n f0, 1, 0, 0, 0), (5, .getfield 9, 3, 5, 0, 1), (8, .invokestatic 30, 3, 35, 2, 0), (11, .aload_n f1, 1, 0, 0, 0), (12, .getfield 15, 3, 5, 1, 1), (15, .aload_n f0, 1, 0, 0, 0)],
  [(16, .getfield 15, 3, 5, 1, 1), (19, .invokestatic 30, 3, 35, 2, 0), (22, .aload_n f1, 1, 0, 0, 0), (23, .getfield 18, 3, 5, 2, 1), (26, .aload_n f0, 1, 0, 0, 0), (27, .getfield 18, 3, 5, 2, 1), (30, .invokestatic 30, 3, 35, 2, 0)],
  [(33, .aload_n f1, 1, 0, 0, 0), (34, .getfield 21, 3, 5, 3, 1), (37, .aload_n f0, 1, 0, 0, 0), (38, .getfield 21, 3, 5, 3, 1), (41, .invokestatic 30, 3, 35, 2, 0), (44, .aload_n f1, 1, 0, 0, 0), (45, .getfield 24, 3, 5, 4, 1)],
  [(48, .aload_n f0, 1, 0, 0, 0), (49, .getfield 24, 3, 5, 4, 1), (52, .invokestatic 30, 3, 35, 2, 0), (55, .aload_n f1, 1, 0, 0, 0), (56, .getfield 27, 3, 5, 5, 1), (59, .aload_n f0, 1, 0, 0, 0), (60, .getfield 27, 3, 5, 5, 1), (63, .invokestatic 30, 3, 35, 2, 0)],
  [(66, .aload_n f0, 1, 0, 0, 0), (67, .aload_n f1, 1, 0, 0, 0), (68, .getfield 34, 3, 5, 6, 0), (71, .putfield 34, 3, 5, 6, 0), (74, .aload_n f0, 1, 0, 0, 0), (75, .aload_n f1, 1, 0, 0, 0), (76, .getfield 38, 3, 5, 7, 0), (79, .putfield 38, 3, 5, 7, 0)],
  [(82, .aload_n f0, 1, 0, 0, 0), (83, .aload_n f1, 1, 0, 0, 0), (84, .getfield 41, 3, 5, 8, 0), (87, .putfield 41, 3, 5, 8, 0), (90, .aload_n f0, 1, 0, 0, 0), (91, .aload_n f1, 1, 0, 0, 0), (92, .getfield 44, 3, 5, 9, 0), (95, .putfield 44, 3, 5, 9, 0)],
  [(98, .return_, 1, 0, 0, 0)]]
/-- ToolUnion.keep()V -/
def cd_37 : List (List EEw) := [
  [(0, .aload_n f0, 1, 0, 0, 0), (1, .getfield 26, 3, 11, 4, 1), (4, .aload_n f0, 1, 0, 0, 0), (5, .getfield 406, 3, 11, 6, 0), (8, .aaload, 1, 0, 0, 0), (9, .aload_n f0, 1, 0, 0, 0), (10, .getfield 10, 3, 11, 0, 1), (13, .getfield 65, 3, 10, 1, 1)],
  [(16, .invokevirtual 362, 3, 36, 1, 20), (19, .aload_n f0, 1, 0, 0, 0), (20, .aload_n f0, 1, 0, 0, 0), (21, .getfield 406, 3, 11, 6, 0), (24, .iconst 1, 1, 1, 0, 0), (25, .iadd, 1, 0, 0, 0), (26, .bipush 6, 2, 6, 0, 0), (28, .irem, 1, 0, 0, 0), (29, .putfield 406, 3, 11, 6, 0)],
  [(32, .aload_n f0, 1, 0, 0, 0), (33, .aload_n f0, 1, 0, 0, 0), (34, .getfield 403, 3, 11, 5, 0), (37, .iconst 1, 1, 1, 0, 0), (38, .iadd, 1, 0, 0, 0), (39, .bipush 6, 2, 6, 0, 0), (41, .invokestatic 409, 3, 34, 2, 1), (44, .putfield 403, 3, 11, 5, 0), (47, .return_, 1, 0, 0, 0)]]
/-- java/lang/Math.max(II)I -/
def cd_38 : List (List EEw) := [
  [(0, .iload_n f0, 1, 0, 0, 0), (1, .iload_n f1, 1, 0, 0, 0), (2, .if_icmp .lt 7, 3, 9, 0, 0), (5, .iload_n f0, 1, 0, 0, 0), (6, .goto 4, 3, 10, 0, 0), (9, .iload_n f1, 1, 0, 0, 0), (10, .ireturn, 1, 0, 0, 0)]]
/-- ToolUnion.held(III)I -/
def cd_39 : List (List EEw) := [
  [(0, .iload_n f1, 1, 0, 0, 0), (1, .iload_n f2, 1, 0, 0, 0), (2, .iload_n f0, 1, 0, 0, 0), (3, .invokestatic 409, 3, 34, 2, 1), (6, .invokestatic 424, 3, 38, 2, 1), (9, .ireturn, 1, 0, 0, 0)]]
/-- ToolUnion$Moves.cheer(II)V -/
def cd_40 : List (List EEw) := [
  [(0, .aload_n f0, 1, 0, 0, 0), (1, .getfield 15, 3, 5, 1, 1), (4, .iload_n f1, 1, 0, 0, 0), (5, .aload_n f0, 1, 0, 0, 0), (6, .getfield 15, 3, 5, 1, 1), (9, .iload_n f1, 1, 0, 0, 0), (10, .iaload, 1, 0, 0, 0), (11, .iload_n f2, 1, 0, 0, 0), (12, .iadd, 1, 0, 0, 0), (13, .iconst 0, 1, 0, 0, 0), (14, .bipush 99, 2, 99, 0, 0)],
  [(16, .invokestatic 47, 3, 39, 3, 1), (19, .iastore, 1, 0, 0, 0), (20, .return_, 1, 0, 0, 0)]]
/-- ToolUnion$Moves.sharpen(II)V -/
def cd_41 : List (List EEw) := [
  [(0, .aload_n f0, 1, 0, 0, 0), (1, .getfield 9, 3, 5, 0, 1), (4, .iload_n f1, 1, 0, 0, 0), (5, .aload_n f0, 1, 0, 0, 0), (6, .getfield 9, 3, 5, 0, 1), (9, .iload_n f1, 1, 0, 0, 0), (10, .iaload, 1, 0, 0, 0), (11, .iload_n f2, 1, 0, 0, 0), (12, .iadd, 1, 0, 0, 0), (13, .iconst 0, 1, 0, 0, 0), (14, .bipush 99, 2, 99, 0, 0)],
  [(16, .invokestatic 47, 3, 39, 3, 1), (19, .iastore, 1, 0, 0, 0), (20, .return_, 1, 0, 0, 0)]]
/-- ToolUnion.mend(IZ)Z -/
def cd_42 : List (List EEw) := [
  [(0, .aload_n f0, 1, 0, 0, 0), (1, .iload_n f1, 1, 0, 0, 0), (2, .invokevirtual 125, 3, 25, 1, 45), (5, .ifCond .ne 5, 3, 10, 0, 0), (8, .iconst 0, 1, 0, 0, 0), (9, .ireturn, 1, 0, 0, 1), (10, .aload_n f0, 1, 0, 0, 0), (11, .invokevirtual 144, 3, 37, 0, 44), (14, .iload_n f2, 1, 0, 0, 0), (15, .ifCond .eq 19, 3, 34, 0, 0)],
  [(18, .aload_n f0, 1, 0, 0, 0), (19, .getfield 10, 3, 11, 0, 1), (22, .getfield 65, 3, 10, 1, 1), (25, .iload_n f1, 1, 0, 0, 0), (26, .bipush 10, 2, 10, 0, 0), (28, .invokevirtual 147, 3, 40, 2, 20), (31, .goto 29, 3, 60, 0, 0)],
  [(34, .aload_n f0, 1, 0, 0, 0), (35, .getfield 10, 3, 11, 0, 1), (38, .getfield 65, 3, 10, 1, 1), (41, .iload_n f1, 1, 0, 0, 0), (42, .bipush 20, 2, 20, 0, 0), (44, .invokevirtual 151, 3, 41, 2, 20), (47, .aload_n f0, 1, 0, 0, 0)],
  [(48, .getfield 10, 3, 11, 0, 1), (51, .getfield 65, 3, 10, 1, 1), (54, .iload_n f1, 1, 0, 0, 0), (55, .bipush (-5), 2, 4294967291, 0, 0), (57, .invokevirtual 147, 3, 40, 2, 20), (60, .iconst 1, 1, 1, 0, 0), (61, .ireturn, 1, 0, 0, 1)]]
/-- ToolUnionModel.keeps()V -/
def cd_43 : List (List EEw) := [
  [(0, .aload_n f0, 1, 0, 0, 0), (1, .getfield 81, 3, 12, 4, 0), (4, .bipush 6, 2, 6, 0, 0), (6, .if_icmp .ne 43, 3, 49, 0, 0), (9, .iconst 0, 1, 0, 0, 0), (10, .istore_n f1, 1, 0, 0, 0), (11, .iload_n f1, 1, 0, 0, 0), (12, .sipush 480, 3, 480, 0, 0), (15, .if_icmp .ge 24, 3, 39, 0, 0)],
  [(18, .aload_n f0, 1, 0, 0, 0), (19, .getfield 16, 3, 12, 2, 1), (22, .iload_n f1, 1, 0, 0, 0), (23, .aload_n f0, 1, 0, 0, 0), (24, .getfield 16, 3, 12, 2, 1), (27, .iload_n f1, 1, 0, 0, 0), (28, .bipush 96, 2, 96, 0, 0), (30, .iadd, 1, 0, 0, 0), (31, .iaload, 1, 0, 0, 0)],
  [(32, .iastore, 1, 0, 0, 0), (33, .iinc 1 1, 3, 0, 0, 0), (36, .goto (-25), 3, 11, 0, 0), (39, .aload_n f0, 1, 0, 0, 0), (40, .dup, 1, 0, 0, 0), (41, .getfield 81, 3, 12, 4, 0), (44, .iconst 1, 1, 1, 0, 0), (45, .isub, 1, 0, 0, 0), (46, .putfield 81, 3, 12, 4, 0)],
  [(49, .iconst 0, 1, 0, 0, 0), (50, .istore_n f1, 1, 0, 0, 0), (51, .iload_n f1, 1, 0, 0, 0), (52, .bipush 96, 2, 96, 0, 0), (54, .if_icmp .ge 29, 3, 83, 0, 0), (57, .aload_n f0, 1, 0, 0, 0), (58, .getfield 16, 3, 12, 2, 1), (61, .bipush 96, 2, 96, 0, 0), (63, .aload_n f0, 1, 0, 0, 0)],
  [(64, .getfield 81, 3, 12, 4, 0), (67, .imul, 1, 0, 0, 0), (68, .iload_n f1, 1, 0, 0, 0), (69, .iadd, 1, 0, 0, 0), (70, .aload_n f0, 1, 0, 0, 0), (71, .getfield 7, 3, 12, 0, 1), (74, .iload_n f1, 1, 0, 0, 0), (75, .iaload, 1, 0, 0, 0), (76, .iastore, 1, 0, 0, 0), (77, .iinc 1 1, 3, 0, 0, 0)],
  [(80, .goto (-29), 3, 51, 0, 0), (83, .aload_n f0, 1, 0, 0, 0), (84, .dup, 1, 0, 0, 0), (85, .getfield 81, 3, 12, 4, 0), (88, .iconst 1, 1, 1, 0, 0), (89, .iadd, 1, 0, 0, 0), (90, .putfield 81, 3, 12, 4, 0), (93, .return_, 1, 0, 0, 0)]]
/-- ToolUnionModel.ofTool(II)I -/
def cd_44 : List (List EEw) := [
  [(0, .aload_n f0, 1, 0, 0, 0), (1, .getfield 7, 3, 12, 0, 1), (4, .bipush 16, 2, 16, 0, 0), (6, .bipush 10, 2, 10, 0, 0), (8, .iload_n f1, 1, 0, 0, 0), (9, .imul, 1, 0, 0, 0), (10, .iadd, 1, 0, 0, 0), (11, .iload_n f2, 1, 0, 0, 0), (12, .iadd, 1, 0, 0, 0), (13, .iaload, 1, 0, 0, 0), (14, .ireturn, 1, 0, 0, 0)]]
/-- ToolUnionModel.lesser(II)I -/
def cd_45 : List (List EEw) := [
  [(0, .iload_n f0, 1, 0, 0, 0), (1, .iload_n f1, 1, 0, 0, 0), (2, .if_icmp .ge 7, 3, 9, 0, 0), (5, .iload_n f0, 1, 0, 0, 0), (6, .goto 4, 3, 10, 0, 0), (9, .iload_n f1, 1, 0, 0, 0), (10, .ireturn, 1, 0, 0, 0)]]
/-- ToolUnionModel.greater(II)I -/
def cd_46 : List (List EEw) := [
  [(0, .iload_n f0, 1, 0, 0, 0), (1, .iload_n f1, 1, 0, 0, 0), (2, .if_icmp .le 7, 3, 9, 0, 0), (5, .iload_n f0, 1, 0, 0, 0), (6, .goto 4, 3, 10, 0, 0), (9, .iload_n f1, 1, 0, 0, 0), (10, .ireturn, 1, 0, 0, 0)]]
/-- ToolUnionModel.mend(IZ)Z -/
def cd_47 : List (List EEw) := [
  [(0, .aload_n f0, 1, 0, 0, 0), (1, .iload_n f1, 1, 0, 0, 0), (2, .invokevirtual 97, 3, 31, 1, 49), (5, .ifCond .ne 5, 3, 10, 0, 0), (8, .iconst 0, 1, 0, 0, 0), (9, .ireturn, 1, 0, 0, 1), (10, .aload_n f0, 1, 0, 0, 0), (11, .invokevirtual 346, 3, 43, 0, 48), (14, .iload_n f2, 1, 0, 0, 0), (15, .ifCond .eq 25, 3, 40, 0, 0)],
  [(18, .aload_n f0, 1, 0, 0, 0), (19, .iload_n f1, 1, 0, 0, 0), (20, .iconst 4, 1, 4, 0, 0), (21, .bipush 99, 2, 99, 0, 0), (23, .aload_n f0, 1, 0, 0, 0), (24, .iload_n f1, 1, 0, 0, 0), (25, .iconst 4, 1, 4, 0, 0), (26, .invokevirtual 313, 3, 44, 2, 49), (29, .bipush 10, 2, 10, 0, 0), (31, .iadd, 1, 0, 0, 0)],
  [(32, .invokestatic 70, 3, 45, 2, 1), (35, .invokevirtual 89, 3, 21, 3, 48), (38, .iconst 1, 1, 1, 0, 0), (39, .ireturn, 1, 0, 0, 1), (40, .aload_n f0, 1, 0, 0, 0), (41, .iload_n f1, 1, 0, 0, 0), (42, .iconst 3, 1, 3, 0, 0), (43, .bipush 99, 2, 99, 0, 0), (45, .aload_n f0, 1, 0, 0, 0), (46, .iload_n f1, 1, 0, 0, 0), (47, .iconst 3, 1, 3, 0, 0)],
  [(48, .invokevirtual 313, 3, 44, 2, 49), (51, .bipush 20, 2, 20, 0, 0), (53, .iadd, 1, 0, 0, 0), (54, .invokestatic 70, 3, 45, 2, 1), (57, .invokevirtual 89, 3, 21, 3, 48), (60, .aload_n f0, 1, 0, 0, 0), (61, .iload_n f1, 1, 0, 0, 0), (62, .iconst 4, 1, 4, 0, 0), (63, .iconst 0, 1, 0, 0, 0)],
  [(64, .aload_n f0, 1, 0, 0, 0), (65, .iload_n f1, 1, 0, 0, 0), (66, .iconst 4, 1, 4, 0, 0), (67, .invokevirtual 313, 3, 44, 2, 49), (70, .iconst 5, 1, 5, 0, 0), (71, .isub, 1, 0, 0, 0), (72, .invokestatic 74, 3, 46, 2, 1), (75, .invokevirtual 89, 3, 21, 3, 48), (78, .iconst 1, 1, 1, 0, 0), (79, .ireturn, 1, 0, 0, 1)]]
/-- ToolUnion.isIn(II)Z -/
def cd_48 : List (List EEw) := [
  [(0, .iload_n f0, 1, 0, 0, 0), (1, .iload_n f1, 1, 0, 0, 0), (2, .ishr, 1, 0, 0, 0), (3, .iconst 1, 1, 1, 0, 0), (4, .iand, 1, 0, 0, 0), (5, .iconst 1, 1, 1, 0, 0), (6, .if_icmp .ne 7, 3, 13, 0, 0), (9, .iconst 1, 1, 1, 0, 0), (10, .goto 4, 3, 14, 0, 0), (13, .iconst 0, 1, 0, 0, 0), (14, .ireturn, 1, 0, 0, 1)]]
/-- ToolUnion.with(IIZ)I -/
def cd_49 : List (List EEw) := [
  [(0, .iload_n f2, 1, 0, 0, 0), (1, .ifCond .eq 11, 3, 12, 0, 0), (4, .iload_n f0, 1, 0, 0, 0), (5, .iconst 1, 1, 1, 0, 0), (6, .iload_n f1, 1, 0, 0, 0), (7, .ishl, 1, 0, 0, 0), (8, .ior, 1, 0, 0, 0), (9, .goto 10, 3, 19, 0, 0), (12, .iload_n f0, 1, 0, 0, 0), (13, .iconst 1, 1, 1, 0, 0), (14, .iload_n f1, 1, 0, 0, 0), (15, .ishl, 1, 0, 0, 0)],
  [(16, .iconst (-1), 1, 4294967295, 0, 0), (17, .ixor, 1, 0, 0, 0), (18, .iand, 1, 0, 0, 0), (19, .ireturn, 1, 0, 0, 0)]]
/-- ToolUnion.strike(IZ)Z -/
def cd_50 : List (List EEw) := [
  [(0, .iload_n f1, 1, 0, 0, 0), (1, .iconst 3, 1, 3, 0, 0), (2, .invokestatic 84, 3, 17, 2, 1), (5, .ifCond .eq 21, 3, 26, 0, 0), (8, .aload_n f0, 1, 0, 0, 0), (9, .getfield 10, 3, 11, 0, 1), (12, .getfield 65, 3, 10, 1, 1), (15, .getfield 154, 3, 5, 8, 0)],
  [(18, .iload_n f1, 1, 0, 0, 0), (19, .invokestatic 157, 3, 48, 2, 1), (22, .iload_n f2, 1, 0, 0, 0), (23, .if_icmp .ne 5, 3, 28, 0, 0), (26, .iconst 0, 1, 0, 0, 0), (27, .ireturn, 1, 0, 0, 1), (28, .aload_n f0, 1, 0, 0, 0), (29, .invokevirtual 144, 3, 37, 0, 44)],
  [(32, .aload_n f0, 1, 0, 0, 0), (33, .getfield 10, 3, 11, 0, 1), (36, .getfield 65, 3, 10, 1, 1), (39, .aload_n f0, 1, 0, 0, 0), (40, .getfield 10, 3, 11, 0, 1), (43, .getfield 65, 3, 10, 1, 1), (46, .getfield 154, 3, 5, 8, 0)],
  [(49, .iload_n f1, 1, 0, 0, 0), (50, .iload_n f2, 1, 0, 0, 0), (51, .invokestatic 160, 3, 49, 3, 1), (54, .putfield 154, 3, 5, 8, 0), (57, .iconst 1, 1, 1, 0, 0), (58, .ireturn, 1, 0, 0, 1)]]
/-- ToolUnionModel.strike(IZ)Z -/
def cd_51 : List (List EEw) := [
  [(0, .iload_n f1, 1, 0, 0, 0), (1, .iconst 0, 1, 0, 0, 0), (2, .iconst 3, 1, 3, 0, 0), (3, .invokestatic 77, 3, 20, 3, 1), (6, .ifCond .eq 26, 3, 32, 0, 0), (9, .aload_n f0, 1, 0, 0, 0), (10, .getfield 7, 3, 12, 0, 1), (13, .iconst 1, 1, 1, 0, 0), (14, .iaload, 1, 0, 0, 0), (15, .iload_n f1, 1, 0, 0, 0)],
  [(16, .ishr, 1, 0, 0, 0), (17, .iconst 1, 1, 1, 0, 0), (18, .iand, 1, 0, 0, 0), (19, .iconst 1, 1, 1, 0, 0), (20, .if_icmp .ne 7, 3, 27, 0, 0), (23, .iconst 1, 1, 1, 0, 0), (24, .goto 4, 3, 28, 0, 0), (27, .iconst 0, 1, 0, 0, 0), (28, .iload_n f2, 1, 0, 0, 0), (29, .if_icmp .ne 5, 3, 34, 0, 0)],
  [(32, .iconst 0, 1, 0, 0, 0), (33, .ireturn, 1, 0, 0, 1), (34, .aload_n f0, 1, 0, 0, 0), (35, .invokevirtual 346, 3, 43, 0, 48), (38, .aload_n f0, 1, 0, 0, 0), (39, .getfield 7, 3, 12, 0, 1), (42, .iconst 1, 1, 1, 0, 0), (43, .dup2, 1, 0, 0, 0), (44, .iaload, 1, 0, 0, 0), (45, .iconst 1, 1, 1, 0, 0), (46, .iload_n f1, 1, 0, 0, 0), (47, .ishl, 1, 0, 0, 0)],
  [(48, .ixor, 1, 0, 0, 0), (49, .iastore, 1, 0, 0, 0), (50, .iconst 1, 1, 1, 0, 0), (51, .ireturn, 1, 0, 0, 1)]]
/-- ToolUnion.may(IIZ)Z -/
def cd_52 : List (List EEw) := [
  [(0, .iload_n f1, 1, 0, 0, 0), (1, .iconst 3, 1, 3, 0, 0), (2, .invokestatic 84, 3, 17, 2, 1), (5, .ifCond .eq 11, 3, 16, 0, 0), (8, .iload_n f2, 1, 0, 0, 0), (9, .iconst 3, 1, 3, 0, 0), (10, .invokestatic 84, 3, 17, 2, 1), (13, .ifCond .ne 5, 3, 18, 0, 0)],
  [(16, .iconst 0, 1, 0, 0, 0), (17, .ireturn, 1, 0, 0, 1), (18, .aload_n f0, 1, 0, 0, 0), (19, .getfield 10, 3, 11, 0, 1), (22, .getfield 65, 3, 10, 1, 1), (25, .getfield 164, 3, 5, 5, 1), (28, .iload_n f1, 1, 0, 0, 0), (29, .iaload, 1, 0, 0, 0), (30, .istore 4, 2, 0, 0, 0)],
  [(32, .iload 4, 2, 0, 0, 0), (34, .iload_n f2, 1, 0, 0, 0), (35, .invokestatic 157, 3, 48, 2, 1), (38, .iload_n f3, 1, 0, 0, 0), (39, .if_icmp .ne 5, 3, 44, 0, 0), (42, .iconst 0, 1, 0, 0, 0), (43, .ireturn, 1, 0, 0, 1), (44, .aload_n f0, 1, 0, 0, 0), (45, .invokevirtual 144, 3, 37, 0, 44)],
  [(48, .aload_n f0, 1, 0, 0, 0), (49, .getfield 10, 3, 11, 0, 1), (52, .getfield 65, 3, 10, 1, 1), (55, .getfield 164, 3, 5, 5, 1), (58, .iload_n f1, 1, 0, 0, 0), (59, .iload 4, 2, 0, 0, 0), (61, .iload_n f2, 1, 0, 0, 0), (62, .iload_n f3, 1, 0, 0, 0), (63, .invokestatic 160, 3, 49, 3, 1)],
  [(66, .iastore, 1, 0, 0, 0), (67, .iconst 1, 1, 1, 0, 0), (68, .ireturn, 1, 0, 0, 1)]]
/-- ToolUnionModel.mayIts(II)Z -/
def cd_53 : List (List EEw) := [
  [(0, .aload_n f0, 1, 0, 0, 0), (1, .getfield 7, 3, 12, 0, 1), (4, .iconst 4, 1, 4, 0, 0), (5, .iload_n f1, 1, 0, 0, 0), (6, .iadd, 1, 0, 0, 0), (7, .iaload, 1, 0, 0, 0), (8, .iload_n f2, 1, 0, 0, 0), (9, .ishr, 1, 0, 0, 0), (10, .iconst 1, 1, 1, 0, 0), (11, .iand, 1, 0, 0, 0), (12, .iconst 1, 1, 1, 0, 0), (13, .if_icmp .ne 7, 3, 20, 0, 0)],
  [(16, .iconst 1, 1, 1, 0, 0), (17, .goto 4, 3, 21, 0, 0), (20, .iconst 0, 1, 0, 0, 0), (21, .ireturn, 1, 0, 0, 1)]]
/-- ToolUnionModel.may(IIZ)Z -/
def cd_54 : List (List EEw) := [
  [(0, .iload_n f1, 1, 0, 0, 0), (1, .iconst 0, 1, 0, 0, 0), (2, .iconst 3, 1, 3, 0, 0), (3, .invokestatic 77, 3, 20, 3, 1), (6, .ifCond .eq 22, 3, 28, 0, 0), (9, .iload_n f2, 1, 0, 0, 0), (10, .iconst 0, 1, 0, 0, 0), (11, .iconst 3, 1, 3, 0, 0), (12, .invokestatic 77, 3, 20, 3, 1), (15, .ifCond .eq 13, 3, 28, 0, 0)],
  [(18, .aload_n f0, 1, 0, 0, 0), (19, .iload_n f1, 1, 0, 0, 0), (20, .iload_n f2, 1, 0, 0, 0), (21, .invokevirtual 324, 3, 53, 2, 49), (24, .iload_n f3, 1, 0, 0, 0), (25, .if_icmp .ne 5, 3, 30, 0, 0), (28, .iconst 0, 1, 0, 0, 0), (29, .ireturn, 1, 0, 0, 1), (30, .aload_n f0, 1, 0, 0, 0), (31, .invokevirtual 346, 3, 43, 0, 48)],
  [(34, .aload_n f0, 1, 0, 0, 0), (35, .getfield 7, 3, 12, 0, 1), (38, .iconst 4, 1, 4, 0, 0), (39, .iload_n f1, 1, 0, 0, 0), (40, .iadd, 1, 0, 0, 0), (41, .dup2, 1, 0, 0, 0), (42, .iaload, 1, 0, 0, 0), (43, .iconst 1, 1, 1, 0, 0), (44, .iload_n f2, 1, 0, 0, 0), (45, .ishl, 1, 0, 0, 0), (46, .ixor, 1, 0, 0, 0), (47, .iastore, 1, 0, 0, 0)],
  [(48, .iconst 1, 1, 1, 0, 0), (49, .ireturn, 1, 0, 0, 1)]]
/-- ToolUnion$Shift.begin()V -/
def cd_55 : List (List EEw) := [
  [(0, .aload_n f0, 1, 0, 0, 0), (1, .iconst 0, 1, 0, 0, 0), (2, .putfield 9, 3, 9, 0, 0), (5, .aload_n f0, 1, 0, 0, 0), (6, .iconst 0, 1, 0, 0, 0), (7, .putfield 15, 3, 9, 1, 0), (10, .aload_n f0, 1, 0, 0, 0), (11, .iconst (-1), 1, 4294967295, 0, 0), (12, .putfield 18, 3, 9, 2, 0), (15, .aload_n f0, 1, 0, 0, 0)],
  [(16, .iconst (-1), 1, 4294967295, 0, 0), (17, .putfield 21, 3, 9, 3, 0), (20, .aload_n f0, 1, 0, 0, 0), (21, .iconst 0, 1, 0, 0, 0), (22, .putfield 24, 3, 9, 4, 0), (25, .return_, 1, 0, 0, 0)]]
/-- ToolUnion$Rota.isOn(II)Z -/
def cd_56 : List (List EEw) := [
  [(0, .iload_n f2, 1, 0, 0, 0), (1, .aload_n f0, 1, 0, 0, 0), (2, .getfield 21, 3, 8, 4, 1), (5, .iload_n f1, 1, 0, 0, 0), (6, .iaload, 1, 0, 0, 0), (7, .if_icmp .lt 24, 3, 31, 0, 0), (10, .iload_n f2, 1, 0, 0, 0), (11, .aload_n f0, 1, 0, 0, 0), (12, .getfield 21, 3, 8, 4, 1), (15, .iload_n f1, 1, 0, 0, 0)],
  [(16, .iaload, 1, 0, 0, 0), (17, .aload_n f0, 1, 0, 0, 0), (18, .getfield 24, 3, 8, 5, 1), (21, .iload_n f1, 1, 0, 0, 0), (22, .iaload, 1, 0, 0, 0), (23, .iadd, 1, 0, 0, 0), (24, .if_icmp .ge 7, 3, 31, 0, 0), (27, .iconst 1, 1, 1, 0, 0), (28, .goto 4, 3, 32, 0, 0), (31, .iconst 0, 1, 0, 0, 0)],
  [(32, .ireturn, 1, 0, 0, 1)]]
/-- ToolUnion$Hull.isDone(LToolUnion$Moves;I)Z -/
def cd_57 : List (List EEw) := [
  [(0, .aload_n f1, 1, 0, 0, 0), (1, .getfield 44, 3, 5, 4, 1), (4, .iload_n f2, 1, 0, 0, 0), (5, .iaload, 1, 0, 0, 0), (6, .aload_n f0, 1, 0, 0, 0), (7, .getfield 15, 3, 1, 2, 1), (10, .iload_n f2, 1, 0, 0, 0), (11, .iaload, 1, 0, 0, 0), (12, .if_icmp .lt 7, 3, 19, 0, 0), (15, .iconst 1, 1, 1, 0, 0)],
  [(16, .goto 4, 3, 20, 0, 0), (19, .iconst 0, 1, 0, 0, 0), (20, .ireturn, 1, 0, 0, 1)]]
/-- ToolUnion$Hull.isOpen(LToolUnion$Moves;I)Z -/
def cd_58 : List (List EEw) := [
  [(0, .aload_n f0, 1, 0, 0, 0), (1, .aload_n f1, 1, 0, 0, 0), (2, .iload_n f2, 1, 0, 0, 0), (3, .invokevirtual 49, 3, 57, 2, 5), (6, .ifCond .eq 5, 3, 11, 0, 0), (9, .iconst 0, 1, 0, 0, 0), (10, .ireturn, 1, 0, 0, 1), (11, .iconst 0, 1, 0, 0, 0), (12, .istore_n f3, 1, 0, 0, 0), (13, .iload_n f3, 1, 0, 0, 0), (14, .iload_n f2, 1, 0, 0, 0), (15, .if_icmp .ge 33, 3, 48, 0, 0)],
  [(18, .aload_n f0, 1, 0, 0, 0), (19, .getfield 18, 3, 1, 3, 1), (22, .iload_n f2, 1, 0, 0, 0), (23, .iaload, 1, 0, 0, 0), (24, .iload_n f3, 1, 0, 0, 0), (25, .invokestatic 53, 3, 48, 2, 1), (28, .ifCond .eq 14, 3, 42, 0, 0), (31, .aload_n f0, 1, 0, 0, 0)],
  [(32, .aload_n f1, 1, 0, 0, 0), (33, .iload_n f3, 1, 0, 0, 0), (34, .invokevirtual 49, 3, 57, 2, 5), (37, .ifCond .ne 5, 3, 42, 0, 0), (40, .iconst 0, 1, 0, 0, 0), (41, .ireturn, 1, 0, 0, 1), (42, .iinc 3 1, 3, 0, 0, 0), (45, .goto (-32), 3, 13, 0, 0)],
  [(48, .iconst 1, 1, 1, 0, 0), (49, .ireturn, 1, 0, 0, 1)]]
/-- ToolUnion$Moves.weekday()I -/
def cd_59 : List (List EEw) := [
  [(0, .aload_n f0, 1, 0, 0, 0), (1, .getfield 34, 3, 5, 6, 0), (4, .bipush 8, 2, 8, 0, 0), (6, .idiv, 1, 0, 0, 0), (7, .bipush 7, 2, 7, 0, 0), (9, .irem, 1, 0, 0, 0), (10, .ireturn, 1, 0, 0, 0)]]
/-- ToolUnion$Moves.bell()I -/
def cd_60 : List (List EEw) := [
  [(0, .aload_n f0, 1, 0, 0, 0), (1, .getfield 34, 3, 5, 6, 0), (4, .bipush 8, 2, 8, 0, 0), (6, .irem, 1, 0, 0, 0), (7, .ireturn, 1, 0, 0, 0)]]
/-- ToolUnion$Judge.learn(LToolUnion$Yard;LToolUnion$Moves;II)V -/
def cd_61 : List (List EEw) := [
  [(0, .aload_n f0, 1, 0, 0, 0), (1, .getfield 15, 3, 2, 1, 1), (4, .iconst 0, 1, 0, 0, 0), (5, .aload_n f1, 1, 0, 0, 0), (6, .getfield 23, 3, 10, 0, 1), (9, .getfield 112, 3, 0, 9, 1), (12, .iload 4, 2, 0, 0, 0), (14, .iaload, 1, 0, 0, 0), (15, .iastore, 1, 0, 0, 0)],
  [(16, .aload_n f0, 1, 0, 0, 0), (17, .getfield 15, 3, 2, 1, 1), (20, .iconst 1, 1, 1, 0, 0), (21, .aload_n f2, 1, 0, 0, 0), (22, .getfield 56, 3, 5, 0, 1), (25, .iload_n f3, 1, 0, 0, 0), (26, .iaload, 1, 0, 0, 0), (27, .iastore, 1, 0, 0, 0), (28, .aload_n f0, 1, 0, 0, 0), (29, .getfield 15, 3, 2, 1, 1)],
  [(32, .iconst 2, 1, 2, 0, 0), (33, .aload_n f2, 1, 0, 0, 0), (34, .getfield 115, 3, 5, 1, 1), (37, .iload_n f3, 1, 0, 0, 0), (38, .iaload, 1, 0, 0, 0), (39, .iastore, 1, 0, 0, 0), (40, .aload_n f0, 1, 0, 0, 0), (41, .getfield 15, 3, 2, 1, 1), (44, .iconst 3, 1, 3, 0, 0), (45, .aload_n f2, 1, 0, 0, 0), (46, .getfield 106, 3, 5, 2, 1)],
  [(49, .iload_n f3, 1, 0, 0, 0), (50, .iaload, 1, 0, 0, 0), (51, .iastore, 1, 0, 0, 0), (52, .aload_n f0, 1, 0, 0, 0), (53, .getfield 15, 3, 2, 1, 1), (56, .iconst 4, 1, 4, 0, 0), (57, .aload_n f1, 1, 0, 0, 0), (58, .getfield 23, 3, 10, 0, 1), (61, .getfield 34, 3, 0, 4, 1)],
  [(64, .iload_n f3, 1, 0, 0, 0), (65, .iaload, 1, 0, 0, 0), (66, .iastore, 1, 0, 0, 0), (67, .aload_n f0, 1, 0, 0, 0), (68, .getfield 15, 3, 2, 1, 1), (71, .iconst 5, 1, 5, 0, 0), (72, .aload_n f1, 1, 0, 0, 0), (73, .getfield 23, 3, 10, 0, 1), (76, .getfield 118, 3, 0, 6, 1), (79, .iload_n f3, 1, 0, 0, 0)],
  [(80, .iaload, 1, 0, 0, 0), (81, .aload_n f1, 1, 0, 0, 0), (82, .getfield 23, 3, 10, 0, 1), (85, .getfield 121, 3, 0, 10, 1), (88, .iload 4, 2, 0, 0, 0), (90, .iaload, 1, 0, 0, 0), (91, .if_icmp .ne 7, 3, 98, 0, 0), (94, .iconst 1, 1, 1, 0, 0), (95, .goto 4, 3, 99, 0, 0)],
  [(98, .iconst 0, 1, 0, 0, 0), (99, .iastore, 1, 0, 0, 0), (100, .aload_n f0, 1, 0, 0, 0), (101, .getfield 15, 3, 2, 1, 1), (104, .bipush 6, 2, 6, 0, 0), (106, .aload_n f1, 1, 0, 0, 0), (107, .getfield 23, 3, 10, 0, 1), (110, .getfield 29, 3, 0, 5, 1)],
  [(113, .iload_n f3, 1, 0, 0, 0), (114, .iaload, 1, 0, 0, 0), (115, .iastore, 1, 0, 0, 0), (116, .aload_n f0, 1, 0, 0, 0), (117, .getfield 15, 3, 2, 1, 1), (120, .bipush 7, 2, 7, 0, 0), (122, .aload_n f2, 1, 0, 0, 0), (123, .invokevirtual 124, 3, 60, 0, 21), (126, .iastore, 1, 0, 0, 0), (127, .aload_n f0, 1, 0, 0, 0)],
  [(128, .getfield 15, 3, 2, 1, 1), (131, .bipush 8, 2, 8, 0, 0), (133, .aload_n f2, 1, 0, 0, 0), (134, .invokevirtual 52, 3, 59, 0, 21), (137, .iastore, 1, 0, 0, 0), (138, .aload_n f0, 1, 0, 0, 0), (139, .getfield 15, 3, 2, 1, 1), (142, .bipush 9, 2, 9, 0, 0)],
  [(144, .aload_n f2, 1, 0, 0, 0), (145, .getfield 109, 3, 5, 3, 1), (148, .iload_n f3, 1, 0, 0, 0), (149, .iaload, 1, 0, 0, 0), (150, .iastore, 1, 0, 0, 0), (151, .return_, 1, 0, 0, 0)]]
/-- ToolUnion$Judge.reckon(LToolUnion$Law;II)I -/
def cd_62_0 : List (List EEw) := [
  [(0, .iconst 0, 1, 0, 0, 0), (1, .istore 4, 2, 0, 0, 0), (3, .iload_n f2, 1, 0, 0, 0), (4, .istore 5, 2, 0, 0, 0), (6, .iload 5, 2, 0, 0, 0), (8, .ifCond .lt 408, 3, 416, 0, 0), (11, .iload 5, 2, 0, 0, 0), (13, .iload_n f3, 1, 0, 0, 0), (14, .if_icmp .ge 402, 3, 416, 0, 0)],
  [(17, .iload 5, 2, 0, 0, 0), (19, .sipush 400, 3, 400, 0, 0), (22, .if_icmp .ge 394, 3, 416, 0, 0), (25, .aload_n f1, 1, 0, 0, 0), (26, .getfield 133, 3, 3, 6, 1), (29, .iload 5, 2, 0, 0, 0), (31, .iaload, 1, 0, 0, 0)],
  [(32, .bipush 15, 2, 15, 0, 0), (34, .iand, 1, 0, 0, 0), (35, .istore 6, 2, 0, 0, 0), (37, .aload_n f1, 1, 0, 0, 0), (38, .getfield 133, 3, 3, 6, 1), (41, .iload 5, 2, 0, 0, 0), (43, .iaload, 1, 0, 0, 0), (44, .iconst 4, 1, 4, 0, 0), (45, .ishr, 1, 0, 0, 0), (46, .istore 7, 2, 0, 0, 0)],
  [(48, .iload 6, 2, 0, 0, 0), (50, .iconst 1, 1, 1, 0, 0), (51, .if_icmp .gt 61, 3, 112, 0, 0), (54, .iload 4, 2, 0, 0, 0), (56, .bipush 64, 2, 64, 0, 0), (58, .if_icmp .ge 21, 3, 79, 0, 0), (61, .iload 6, 2, 0, 0, 0), (63, .iconst 1, 1, 1, 0, 0)],
  [(64, .if_icmp .ne 17, 3, 81, 0, 0), (67, .iload 7, 2, 0, 0, 0), (69, .ifCond .lt 10, 3, 79, 0, 0), (72, .iload 7, 2, 0, 0, 0), (74, .bipush 10, 2, 10, 0, 0), (76, .if_icmp .lt 5, 3, 81, 0, 0), (79, .iconst 0, 1, 0, 0, 0)],
  [(80, .ireturn, 1, 0, 0, 0), (81, .aload_n f0, 1, 0, 0, 0), (82, .getfield 11, 3, 2, 0, 1), (85, .iload 4, 2, 0, 0, 0), (87, .iload 6, 2, 0, 0, 0), (89, .iconst 1, 1, 1, 0, 0), (90, .if_icmp .ne 13, 3, 103, 0, 0), (93, .aload_n f0, 1, 0, 0, 0), (94, .getfield 15, 3, 2, 1, 1)],
  [(97, .iload 7, 2, 0, 0, 0), (99, .iaload, 1, 0, 0, 0), (100, .goto 5, 3, 105, 0, 0), (103, .iload 7, 2, 0, 0, 0), (105, .iastore, 1, 0, 0, 0), (106, .iinc 4 1, 3, 0, 0, 0), (109, .goto 301, 3, 410, 0, 0)],
  [(112, .iload 6, 2, 0, 0, 0), (114, .iconst 3, 1, 3, 0, 0), (115, .if_icmp .gt 66, 3, 181, 0, 0), (118, .iload 4, 2, 0, 0, 0), (120, .iconst 1, 1, 1, 0, 0), (121, .if_icmp .lt 14, 3, 135, 0, 0), (124, .iload 6, 2, 0, 0, 0), (126, .iconst 2, 1, 2, 0, 0), (127, .if_icmp .ne 10, 3, 137, 0, 0)],
  [(130, .iload 7, 2, 0, 0, 0), (132, .ifCond .ne 5, 3, 137, 0, 0), (135, .iconst 0, 1, 0, 0, 0), (136, .ireturn, 1, 0, 0, 0), (137, .aload_n f0, 1, 0, 0, 0), (138, .getfield 11, 3, 2, 0, 1), (141, .iload 4, 2, 0, 0, 0), (143, .iconst 1, 1, 1, 0, 0)],
  [(144, .isub, 1, 0, 0, 0), (145, .iload 6, 2, 0, 0, 0), (147, .iconst 3, 1, 3, 0, 0), (148, .if_icmp .ne 17, 3, 165, 0, 0), (151, .iconst 1, 1, 1, 0, 0), (152, .aload_n f0, 1, 0, 0, 0), (153, .getfield 11, 3, 2, 0, 1), (156, .iload 4, 2, 0, 0, 0), (158, .iconst 1, 1, 1, 0, 0), (159, .isub, 1, 0, 0, 0)],
  [(160, .iaload, 1, 0, 0, 0), (161, .isub, 1, 0, 0, 0), (162, .goto 15, 3, 177, 0, 0), (165, .aload_n f0, 1, 0, 0, 0), (166, .getfield 11, 3, 2, 0, 1), (169, .iload 4, 2, 0, 0, 0), (171, .iconst 1, 1, 1, 0, 0), (172, .isub, 1, 0, 0, 0), (173, .iaload, 1, 0, 0, 0), (174, .iload 7, 2, 0, 0, 0)],
  [(176, .idiv, 1, 0, 0, 0), (177, .iastore, 1, 0, 0, 0), (178, .goto 232, 3, 410, 0, 0), (181, .iload 4, 2, 0, 0, 0), (183, .iconst 2, 1, 2, 0, 0), (184, .if_icmp .ge 5, 3, 189, 0, 0), (187, .iconst 0, 1, 0, 0, 0), (188, .ireturn, 1, 0, 0, 0), (189, .iinc 4 (-1), 3, 0, 0, 0)]]
def cd_62_1 : List (List EEw) := [
  [(192, .aload_n f0, 1, 0, 0, 0), (193, .getfield 11, 3, 2, 0, 1), (196, .iload 4, 2, 0, 0, 0), (198, .iconst 1, 1, 1, 0, 0), (199, .isub, 1, 0, 0, 0), (200, .iaload, 1, 0, 0, 0), (201, .istore 8, 2, 0, 0, 0), (203, .aload_n f0, 1, 0, 0, 0), (204, .getfield 11, 3, 2, 0, 1), (207, .iload 4, 2, 0, 0, 0)],
  [(209, .iaload, 1, 0, 0, 0), (210, .istore 9, 2, 0, 0, 0), (212, .iload 6, 2, 0, 0, 0), (214, .tableswitch 182 4 10 #[42, 59, 76, 93, 117, 141, 165], 42, 4, 396, 0)],
  [],
  [],
  [(256, .aload_n f0, 1, 0, 0, 0), (257, .getfield 11, 3, 2, 0, 1), (260, .iload 4, 2, 0, 0, 0), (262, .iconst 1, 1, 1, 0, 0), (263, .isub, 1, 0, 0, 0), (264, .iload 8, 2, 0, 0, 0), (266, .iload 9, 2, 0, 0, 0), (268, .iadd, 1, 0, 0, 0), (269, .iastore, 1, 0, 0, 0), (270, .goto 140, 3, 410, 0, 0)],
  [(273, .aload_n f0, 1, 0, 0, 0), (274, .getfield 11, 3, 2, 0, 1), (277, .iload 4, 2, 0, 0, 0), (279, .iconst 1, 1, 1, 0, 0), (280, .isub, 1, 0, 0, 0), (281, .iload 8, 2, 0, 0, 0), (283, .iload 9, 2, 0, 0, 0), (285, .isub, 1, 0, 0, 0), (286, .iastore, 1, 0, 0, 0), (287, .goto 123, 3, 410, 0, 0)],
  [(290, .aload_n f0, 1, 0, 0, 0), (291, .getfield 11, 3, 2, 0, 1), (294, .iload 4, 2, 0, 0, 0), (296, .iconst 1, 1, 1, 0, 0), (297, .isub, 1, 0, 0, 0), (298, .iload 8, 2, 0, 0, 0), (300, .iload 9, 2, 0, 0, 0), (302, .imul, 1, 0, 0, 0), (303, .iastore, 1, 0, 0, 0)],
  [(304, .goto 106, 3, 410, 0, 0), (307, .aload_n f0, 1, 0, 0, 0), (308, .getfield 11, 3, 2, 0, 1), (311, .iload 4, 2, 0, 0, 0), (313, .iconst 1, 1, 1, 0, 0), (314, .isub, 1, 0, 0, 0), (315, .iload 8, 2, 0, 0, 0), (317, .iload 9, 2, 0, 0, 0), (319, .if_icmp .ge 7, 3, 326, 0, 0)],
  [(322, .iconst 1, 1, 1, 0, 0), (323, .goto 4, 3, 327, 0, 0), (326, .iconst 0, 1, 0, 0, 0), (327, .iastore, 1, 0, 0, 0), (328, .goto 82, 3, 410, 0, 0), (331, .aload_n f0, 1, 0, 0, 0), (332, .getfield 11, 3, 2, 0, 1), (335, .iload 4, 2, 0, 0, 0)],
  [(337, .iconst 1, 1, 1, 0, 0), (338, .isub, 1, 0, 0, 0), (339, .iload 8, 2, 0, 0, 0), (341, .iload 9, 2, 0, 0, 0), (343, .if_icmp .ne 7, 3, 350, 0, 0), (346, .iconst 1, 1, 1, 0, 0), (347, .goto 4, 3, 351, 0, 0), (350, .iconst 0, 1, 0, 0, 0), (351, .iastore, 1, 0, 0, 0)],
  [(352, .goto 58, 3, 410, 0, 0), (355, .aload_n f0, 1, 0, 0, 0), (356, .getfield 11, 3, 2, 0, 1), (359, .iload 4, 2, 0, 0, 0), (361, .iconst 1, 1, 1, 0, 0), (362, .isub, 1, 0, 0, 0), (363, .iload 8, 2, 0, 0, 0), (365, .iload 9, 2, 0, 0, 0), (367, .if_icmp .le 7, 3, 374, 0, 0)],
  [(370, .iconst 1, 1, 1, 0, 0), (371, .goto 4, 3, 375, 0, 0), (374, .iconst 0, 1, 0, 0, 0), (375, .iastore, 1, 0, 0, 0), (376, .goto 34, 3, 410, 0, 0), (379, .aload_n f0, 1, 0, 0, 0), (380, .getfield 11, 3, 2, 0, 1), (383, .iload 4, 2, 0, 0, 0)]]
def cd_62_2 : List (List EEw) := [
  [(385, .iconst 1, 1, 1, 0, 0), (386, .isub, 1, 0, 0, 0), (387, .iload 8, 2, 0, 0, 0), (389, .iload 9, 2, 0, 0, 0), (391, .iand, 1, 0, 0, 0), (392, .iastore, 1, 0, 0, 0), (393, .goto 17, 3, 410, 0, 0), (396, .aload_n f0, 1, 0, 0, 0), (397, .getfield 11, 3, 2, 0, 1)],
  [(400, .iload 4, 2, 0, 0, 0), (402, .iconst 1, 1, 1, 0, 0), (403, .isub, 1, 0, 0, 0), (404, .iload 8, 2, 0, 0, 0), (406, .iload 9, 2, 0, 0, 0), (408, .ior, 1, 0, 0, 0), (409, .iastore, 1, 0, 0, 0), (410, .iinc 5 1, 3, 0, 0, 0), (413, .goto (-407), 3, 6, 0, 0)],
  [(416, .iload 4, 2, 0, 0, 0), (418, .ifCond .le 12, 3, 430, 0, 0), (421, .aload_n f0, 1, 0, 0, 0), (422, .getfield 11, 3, 2, 0, 1), (425, .iconst 0, 1, 0, 0, 0), (426, .iaload, 1, 0, 0, 0), (427, .goto 4, 3, 431, 0, 0), (430, .iconst 0, 1, 0, 0, 0), (431, .ireturn, 1, 0, 0, 0)]]
def cd_62 : List (List EEw) := cd_62_0 ++ (cd_62_1 ++ (cd_62_2))
/-- ToolUnion$Judge.firstLine(LToolUnion$Law;I)I -/
def cd_63 : List (List EEw) := [
  [(0, .iconst 0, 1, 0, 0, 0), (1, .istore_n f3, 1, 0, 0, 0), (2, .iload_n f3, 1, 0, 0, 0), (3, .aload_n f1, 1, 0, 0, 0), (4, .getfield 127, 3, 3, 0, 0), (7, .if_icmp .ge 68, 3, 75, 0, 0), (10, .iload_n f3, 1, 0, 0, 0), (11, .bipush 16, 2, 16, 0, 0), (13, .if_icmp .ge 62, 3, 75, 0, 0)],
  [(16, .iload_n f2, 1, 0, 0, 0), (17, .iconst (-1), 1, 4294967295, 0, 0), (18, .if_icmp .eq 13, 3, 31, 0, 0), (21, .aload_n f1, 1, 0, 0, 0), (22, .getfield 71, 3, 3, 2, 1), (25, .iload_n f3, 1, 0, 0, 0), (26, .iaload, 1, 0, 0, 0), (27, .iload_n f2, 1, 0, 0, 0), (28, .if_icmp .ne 41, 3, 69, 0, 0), (31, .aload_n f1, 1, 0, 0, 0)],
  [(32, .getfield 84, 3, 3, 4, 1), (35, .iload_n f3, 1, 0, 0, 0), (36, .iaload, 1, 0, 0, 0), (37, .aload_n f1, 1, 0, 0, 0), (38, .getfield 130, 3, 3, 5, 1), (41, .iload_n f3, 1, 0, 0, 0), (42, .iaload, 1, 0, 0, 0), (43, .if_icmp .eq 24, 3, 67, 0, 0), (46, .aload_n f0, 1, 0, 0, 0), (47, .aload_n f1, 1, 0, 0, 0)],
  [(48, .aload_n f1, 1, 0, 0, 0), (49, .getfield 84, 3, 3, 4, 1), (52, .iload_n f3, 1, 0, 0, 0), (53, .iaload, 1, 0, 0, 0), (54, .aload_n f1, 1, 0, 0, 0), (55, .getfield 130, 3, 3, 5, 1), (58, .iload_n f3, 1, 0, 0, 0), (59, .iaload, 1, 0, 0, 0), (60, .invokevirtual 87, 3, 62, 3, 9), (63, .iconst 1, 1, 1, 0, 0)],
  [(64, .if_icmp .ne 5, 3, 69, 0, 0), (67, .iload_n f3, 1, 0, 0, 0), (68, .ireturn, 1, 0, 0, 0), (69, .iinc 3 1, 3, 0, 0, 0), (72, .goto (-70), 3, 2, 0, 0), (75, .iconst (-1), 1, 4294967295, 0, 0), (76, .ireturn, 1, 0, 0, 0)]]
/-- ToolUnion$Judge.isWilling(LToolUnion$Yard;LToolUnion$Moves;II)Z -/
def cd_64 : List (List EEw) := [
  [(0, .aload_n f2, 1, 0, 0, 0), (1, .getfield 45, 3, 5, 8, 0), (4, .aload_n f1, 1, 0, 0, 0), (5, .getfield 23, 3, 10, 0, 1), (8, .getfield 29, 3, 0, 5, 1), (11, .iload_n f3, 1, 0, 0, 0), (12, .iaload, 1, 0, 0, 0), (13, .invokestatic 37, 3, 48, 2, 1)],
  [(16, .ifCond .ne 28, 3, 44, 0, 0), (19, .aload_n f1, 1, 0, 0, 0), (20, .getfield 23, 3, 10, 0, 1), (23, .getfield 49, 3, 0, 8, 1), (26, .iload_n f3, 1, 0, 0, 0), (27, .iaload, 1, 0, 0, 0), (28, .aload_n f2, 1, 0, 0, 0), (29, .invokevirtual 52, 3, 59, 0, 21)],
  [(32, .if_icmp .eq 12, 3, 44, 0, 0), (35, .aload_n f2, 1, 0, 0, 0), (36, .getfield 56, 3, 5, 0, 1), (39, .iload_n f3, 1, 0, 0, 0), (40, .iaload, 1, 0, 0, 0), (41, .ifCond .gt 5, 3, 46, 0, 0), (44, .iconst 0, 1, 0, 0, 0), (45, .ireturn, 1, 0, 0, 1), (46, .aload_n f0, 1, 0, 0, 0), (47, .aload_n f1, 1, 0, 0, 0)],
  [(48, .aload_n f2, 1, 0, 0, 0), (49, .iload_n f3, 1, 0, 0, 0), (50, .iload 4, 2, 0, 0, 0), (52, .invokevirtual 59, 3, 61, 4, 8), (55, .aload_n f0, 1, 0, 0, 0), (56, .aload_n f1, 1, 0, 0, 0), (57, .getfield 63, 3, 10, 4, 1), (60, .iconst (-1), 1, 4294967295, 0, 0), (61, .invokevirtual 67, 3, 63, 2, 9)],
  [(64, .istore 5, 2, 0, 0, 0), (66, .iload 5, 2, 0, 0, 0), (68, .iconst (-1), 1, 4294967295, 0, 0), (69, .if_icmp .eq 18, 3, 87, 0, 0), (72, .aload_n f1, 1, 0, 0, 0), (73, .getfield 63, 3, 10, 4, 1), (76, .getfield 71, 3, 3, 2, 1), (79, .iload 5, 2, 0, 0, 0)],
  [(81, .iaload, 1, 0, 0, 0), (82, .bipush 100, 2, 100, 0, 0), (84, .if_icmp .ne 7, 3, 91, 0, 0), (87, .iconst 1, 1, 1, 0, 0), (88, .goto 4, 3, 92, 0, 0), (91, .iconst 0, 1, 0, 0, 0), (92, .ireturn, 1, 0, 0, 1)]]
/-- ToolUnion$Judge.isServing(LToolUnion$Yard;LToolUnion$Moves;II)Z -/
def cd_65 : List (List EEw) := [
  [(0, .aload_n f2, 1, 0, 0, 0), (1, .getfield 18, 3, 5, 5, 1), (4, .aload_n f1, 1, 0, 0, 0), (5, .getfield 23, 3, 10, 0, 1), (8, .getfield 29, 3, 0, 5, 1), (11, .iload_n f3, 1, 0, 0, 0), (12, .iaload, 1, 0, 0, 0), (13, .iconst 3, 1, 3, 0, 0), (14, .iand, 1, 0, 0, 0), (15, .iaload, 1, 0, 0, 0)],
  [(16, .aload_n f1, 1, 0, 0, 0), (17, .getfield 23, 3, 10, 0, 1), (20, .getfield 34, 3, 0, 4, 1), (23, .iload_n f3, 1, 0, 0, 0), (24, .iaload, 1, 0, 0, 0), (25, .invokestatic 37, 3, 48, 2, 1), (28, .istore 5, 2, 0, 0, 0), (30, .iload 5, 2, 0, 0, 0)],
  [(32, .ifCond .eq 19, 3, 51, 0, 0), (35, .aload_n f0, 1, 0, 0, 0), (36, .aload_n f1, 1, 0, 0, 0), (37, .aload_n f2, 1, 0, 0, 0), (38, .iload_n f3, 1, 0, 0, 0), (39, .iload 4, 2, 0, 0, 0), (41, .invokevirtual 41, 3, 64, 4, 9), (44, .ifCond .eq 7, 3, 51, 0, 0), (47, .iconst 1, 1, 1, 0, 0)],
  [(48, .goto 4, 3, 52, 0, 0), (51, .iconst 0, 1, 0, 0, 0), (52, .ireturn, 1, 0, 0, 1)]]
/-- ToolUnion$Shift.refuse(II)V -/
def cd_66 : List (List EEw) := [
  [(0, .aload_n f0, 1, 0, 0, 0), (1, .getfield 15, 3, 9, 1, 0), (4, .ifCond .ne 13, 3, 17, 0, 0), (7, .aload_n f0, 1, 0, 0, 0), (8, .iload_n f1, 1, 0, 0, 0), (9, .putfield 18, 3, 9, 2, 0), (12, .aload_n f0, 1, 0, 0, 0), (13, .iload_n f2, 1, 0, 0, 0), (14, .putfield 21, 3, 9, 3, 0)],
  [(17, .aload_n f0, 1, 0, 0, 0), (18, .dup, 1, 0, 0, 0), (19, .getfield 15, 3, 9, 1, 0), (22, .iconst 1, 1, 1, 0, 0), (23, .iadd, 1, 0, 0, 0), (24, .putfield 15, 3, 9, 1, 0), (27, .return_, 1, 0, 0, 0)]]
/-- ToolUnion$Judge.whatEdgesTell(LToolUnion$Yard;LToolUnion$Moves;III)I -/
def cd_67 : List (List EEw) := [
  [(0, .aload_n f0, 1, 0, 0, 0), (1, .aload_n f1, 1, 0, 0, 0), (2, .aload_n f2, 1, 0, 0, 0), (3, .iload_n f3, 1, 0, 0, 0), (4, .iload 4, 2, 0, 0, 0), (6, .invokevirtual 59, 3, 61, 4, 8), (9, .aload_n f1, 1, 0, 0, 0), (10, .getfield 78, 3, 10, 5, 1), (13, .astore 6, 2, 0, 0, 0), (15, .aload_n f0, 1, 0, 0, 0)],
  [(16, .aload 6, 2, 0, 0, 0), (18, .bipush 102, 2, 102, 0, 0), (20, .iload 5, 2, 0, 0, 0), (22, .iadd, 1, 0, 0, 0), (23, .invokevirtual 67, 3, 63, 2, 9), (26, .istore 7, 2, 0, 0, 0), (28, .iload 5, 2, 0, 0, 0), (30, .ifCond .ne 7, 3, 37, 0, 0)],
  [(33, .iconst 1, 1, 1, 0, 0), (34, .goto 4, 3, 38, 0, 0), (37, .iconst 0, 1, 0, 0, 0), (38, .istore 8, 2, 0, 0, 0), (40, .iload 7, 2, 0, 0, 0), (42, .iconst (-1), 1, 4294967295, 0, 0), (43, .if_icmp .eq 27, 3, 70, 0, 0), (46, .aload_n f0, 1, 0, 0, 0), (47, .aload 6, 2, 0, 0, 0)],
  [(49, .aload 6, 2, 0, 0, 0), (51, .getfield 81, 3, 3, 3, 1), (54, .iload 7, 2, 0, 0, 0), (56, .iaload, 1, 0, 0, 0), (57, .aload 6, 2, 0, 0, 0), (59, .getfield 84, 3, 3, 4, 1), (62, .iload 7, 2, 0, 0, 0)],
  [(64, .iaload, 1, 0, 0, 0), (65, .invokevirtual 87, 3, 62, 3, 9), (68, .istore 8, 2, 0, 0, 0), (70, .iload 5, 2, 0, 0, 0), (72, .lookupswitch 47 #[(0, 28), (1, 37)], 28, 0, 119, 0)],
  [],
  [(100, .iload 8, 2, 0, 0, 0), (102, .iconst 0, 1, 0, 0, 0), (103, .bipush 20, 2, 20, 0, 0), (105, .invokestatic 91, 3, 39, 3, 1), (108, .ireturn, 1, 0, 0, 0), (109, .iload 8, 2, 0, 0, 0), (111, .bipush (-20), 2, 4294967276, 0, 0)],
  [(113, .bipush 20, 2, 20, 0, 0), (115, .invokestatic 91, 3, 39, 3, 1), (118, .ireturn, 1, 0, 0, 0), (119, .iload 8, 2, 0, 0, 0), (121, .sipush (-999), 3, 4294966297, 0, 0), (124, .sipush 999, 3, 999, 0, 0), (127, .invokestatic 91, 3, 39, 3, 1)],
  [(130, .ireturn, 1, 0, 0, 0)]]
/-- ToolUnion$Judge.workAnHour(LToolUnion$Yard;LToolUnion$Moves;II)V -/
def cd_68 : List (List EEw) := [
  [(0, .aload_n f0, 1, 0, 0, 0), (1, .aload_n f1, 1, 0, 0, 0), (2, .aload_n f2, 1, 0, 0, 0), (3, .iload_n f3, 1, 0, 0, 0), (4, .iload 4, 2, 0, 0, 0), (6, .iconst 0, 1, 0, 0, 0), (7, .invokevirtual 95, 3, 67, 5, 9), (10, .istore 5, 2, 0, 0, 0), (12, .aload_n f0, 1, 0, 0, 0), (13, .aload_n f1, 1, 0, 0, 0), (14, .aload_n f2, 1, 0, 0, 0), (15, .iload_n f3, 1, 0, 0, 0)],
  [(16, .iload 4, 2, 0, 0, 0), (18, .iconst 1, 1, 1, 0, 0), (19, .invokevirtual 95, 3, 67, 5, 9), (22, .istore 6, 2, 0, 0, 0), (24, .aload_n f2, 1, 0, 0, 0), (25, .iload_n f3, 1, 0, 0, 0), (26, .iload 5, 2, 0, 0, 0), (28, .ineg, 1, 0, 0, 0), (29, .invokevirtual 99, 3, 41, 2, 20)],
  [(32, .aload_n f2, 1, 0, 0, 0), (33, .iload_n f3, 1, 0, 0, 0), (34, .iload 6, 2, 0, 0, 0), (36, .invokevirtual 103, 3, 40, 2, 20), (39, .aload_n f2, 1, 0, 0, 0), (40, .getfield 106, 3, 5, 2, 1), (43, .iload_n f3, 1, 0, 0, 0), (44, .dup2, 1, 0, 0, 0), (45, .iaload, 1, 0, 0, 0), (46, .iconst 1, 1, 1, 0, 0), (47, .iadd, 1, 0, 0, 0)],
  [(48, .iastore, 1, 0, 0, 0), (49, .aload_n f2, 1, 0, 0, 0), (50, .getfield 109, 3, 5, 3, 1), (53, .iload_n f3, 1, 0, 0, 0), (54, .dup2, 1, 0, 0, 0), (55, .iaload, 1, 0, 0, 0), (56, .iconst 1, 1, 1, 0, 0), (57, .iadd, 1, 0, 0, 0), (58, .iastore, 1, 0, 0, 0), (59, .return_, 1, 0, 0, 0)]]
/-- ToolUnion$Shift.write(LToolUnion$Yard;III)V -/
def cd_69 : List (List EEw) := [
  [(0, .aload_n f1, 1, 0, 0, 0), (1, .getfield 120, 3, 10, 1, 1), (4, .getfield 124, 3, 5, 9, 0), (7, .istore 5, 2, 0, 0, 0), (9, .iload 5, 2, 0, 0, 0), (11, .ifCond .lt 75, 3, 86, 0, 0), (14, .iload 5, 2, 0, 0, 0)],
  [(16, .sipush 200, 3, 200, 0, 0), (19, .if_icmp .ge 67, 3, 86, 0, 0), (22, .aload_n f1, 1, 0, 0, 0), (23, .getfield 127, 3, 10, 6, 1), (26, .iconst 4, 1, 4, 0, 0), (27, .iload 5, 2, 0, 0, 0), (29, .imul, 1, 0, 0, 0), (30, .aload_n f1, 1, 0, 0, 0), (31, .getfield 120, 3, 10, 1, 1)],
  [(34, .getfield 44, 3, 5, 6, 0), (37, .iastore, 1, 0, 0, 0), (38, .aload_n f1, 1, 0, 0, 0), (39, .getfield 127, 3, 10, 6, 1), (42, .iconst 4, 1, 4, 0, 0), (43, .iload 5, 2, 0, 0, 0), (45, .imul, 1, 0, 0, 0), (46, .iconst 1, 1, 1, 0, 0), (47, .iadd, 1, 0, 0, 0)],
  [(48, .iload_n f2, 1, 0, 0, 0), (49, .iastore, 1, 0, 0, 0), (50, .aload_n f1, 1, 0, 0, 0), (51, .getfield 127, 3, 10, 6, 1), (54, .iconst 4, 1, 4, 0, 0), (55, .iload 5, 2, 0, 0, 0), (57, .imul, 1, 0, 0, 0), (58, .iconst 2, 1, 2, 0, 0), (59, .iadd, 1, 0, 0, 0), (60, .iload_n f3, 1, 0, 0, 0), (61, .iastore, 1, 0, 0, 0), (62, .aload_n f1, 1, 0, 0, 0), (63, .getfield 127, 3, 10, 6, 1)],
  [(66, .iconst 4, 1, 4, 0, 0), (67, .iload 5, 2, 0, 0, 0), (69, .imul, 1, 0, 0, 0), (70, .iconst 3, 1, 3, 0, 0), (71, .iadd, 1, 0, 0, 0), (72, .iload 4, 2, 0, 0, 0), (74, .iastore, 1, 0, 0, 0), (75, .aload_n f1, 1, 0, 0, 0), (76, .getfield 120, 3, 10, 1, 1), (79, .iload 5, 2, 0, 0, 0)],
  [(81, .iconst 1, 1, 1, 0, 0), (82, .iadd, 1, 0, 0, 0), (83, .putfield 124, 3, 5, 9, 0), (86, .return_, 1, 0, 0, 0)]]
/-- ToolUnion$Shift.goBy(LToolUnion$Yard;LToolUnion$Moves;LToolUnion$Judge;IZ)V -/
def cd_70_0 : List (List EEw) := [
  [(0, .aload_n f1, 1, 0, 0, 0), (1, .getfield 33, 3, 10, 3, 1), (4, .getfield 72, 3, 8, 1, 1), (7, .iload 4, 2, 0, 0, 0), (9, .iaload, 1, 0, 0, 0), (10, .bipush 7, 2, 7, 0, 0), (12, .iand, 1, 0, 0, 0), (13, .istore 6, 2, 0, 0, 0), (15, .aload_n f1, 1, 0, 0, 0)],
  [(16, .getfield 33, 3, 10, 3, 1), (19, .getfield 76, 3, 8, 2, 1), (22, .iload 4, 2, 0, 0, 0), (24, .iaload, 1, 0, 0, 0), (25, .iconst 3, 1, 3, 0, 0), (26, .iand, 1, 0, 0, 0), (27, .istore 7, 2, 0, 0, 0), (29, .aload_n f1, 1, 0, 0, 0), (30, .getfield 33, 3, 10, 3, 1)],
  [(33, .getfield 79, 3, 8, 3, 1), (36, .iload 4, 2, 0, 0, 0), (38, .iaload, 1, 0, 0, 0), (39, .bipush 7, 2, 7, 0, 0), (41, .iand, 1, 0, 0, 0), (42, .istore 8, 2, 0, 0, 0), (44, .aload_n f0, 1, 0, 0, 0), (45, .getfield 27, 3, 9, 5, 0)],
  [(48, .iload 6, 2, 0, 0, 0), (50, .invokestatic 82, 3, 48, 2, 1), (53, .ifCond .ne 19, 3, 72, 0, 0), (56, .aload_n f0, 1, 0, 0, 0), (57, .getfield 30, 3, 9, 6, 0), (60, .iload 7, 2, 0, 0, 0), (62, .invokestatic 82, 3, 48, 2, 1)],
  [(65, .ifCond .ne 7, 3, 72, 0, 0), (68, .iconst 1, 1, 1, 0, 0), (69, .goto 4, 3, 73, 0, 0), (72, .iconst 0, 1, 0, 0, 0), (73, .istore 9, 2, 0, 0, 0), (75, .aload_n f1, 1, 0, 0, 0), (76, .getfield 85, 3, 10, 2, 1), (79, .aload_n f2, 1, 0, 0, 0)],
  [(80, .iload 8, 2, 0, 0, 0), (82, .invokevirtual 89, 3, 58, 2, 5), (85, .ifCond .eq 30, 3, 115, 0, 0), (88, .aload_n f1, 1, 0, 0, 0), (89, .getfield 85, 3, 10, 2, 1), (92, .getfield 95, 3, 1, 1, 1), (95, .iload 8, 2, 0, 0, 0)],
  [(97, .iaload, 1, 0, 0, 0), (98, .aload_n f1, 1, 0, 0, 0), (99, .getfield 57, 3, 10, 0, 1), (102, .getfield 98, 3, 0, 4, 1), (105, .iload 6, 2, 0, 0, 0), (107, .iaload, 1, 0, 0, 0), (108, .if_icmp .ne 7, 3, 115, 0, 0), (111, .iconst 1, 1, 1, 0, 0)],
  [(112, .goto 4, 3, 116, 0, 0), (115, .iconst 0, 1, 0, 0, 0), (116, .istore 10, 2, 0, 0, 0), (118, .iload 9, 2, 0, 0, 0), (120, .ifCond .eq 21, 3, 141, 0, 0), (123, .iload 10, 2, 0, 0, 0), (125, .ifCond .eq 16, 3, 141, 0, 0)],
  [(128, .aload_n f3, 1, 0, 0, 0), (129, .aload_n f1, 1, 0, 0, 0), (130, .aload_n f2, 1, 0, 0, 0), (131, .iload 6, 2, 0, 0, 0), (133, .iload 7, 2, 0, 0, 0), (135, .invokevirtual 99, 3, 65, 4, 9), (138, .ifCond .ne 14, 3, 152, 0, 0), (141, .aload_n f0, 1, 0, 0, 0), (142, .aload_n f2, 1, 0, 0, 0), (143, .getfield 44, 3, 5, 6, 0)],
  [(146, .iload 4, 2, 0, 0, 0), (148, .invokevirtual 105, 3, 66, 2, 36), (151, .return_, 1, 0, 0, 0), (152, .aload_n f3, 1, 0, 0, 0), (153, .aload_n f1, 1, 0, 0, 0), (154, .aload_n f2, 1, 0, 0, 0), (155, .iload 6, 2, 0, 0, 0), (157, .iload 7, 2, 0, 0, 0), (159, .invokevirtual 109, 3, 68, 4, 8)],
  [(162, .aload_n f2, 1, 0, 0, 0), (163, .getfield 113, 3, 5, 4, 1), (166, .iload 8, 2, 0, 0, 0), (168, .dup2, 1, 0, 0, 0), (169, .iaload, 1, 0, 0, 0), (170, .iconst 1, 1, 1, 0, 0), (171, .iadd, 1, 0, 0, 0), (172, .iastore, 1, 0, 0, 0), (173, .aload_n f0, 1, 0, 0, 0), (174, .dup, 1, 0, 0, 0), (175, .getfield 27, 3, 9, 5, 0)],
  [(178, .iconst 1, 1, 1, 0, 0), (179, .iload 6, 2, 0, 0, 0), (181, .ishl, 1, 0, 0, 0), (182, .ior, 1, 0, 0, 0), (183, .putfield 27, 3, 9, 5, 0), (186, .aload_n f0, 1, 0, 0, 0), (187, .dup, 1, 0, 0, 0), (188, .getfield 30, 3, 9, 6, 0), (191, .iconst 1, 1, 1, 0, 0)]]
def cd_70_1 : List (List EEw) := [
  [(192, .iload 7, 2, 0, 0, 0), (194, .ishl, 1, 0, 0, 0), (195, .ior, 1, 0, 0, 0), (196, .putfield 30, 3, 9, 6, 0), (199, .aload_n f0, 1, 0, 0, 0), (200, .dup, 1, 0, 0, 0), (201, .getfield 9, 3, 9, 0, 0), (204, .iconst 1, 1, 1, 0, 0), (205, .iadd, 1, 0, 0, 0), (206, .putfield 9, 3, 9, 0, 0)],
  [(209, .iload 5, 2, 0, 0, 0), (211, .ifCond .eq 14, 3, 225, 0, 0), (214, .aload_n f0, 1, 0, 0, 0), (215, .aload_n f1, 1, 0, 0, 0), (216, .iload 6, 2, 0, 0, 0), (218, .iload 7, 2, 0, 0, 0), (220, .iload 8, 2, 0, 0, 0), (222, .invokevirtual 116, 3, 69, 4, 36)],
  [(225, .return_, 1, 0, 0, 0)]]
def cd_70 : List (List EEw) := cd_70_0 ++ (cd_70_1)
/-- ToolUnion$Moves.draw(I)I -/
def cd_71 : List (List EEw) := [
  [(0, .aload_n f0, 1, 0, 0, 0), (1, .aload_n f0, 1, 0, 0, 0), (2, .getfield 38, 3, 5, 7, 0), (5, .ldc 51, 2, 1664525, 0, 0), (7, .imul, 1, 0, 0, 0), (8, .ldc 52, 2, 1013904223, 0, 0), (10, .iadd, 1, 0, 0, 0), (11, .putfield 38, 3, 5, 7, 0), (14, .iload_n f1, 1, 0, 0, 0), (15, .ifCond .gt 7, 3, 22, 0, 0)],
  [(18, .iconst 0, 1, 0, 0, 0), (19, .goto 12, 3, 31, 0, 0), (22, .aload_n f0, 1, 0, 0, 0), (23, .getfield 38, 3, 5, 7, 0), (26, .bipush 8, 2, 8, 0, 0), (28, .iushr, 1, 0, 0, 0), (29, .iload_n f1, 1, 0, 0, 0), (30, .irem, 1, 0, 0, 0), (31, .ireturn, 1, 0, 0, 0)]]
/-- ToolUnion$Shift.rust(LToolUnion$Crew;LToolUnion$Moves;)V -/
def cd_72 : List (List EEw) := [
  [(0, .iconst 0, 1, 0, 0, 0), (1, .istore_n f3, 1, 0, 0, 0), (2, .iload_n f3, 1, 0, 0, 0), (3, .aload_n f1, 1, 0, 0, 0), (4, .getfield 130, 3, 0, 0, 0), (7, .if_icmp .ge 59, 3, 66, 0, 0), (10, .iload_n f3, 1, 0, 0, 0), (11, .bipush 8, 2, 8, 0, 0), (13, .if_icmp .ge 53, 3, 66, 0, 0)],
  [(16, .aload_n f0, 1, 0, 0, 0), (17, .getfield 27, 3, 9, 5, 0), (20, .iload_n f3, 1, 0, 0, 0), (21, .invokestatic 82, 3, 48, 2, 1), (24, .ifCond .ne 36, 3, 60, 0, 0), (27, .aload_n f2, 1, 0, 0, 0), (28, .getfield 133, 3, 5, 0, 1), (31, .iload_n f3, 1, 0, 0, 0)],
  [(32, .iaload, 1, 0, 0, 0), (33, .ifCond .le 27, 3, 60, 0, 0), (36, .aload_n f2, 1, 0, 0, 0), (37, .sipush 1000, 3, 1000, 0, 0), (40, .invokevirtual 136, 3, 71, 1, 21), (43, .aload_n f1, 1, 0, 0, 0), (44, .getfield 61, 3, 0, 2, 0), (47, .if_icmp .ge 13, 3, 60, 0, 0)],
  [(50, .aload_n f2, 1, 0, 0, 0), (51, .getfield 133, 3, 5, 0, 1), (54, .iload_n f3, 1, 0, 0, 0), (55, .dup2, 1, 0, 0, 0), (56, .iaload, 1, 0, 0, 0), (57, .iconst 1, 1, 1, 0, 0), (58, .isub, 1, 0, 0, 0), (59, .iastore, 1, 0, 0, 0), (60, .iinc 3 1, 3, 0, 0, 0), (63, .goto (-61), 3, 2, 0, 0)],
  [(66, .return_, 1, 0, 0, 0)]]
/-- ToolUnion$Moves.nextHour()V -/
def cd_73 : List (List EEw) := [
  [(0, .aload_n f0, 1, 0, 0, 0), (1, .dup, 1, 0, 0, 0), (2, .getfield 34, 3, 5, 6, 0), (5, .iconst 1, 1, 1, 0, 0), (6, .iadd, 1, 0, 0, 0), (7, .putfield 34, 3, 5, 6, 0), (10, .aload_n f0, 1, 0, 0, 0), (11, .invokevirtual 53, 3, 60, 0, 21), (14, .ifCond .ne 24, 3, 38, 0, 0)],
  [(17, .iconst 0, 1, 0, 0, 0), (18, .istore_n f1, 1, 0, 0, 0), (19, .iload_n f1, 1, 0, 0, 0), (20, .bipush 8, 2, 8, 0, 0), (22, .if_icmp .ge 16, 3, 38, 0, 0), (25, .aload_n f0, 1, 0, 0, 0), (26, .getfield 18, 3, 5, 2, 1), (29, .iload_n f1, 1, 0, 0, 0), (30, .iconst 0, 1, 0, 0, 0), (31, .iastore, 1, 0, 0, 0)],
  [(32, .iinc 1 1, 3, 0, 0, 0), (35, .goto (-16), 3, 19, 0, 0), (38, .return_, 1, 0, 0, 0)]]
/-- ToolUnion$Shift.pass(LToolUnion$Yard;LToolUnion$Moves;LToolUnion$Judge;Z)V -/
def cd_74 : List (List EEw) := [
  [(0, .aload_n f0, 1, 0, 0, 0), (1, .iconst 0, 1, 0, 0, 0), (2, .putfield 27, 3, 9, 5, 0), (5, .aload_n f0, 1, 0, 0, 0), (6, .iconst 0, 1, 0, 0, 0), (7, .putfield 30, 3, 9, 6, 0), (10, .iconst 0, 1, 0, 0, 0), (11, .istore 5, 2, 0, 0, 0), (13, .iload 5, 2, 0, 0, 0), (15, .aload_n f1, 1, 0, 0, 0)],
  [(16, .getfield 33, 3, 10, 3, 1), (19, .getfield 39, 3, 8, 0, 0), (22, .if_icmp .ge 43, 3, 65, 0, 0), (25, .iload 5, 2, 0, 0, 0), (27, .bipush 20, 2, 20, 0, 0), (29, .if_icmp .ge 36, 3, 65, 0, 0)],
  [(32, .aload_n f1, 1, 0, 0, 0), (33, .getfield 33, 3, 10, 3, 1), (36, .iload 5, 2, 0, 0, 0), (38, .aload_n f2, 1, 0, 0, 0), (39, .getfield 44, 3, 5, 6, 0), (42, .invokevirtual 49, 3, 56, 2, 33), (45, .ifCond .eq 14, 3, 59, 0, 0)],
  [(48, .aload_n f0, 1, 0, 0, 0), (49, .aload_n f1, 1, 0, 0, 0), (50, .aload_n f2, 1, 0, 0, 0), (51, .aload_n f3, 1, 0, 0, 0), (52, .iload 5, 2, 0, 0, 0), (54, .iload 4, 2, 0, 0, 0), (56, .invokevirtual 53, 3, 70, 5, 36), (59, .iinc 5 1, 3, 0, 0, 0), (62, .goto (-49), 3, 13, 0, 0)],
  [(65, .aload_n f0, 1, 0, 0, 0), (66, .dup, 1, 0, 0, 0), (67, .getfield 24, 3, 9, 4, 0), (70, .aload_n f0, 1, 0, 0, 0), (71, .getfield 27, 3, 9, 5, 0), (74, .ior, 1, 0, 0, 0), (75, .putfield 24, 3, 9, 4, 0), (78, .iload 4, 2, 0, 0, 0)],
  [(80, .ifCond .eq 22, 3, 102, 0, 0), (83, .aload_n f1, 1, 0, 0, 0), (84, .getfield 57, 3, 10, 0, 1), (87, .getfield 61, 3, 0, 2, 0), (90, .ifCond .le 12, 3, 102, 0, 0), (93, .aload_n f0, 1, 0, 0, 0), (94, .aload_n f1, 1, 0, 0, 0), (95, .getfield 57, 3, 10, 0, 1)],
  [(98, .aload_n f2, 1, 0, 0, 0), (99, .invokevirtual 66, 3, 72, 2, 36), (102, .aload_n f2, 1, 0, 0, 0), (103, .invokevirtual 69, 3, 73, 0, 20), (106, .return_, 1, 0, 0, 0)]]
/-- ToolUnion.hours(I)I -/
def cd_75 : List (List EEw) := [
  [(0, .iload_n f1, 1, 0, 0, 0), (1, .iconst 1, 1, 1, 0, 0), (2, .if_icmp .lt 27, 3, 29, 0, 0), (5, .iload_n f1, 1, 0, 0, 0), (6, .bipush 60, 2, 60, 0, 0), (8, .if_icmp .gt 21, 3, 29, 0, 0), (11, .aload_n f0, 1, 0, 0, 0), (12, .getfield 10, 3, 11, 0, 1), (15, .getfield 65, 3, 10, 1, 1)],
  [(18, .getfield 167, 3, 5, 6, 0), (21, .iload_n f1, 1, 0, 0, 0), (22, .iadd, 1, 0, 0, 0), (23, .sipush 9999, 3, 9999, 0, 0), (26, .if_icmp .le 5, 3, 31, 0, 0), (29, .iconst (-1), 1, 4294967295, 0, 0), (30, .ireturn, 1, 0, 0, 0), (31, .aload_n f0, 1, 0, 0, 0)],
  [(32, .getfield 47, 3, 11, 9, 1), (35, .invokevirtual 170, 3, 55, 0, 36), (38, .iconst 0, 1, 0, 0, 0), (39, .istore_n f2, 1, 0, 0, 0), (40, .iload_n f2, 1, 0, 0, 0), (41, .iload_n f1, 1, 0, 0, 0), (42, .if_icmp .ge 36, 3, 78, 0, 0), (45, .aload_n f0, 1, 0, 0, 0), (46, .invokevirtual 144, 3, 37, 0, 44)],
  [(49, .aload_n f0, 1, 0, 0, 0), (50, .getfield 47, 3, 11, 9, 1), (53, .aload_n f0, 1, 0, 0, 0), (54, .getfield 10, 3, 11, 0, 1), (57, .aload_n f0, 1, 0, 0, 0), (58, .getfield 10, 3, 11, 0, 1), (61, .getfield 65, 3, 10, 1, 1)],
  [(64, .aload_n f0, 1, 0, 0, 0), (65, .getfield 40, 3, 11, 8, 1), (68, .iconst 1, 1, 1, 0, 0), (69, .invokevirtual 172, 3, 74, 4, 36), (72, .iinc 2 1, 3, 0, 0, 0), (75, .goto (-35), 3, 40, 0, 0), (78, .aload_n f0, 1, 0, 0, 0), (79, .getfield 47, 3, 11, 9, 1)],
  [(82, .getfield 176, 3, 9, 1, 0), (85, .ireturn, 1, 0, 0, 0)]]
/-- ToolUnionModel.ofWork(II)I -/
def cd_76 : List (List EEw) := [
  [(0, .aload_n f0, 1, 0, 0, 0), (1, .getfield 7, 3, 12, 0, 1), (4, .sipush 142, 3, 142, 0, 0), (7, .iconst 3, 1, 3, 0, 0), (8, .iload_n f1, 1, 0, 0, 0), (9, .imul, 1, 0, 0, 0), (10, .iadd, 1, 0, 0, 0), (11, .iload_n f2, 1, 0, 0, 0), (12, .iadd, 1, 0, 0, 0), (13, .iaload, 1, 0, 0, 0), (14, .ireturn, 1, 0, 0, 0)]]
/-- ToolUnionModel.isDone(I)Z -/
def cd_77 : List (List EEw) := [
  [(0, .aload_n f0, 1, 0, 0, 0), (1, .getfield 7, 3, 12, 0, 1), (4, .bipush 8, 2, 8, 0, 0), (6, .iload_n f1, 1, 0, 0, 0), (7, .iadd, 1, 0, 0, 0), (8, .iaload, 1, 0, 0, 0), (9, .aload_n f0, 1, 0, 0, 0), (10, .iload_n f1, 1, 0, 0, 0), (11, .iconst 1, 1, 1, 0, 0), (12, .invokevirtual 337, 3, 76, 2, 49), (15, .if_icmp .ne 7, 3, 22, 0, 0)],
  [(18, .iconst 1, 1, 1, 0, 0), (19, .goto 4, 3, 23, 0, 0), (22, .iconst 0, 1, 0, 0, 0), (23, .ireturn, 1, 0, 0, 1)]]
/-- ToolUnionModel.doneSet()I -/
def cd_78 : List (List EEw) := [
  [(0, .iconst 0, 1, 0, 0, 0), (1, .istore_n f1, 1, 0, 0, 0), (2, .iconst 0, 1, 0, 0, 0), (3, .istore_n f2, 1, 0, 0, 0), (4, .iload_n f2, 1, 0, 0, 0), (5, .aload_n f0, 1, 0, 0, 0), (6, .getfield 7, 3, 12, 0, 1), (9, .bipush 98, 2, 98, 0, 0), (11, .iaload, 1, 0, 0, 0), (12, .if_icmp .ge 27, 3, 39, 0, 0), (15, .iload_n f1, 1, 0, 0, 0)],
  [(16, .aload_n f0, 1, 0, 0, 0), (17, .iload_n f2, 1, 0, 0, 0), (18, .invokevirtual 340, 3, 77, 1, 49), (21, .ifCond .eq 9, 3, 30, 0, 0), (24, .iconst 1, 1, 1, 0, 0), (25, .iload_n f2, 1, 0, 0, 0), (26, .ishl, 1, 0, 0, 0), (27, .goto 4, 3, 31, 0, 0), (30, .iconst 0, 1, 0, 0, 0), (31, .ior, 1, 0, 0, 0)],
  [(32, .istore_n f1, 1, 0, 0, 0), (33, .iinc 2 1, 3, 0, 0, 0), (36, .goto (-32), 3, 4, 0, 0), (39, .iload_n f1, 1, 0, 0, 0), (40, .ireturn, 1, 0, 0, 0)]]
/-- ToolUnionModel.isOpen(I)Z -/
def cd_79 : List (List EEw) := [
  [(0, .aload_n f0, 1, 0, 0, 0), (1, .iload_n f1, 1, 0, 0, 0), (2, .invokevirtual 340, 3, 77, 1, 49), (5, .ifCond .ne 23, 3, 28, 0, 0), (8, .aload_n f0, 1, 0, 0, 0), (9, .iload_n f1, 1, 0, 0, 0), (10, .iconst 2, 1, 2, 0, 0), (11, .invokevirtual 337, 3, 76, 2, 49), (14, .aload_n f0, 1, 0, 0, 0), (15, .invokevirtual 343, 3, 78, 0, 49)],
  [(18, .iconst (-1), 1, 4294967295, 0, 0), (19, .ixor, 1, 0, 0, 0), (20, .iand, 1, 0, 0, 0), (21, .ifCond .ne 7, 3, 28, 0, 0), (24, .iconst 1, 1, 1, 0, 0), (25, .goto 4, 3, 29, 0, 0), (28, .iconst 0, 1, 0, 0, 0), (29, .ireturn, 1, 0, 0, 1)]]
/-- ToolUnionModel.ofMan(II)I -/
def cd_80 : List (List EEw) := [
  [(0, .aload_n f0, 1, 0, 0, 0), (1, .getfield 7, 3, 12, 0, 1), (4, .sipush 130, 3, 130, 0, 0), (7, .iconst 2, 1, 2, 0, 0), (8, .iload_n f1, 1, 0, 0, 0), (9, .imul, 1, 0, 0, 0), (10, .iadd, 1, 0, 0, 0), (11, .iload_n f2, 1, 0, 0, 0), (12, .iadd, 1, 0, 0, 0), (13, .iaload, 1, 0, 0, 0), (14, .ireturn, 1, 0, 0, 0)]]
/-- ToolUnionModel.lays(II)V -/
def cd_81 : List (List EEw) := [
  [(0, .aload_n f0, 1, 0, 0, 0), (1, .getfield 37, 3, 12, 11, 1), (4, .iconst 1, 1, 1, 0, 0), (5, .aload_n f0, 1, 0, 0, 0), (6, .iload_n f2, 1, 0, 0, 0), (7, .iconst 0, 1, 0, 0, 0), (8, .invokevirtual 310, 3, 80, 2, 49), (11, .iastore, 1, 0, 0, 0), (12, .aload_n f0, 1, 0, 0, 0), (13, .getfield 37, 3, 12, 11, 1)],
  [(16, .iconst 2, 1, 2, 0, 0), (17, .aload_n f0, 1, 0, 0, 0), (18, .iload_n f1, 1, 0, 0, 0), (19, .iconst 3, 1, 3, 0, 0), (20, .invokevirtual 313, 3, 44, 2, 49), (23, .iastore, 1, 0, 0, 0), (24, .aload_n f0, 1, 0, 0, 0), (25, .getfield 37, 3, 12, 11, 1), (28, .iconst 3, 1, 3, 0, 0), (29, .aload_n f0, 1, 0, 0, 0), (30, .iload_n f1, 1, 0, 0, 0), (31, .iconst 4, 1, 4, 0, 0)],
  [(32, .invokevirtual 313, 3, 44, 2, 49), (35, .iastore, 1, 0, 0, 0), (36, .aload_n f0, 1, 0, 0, 0), (37, .getfield 37, 3, 12, 11, 1), (40, .iconst 4, 1, 4, 0, 0), (41, .aload_n f0, 1, 0, 0, 0), (42, .iload_n f1, 1, 0, 0, 0), (43, .bipush 7, 2, 7, 0, 0), (45, .invokevirtual 313, 3, 44, 2, 49)],
  [(48, .iastore, 1, 0, 0, 0), (49, .aload_n f0, 1, 0, 0, 0), (50, .getfield 37, 3, 12, 11, 1), (53, .iconst 5, 1, 5, 0, 0), (54, .aload_n f0, 1, 0, 0, 0), (55, .iload_n f1, 1, 0, 0, 0), (56, .iconst 0, 1, 0, 0, 0), (57, .invokevirtual 313, 3, 44, 2, 49), (60, .iastore, 1, 0, 0, 0), (61, .aload_n f0, 1, 0, 0, 0), (62, .getfield 37, 3, 12, 11, 1)],
  [(65, .bipush 6, 2, 6, 0, 0), (67, .aload_n f0, 1, 0, 0, 0), (68, .iload_n f1, 1, 0, 0, 0), (69, .iconst 2, 1, 2, 0, 0), (70, .invokevirtual 313, 3, 44, 2, 49), (73, .aload_n f0, 1, 0, 0, 0), (74, .iload_n f2, 1, 0, 0, 0), (75, .iconst 1, 1, 1, 0, 0), (76, .invokevirtual 310, 3, 80, 2, 49), (79, .if_icmp .ne 7, 3, 86, 0, 0)],
  [(82, .iconst 1, 1, 1, 0, 0), (83, .goto 4, 3, 87, 0, 0), (86, .iconst 0, 1, 0, 0, 0), (87, .iastore, 1, 0, 0, 0), (88, .aload_n f0, 1, 0, 0, 0), (89, .getfield 37, 3, 12, 11, 1), (92, .bipush 7, 2, 7, 0, 0), (94, .aload_n f0, 1, 0, 0, 0), (95, .iload_n f1, 1, 0, 0, 0)],
  [(96, .iconst 1, 1, 1, 0, 0), (97, .invokevirtual 313, 3, 44, 2, 49), (100, .iastore, 1, 0, 0, 0), (101, .aload_n f0, 1, 0, 0, 0), (102, .getfield 37, 3, 12, 11, 1), (105, .bipush 8, 2, 8, 0, 0), (107, .aload_n f0, 1, 0, 0, 0), (108, .getfield 7, 3, 12, 0, 1), (111, .iconst 0, 1, 0, 0, 0)],
  [(112, .iaload, 1, 0, 0, 0), (113, .bipush 8, 2, 8, 0, 0), (115, .irem, 1, 0, 0, 0), (116, .iastore, 1, 0, 0, 0), (117, .aload_n f0, 1, 0, 0, 0), (118, .getfield 37, 3, 12, 11, 1), (121, .bipush 9, 2, 9, 0, 0), (123, .aload_n f0, 1, 0, 0, 0), (124, .getfield 7, 3, 12, 0, 1), (127, .iconst 0, 1, 0, 0, 0)],
  [(128, .iaload, 1, 0, 0, 0), (129, .bipush 8, 2, 8, 0, 0), (131, .idiv, 1, 0, 0, 0), (132, .bipush 7, 2, 7, 0, 0), (134, .irem, 1, 0, 0, 0), (135, .iastore, 1, 0, 0, 0), (136, .aload_n f0, 1, 0, 0, 0), (137, .getfield 37, 3, 12, 11, 1), (140, .bipush 10, 2, 10, 0, 0), (142, .aload_n f0, 1, 0, 0, 0), (143, .iload_n f1, 1, 0, 0, 0)],
  [(144, .bipush 8, 2, 8, 0, 0), (146, .invokevirtual 313, 3, 44, 2, 49), (149, .iastore, 1, 0, 0, 0), (150, .return_, 1, 0, 0, 0)]]
/-- ToolUnionModel.both(III)I -/
def cd_82 : List (List EEw) := [
  [(0, .iload_n f0, 1, 0, 0, 0), (1, .tableswitch 100 23 31 #[51, 55, 59, 100, 63, 74, 85, 100, 96], 51, 23, 101, 0)],
  [],
  [],
  [(52, .iload_n f1, 1, 0, 0, 0), (53, .iload_n f2, 1, 0, 0, 0), (54, .iadd, 1, 0, 0, 0), (55, .ireturn, 1, 0, 0, 0), (56, .iload_n f1, 1, 0, 0, 0), (57, .iload_n f2, 1, 0, 0, 0), (58, .isub, 1, 0, 0, 0), (59, .ireturn, 1, 0, 0, 0), (60, .iload_n f1, 1, 0, 0, 0), (61, .iload_n f2, 1, 0, 0, 0), (62, .imul, 1, 0, 0, 0), (63, .ireturn, 1, 0, 0, 0)],
  [(64, .iload_n f1, 1, 0, 0, 0), (65, .iload_n f2, 1, 0, 0, 0), (66, .if_icmp .ge 7, 3, 73, 0, 0), (69, .iconst 1, 1, 1, 0, 0), (70, .goto 4, 3, 74, 0, 0), (73, .iconst 0, 1, 0, 0, 0), (74, .ireturn, 1, 0, 0, 0), (75, .iload_n f1, 1, 0, 0, 0), (76, .iload_n f2, 1, 0, 0, 0), (77, .if_icmp .ne 7, 3, 84, 0, 0)],
  [(80, .iconst 1, 1, 1, 0, 0), (81, .goto 4, 3, 85, 0, 0), (84, .iconst 0, 1, 0, 0, 0), (85, .ireturn, 1, 0, 0, 0), (86, .iload_n f1, 1, 0, 0, 0), (87, .iload_n f2, 1, 0, 0, 0), (88, .if_icmp .le 7, 3, 95, 0, 0), (91, .iconst 1, 1, 1, 0, 0), (92, .goto 4, 3, 96, 0, 0), (95, .iconst 0, 1, 0, 0, 0)],
  [(96, .ireturn, 1, 0, 0, 0), (97, .iload_n f1, 1, 0, 0, 0), (98, .iload_n f2, 1, 0, 0, 0), (99, .iand, 1, 0, 0, 0), (100, .ireturn, 1, 0, 0, 0), (101, .iload_n f1, 1, 0, 0, 0), (102, .iload_n f2, 1, 0, 0, 0), (103, .ior, 1, 0, 0, 0), (104, .ireturn, 1, 0, 0, 0)]]
/-- ToolUnionModel.comesTo(III)I -/
def cd_83_0 : List (List EEw) := [
  [(0, .iconst 0, 1, 0, 0, 0), (1, .istore 4, 2, 0, 0, 0), (3, .iload_n f2, 1, 0, 0, 0), (4, .istore 5, 2, 0, 0, 0), (6, .iload 5, 2, 0, 0, 0), (8, .iload_n f3, 1, 0, 0, 0), (9, .if_icmp .ge 177, 3, 186, 0, 0), (12, .aload_n f0, 1, 0, 0, 0), (13, .getfield 7, 3, 12, 0, 1)],
  [(16, .sipush 394, 3, 394, 0, 0), (19, .sipush 820, 3, 820, 0, 0), (22, .iload_n f1, 1, 0, 0, 0), (23, .imul, 1, 0, 0, 0), (24, .iadd, 1, 0, 0, 0), (25, .iconst 2, 1, 2, 0, 0), (26, .iload 5, 2, 0, 0, 0), (28, .imul, 1, 0, 0, 0), (29, .iadd, 1, 0, 0, 0), (30, .iaload, 1, 0, 0, 0), (31, .istore 6, 2, 0, 0, 0)],
  [(33, .aload_n f0, 1, 0, 0, 0), (34, .getfield 7, 3, 12, 0, 1), (37, .sipush 394, 3, 394, 0, 0), (40, .sipush 820, 3, 820, 0, 0), (43, .iload_n f1, 1, 0, 0, 0), (44, .imul, 1, 0, 0, 0), (45, .iadd, 1, 0, 0, 0), (46, .iconst 2, 1, 2, 0, 0), (47, .iload 5, 2, 0, 0, 0)],
  [(49, .imul, 1, 0, 0, 0), (50, .iadd, 1, 0, 0, 0), (51, .iconst 1, 1, 1, 0, 0), (52, .iadd, 1, 0, 0, 0), (53, .iaload, 1, 0, 0, 0), (54, .istore 7, 2, 0, 0, 0), (56, .iload 6, 2, 0, 0, 0), (58, .bipush 23, 2, 23, 0, 0), (60, .if_icmp .ge 33, 3, 93, 0, 0), (63, .aload_n f0, 1, 0, 0, 0)],
  [(64, .getfield 34, 3, 12, 10, 1), (67, .iload 4, 2, 0, 0, 0), (69, .iload 6, 2, 0, 0, 0), (71, .ifCond .ne 8, 3, 79, 0, 0), (74, .iload 7, 2, 0, 0, 0), (76, .goto 10, 3, 86, 0, 0), (79, .aload_n f0, 1, 0, 0, 0)],
  [(80, .getfield 37, 3, 12, 11, 1), (83, .iload 6, 2, 0, 0, 0), (85, .iaload, 1, 0, 0, 0), (86, .iastore, 1, 0, 0, 0), (87, .iinc 4 1, 3, 0, 0, 0), (90, .goto 90, 3, 180, 0, 0), (93, .iload 6, 2, 0, 0, 0), (95, .bipush 26, 2, 26, 0, 0)],
  [(97, .if_icmp .ne 20, 3, 117, 0, 0), (100, .aload_n f0, 1, 0, 0, 0), (101, .getfield 34, 3, 12, 10, 1), (104, .iload 4, 2, 0, 0, 0), (106, .iconst 1, 1, 1, 0, 0), (107, .isub, 1, 0, 0, 0), (108, .dup2, 1, 0, 0, 0), (109, .iaload, 1, 0, 0, 0), (110, .iload 7, 2, 0, 0, 0)],
  [(112, .idiv, 1, 0, 0, 0), (113, .iastore, 1, 0, 0, 0), (114, .goto 66, 3, 180, 0, 0), (117, .iload 6, 2, 0, 0, 0), (119, .bipush 30, 2, 30, 0, 0), (121, .if_icmp .ne 26, 3, 147, 0, 0), (124, .aload_n f0, 1, 0, 0, 0), (125, .getfield 34, 3, 12, 10, 1)],
  [(128, .iload 4, 2, 0, 0, 0), (130, .iconst 1, 1, 1, 0, 0), (131, .isub, 1, 0, 0, 0), (132, .iconst 1, 1, 1, 0, 0), (133, .aload_n f0, 1, 0, 0, 0), (134, .getfield 34, 3, 12, 10, 1), (137, .iload 4, 2, 0, 0, 0), (139, .iconst 1, 1, 1, 0, 0), (140, .isub, 1, 0, 0, 0), (141, .iaload, 1, 0, 0, 0), (142, .isub, 1, 0, 0, 0), (143, .iastore, 1, 0, 0, 0)],
  [(144, .goto 36, 3, 180, 0, 0), (147, .iinc 4 (-1), 3, 0, 0, 0), (150, .aload_n f0, 1, 0, 0, 0), (151, .getfield 34, 3, 12, 10, 1), (154, .iload 4, 2, 0, 0, 0), (156, .iconst 1, 1, 1, 0, 0), (157, .isub, 1, 0, 0, 0), (158, .iload 6, 2, 0, 0, 0)],
  [(160, .aload_n f0, 1, 0, 0, 0), (161, .getfield 34, 3, 12, 10, 1), (164, .iload 4, 2, 0, 0, 0), (166, .iconst 1, 1, 1, 0, 0), (167, .isub, 1, 0, 0, 0), (168, .iaload, 1, 0, 0, 0), (169, .aload_n f0, 1, 0, 0, 0), (170, .getfield 34, 3, 12, 10, 1), (173, .iload 4, 2, 0, 0, 0), (175, .iaload, 1, 0, 0, 0)],
  [(176, .invokestatic 303, 3, 82, 3, 1), (179, .iastore, 1, 0, 0, 0), (180, .iinc 5 1, 3, 0, 0, 0), (183, .goto (-177), 3, 6, 0, 0), (186, .aload_n f0, 1, 0, 0, 0), (187, .getfield 34, 3, 12, 10, 1), (190, .iconst 0, 1, 0, 0, 0), (191, .iaload, 1, 0, 0, 0)]]
def cd_83_1 : List (List EEw) := [
  [(192, .ireturn, 1, 0, 0, 0)]]
def cd_83 : List (List EEw) := cd_83_0 ++ (cd_83_1)
/-- ToolUnionModel.holds(II)Z -/
def cd_84 : List (List EEw) := [
  [(0, .aload_n f0, 1, 0, 0, 0), (1, .getfield 7, 3, 12, 0, 1), (4, .sipush 330, 3, 330, 0, 0), (7, .bipush 16, 2, 16, 0, 0), (9, .iload_n f1, 1, 0, 0, 0), (10, .imul, 1, 0, 0, 0), (11, .iadd, 1, 0, 0, 0), (12, .iload_n f2, 1, 0, 0, 0), (13, .iadd, 1, 0, 0, 0), (14, .iaload, 1, 0, 0, 0), (15, .aload_n f0, 1, 0, 0, 0)],
  [(16, .getfield 7, 3, 12, 0, 1), (19, .sipush 298, 3, 298, 0, 0), (22, .bipush 16, 2, 16, 0, 0), (24, .iload_n f1, 1, 0, 0, 0), (25, .imul, 1, 0, 0, 0), (26, .iadd, 1, 0, 0, 0), (27, .iload_n f2, 1, 0, 0, 0), (28, .iadd, 1, 0, 0, 0), (29, .iaload, 1, 0, 0, 0), (30, .if_icmp .eq 42, 3, 72, 0, 0)],
  [(33, .aload_n f0, 1, 0, 0, 0), (34, .iload_n f1, 1, 0, 0, 0), (35, .aload_n f0, 1, 0, 0, 0), (36, .getfield 7, 3, 12, 0, 1), (39, .sipush 298, 3, 298, 0, 0), (42, .bipush 16, 2, 16, 0, 0), (44, .iload_n f1, 1, 0, 0, 0), (45, .imul, 1, 0, 0, 0), (46, .iadd, 1, 0, 0, 0), (47, .iload_n f2, 1, 0, 0, 0)],
  [(48, .iadd, 1, 0, 0, 0), (49, .iaload, 1, 0, 0, 0), (50, .aload_n f0, 1, 0, 0, 0), (51, .getfield 7, 3, 12, 0, 1), (54, .sipush 330, 3, 330, 0, 0), (57, .bipush 16, 2, 16, 0, 0), (59, .iload_n f1, 1, 0, 0, 0), (60, .imul, 1, 0, 0, 0), (61, .iadd, 1, 0, 0, 0), (62, .iload_n f2, 1, 0, 0, 0), (63, .iadd, 1, 0, 0, 0)],
  [(64, .iaload, 1, 0, 0, 0), (65, .invokevirtual 307, 3, 83, 3, 49), (68, .iconst 1, 1, 1, 0, 0), (69, .if_icmp .ne 7, 3, 76, 0, 0), (72, .iconst 1, 1, 1, 0, 0), (73, .goto 4, 3, 77, 0, 0), (76, .iconst 0, 1, 0, 0, 0), (77, .ireturn, 1, 0, 0, 1)]]
/-- ToolUnionModel.will(II)Z -/
def cd_85 : List (List EEw) := [
  [(0, .aload_n f0, 1, 0, 0, 0), (1, .iload_n f1, 1, 0, 0, 0), (2, .iload_n f2, 1, 0, 0, 0), (3, .invokevirtual 316, 3, 81, 2, 48), (6, .iconst 0, 1, 0, 0, 0), (7, .istore_n f3, 1, 0, 0, 0), (8, .iload_n f3, 1, 0, 0, 0), (9, .aload_n f0, 1, 0, 0, 0), (10, .getfield 7, 3, 12, 0, 1), (13, .bipush 100, 2, 100, 0, 0), (15, .iaload, 1, 0, 0, 0)],
  [(16, .if_icmp .ge 39, 3, 55, 0, 0), (19, .aload_n f0, 1, 0, 0, 0), (20, .iconst 0, 1, 0, 0, 0), (21, .iload_n f3, 1, 0, 0, 0), (22, .invokevirtual 319, 3, 84, 2, 49), (25, .ifCond .eq 24, 3, 49, 0, 0), (28, .aload_n f0, 1, 0, 0, 0), (29, .getfield 7, 3, 12, 0, 1)],
  [(32, .sipush 362, 3, 362, 0, 0), (35, .iload_n f3, 1, 0, 0, 0), (36, .iadd, 1, 0, 0, 0), (37, .iaload, 1, 0, 0, 0), (38, .bipush 20, 2, 20, 0, 0), (40, .if_icmp .ne 7, 3, 47, 0, 0), (43, .iconst 1, 1, 1, 0, 0), (44, .goto 4, 3, 48, 0, 0), (47, .iconst 0, 1, 0, 0, 0)],
  [(48, .ireturn, 1, 0, 0, 1), (49, .iinc 3 1, 3, 0, 0, 0), (52, .goto (-44), 3, 8, 0, 0), (55, .iconst 1, 1, 1, 0, 0), (56, .ireturn, 1, 0, 0, 1)]]
/-- ToolUnionModel.wouldServe(II)Z -/
def cd_86 : List (List EEw) := [
  [(0, .aload_n f0, 1, 0, 0, 0), (1, .getfield 7, 3, 12, 0, 1), (4, .iconst 1, 1, 1, 0, 0), (5, .iaload, 1, 0, 0, 0), (6, .aload_n f0, 1, 0, 0, 0), (7, .iload_n f1, 1, 0, 0, 0), (8, .iconst 1, 1, 1, 0, 0), (9, .invokevirtual 313, 3, 44, 2, 49), (12, .ishr, 1, 0, 0, 0), (13, .iconst 1, 1, 1, 0, 0), (14, .iand, 1, 0, 0, 0), (15, .ifCond .ne 47, 3, 62, 0, 0)],
  [(18, .aload_n f0, 1, 0, 0, 0), (19, .iload_n f1, 1, 0, 0, 0), (20, .bipush 6, 2, 6, 0, 0), (22, .invokevirtual 313, 3, 44, 2, 49), (25, .aload_n f0, 1, 0, 0, 0), (26, .getfield 7, 3, 12, 0, 1), (29, .iconst 0, 1, 0, 0, 0), (30, .iaload, 1, 0, 0, 0), (31, .bipush 8, 2, 8, 0, 0)],
  [(33, .idiv, 1, 0, 0, 0), (34, .bipush 7, 2, 7, 0, 0), (36, .irem, 1, 0, 0, 0), (37, .if_icmp .eq 25, 3, 62, 0, 0), (40, .aload_n f0, 1, 0, 0, 0), (41, .iload_n f1, 1, 0, 0, 0), (42, .iconst 3, 1, 3, 0, 0), (43, .invokevirtual 313, 3, 44, 2, 49), (46, .ifCond .le 16, 3, 62, 0, 0)],
  [(49, .aload_n f0, 1, 0, 0, 0), (50, .iload_n f1, 1, 0, 0, 0), (51, .iload_n f2, 1, 0, 0, 0), (52, .invokevirtual 322, 3, 85, 2, 49), (55, .ifCond .eq 7, 3, 62, 0, 0), (58, .iconst 1, 1, 1, 0, 0), (59, .goto 4, 3, 63, 0, 0), (62, .iconst 0, 1, 0, 0, 0), (63, .ireturn, 1, 0, 0, 1)]]
/-- ToolUnionModel.doesServe(II)Z -/
def cd_87 : List (List EEw) := [
  [(0, .aload_n f0, 1, 0, 0, 0), (1, .aload_n f0, 1, 0, 0, 0), (2, .iload_n f1, 1, 0, 0, 0), (3, .iconst 1, 1, 1, 0, 0), (4, .invokevirtual 313, 3, 44, 2, 49), (7, .aload_n f0, 1, 0, 0, 0), (8, .iload_n f1, 1, 0, 0, 0), (9, .iconst 0, 1, 0, 0, 0), (10, .invokevirtual 313, 3, 44, 2, 49), (13, .invokevirtual 324, 3, 53, 2, 49)],
  [(16, .ifCond .eq 16, 3, 32, 0, 0), (19, .aload_n f0, 1, 0, 0, 0), (20, .iload_n f1, 1, 0, 0, 0), (21, .iload_n f2, 1, 0, 0, 0), (22, .invokevirtual 327, 3, 86, 2, 49), (25, .ifCond .eq 7, 3, 32, 0, 0), (28, .iconst 1, 1, 1, 0, 0), (29, .goto 4, 3, 33, 0, 0)],
  [(32, .iconst 0, 1, 0, 0, 0), (33, .ireturn, 1, 0, 0, 1)]]
/-- ToolUnionModel.held(III)I -/
def cd_88 : List (List EEw) := [
  [(0, .iload_n f1, 1, 0, 0, 0), (1, .iload_n f2, 1, 0, 0, 0), (2, .iload_n f0, 1, 0, 0, 0), (3, .invokestatic 70, 3, 45, 2, 1), (6, .invokestatic 74, 3, 46, 2, 1), (9, .ireturn, 1, 0, 0, 0)]]
/-- ToolUnionModel.edgesSay(IIII)I -/
def cd_89 : List (List EEw) := [
  [(0, .iconst 0, 1, 0, 0, 0), (1, .istore 5, 2, 0, 0, 0), (3, .iload 5, 2, 0, 0, 0), (5, .aload_n f0, 1, 0, 0, 0), (6, .getfield 7, 3, 12, 0, 1), (9, .bipush 101, 2, 101, 0, 0), (11, .iaload, 1, 0, 0, 0), (12, .if_icmp .ge 68, 3, 80, 0, 0), (15, .aload_n f0, 1, 0, 0, 0)],
  [(16, .getfield 7, 3, 12, 0, 1), (19, .sipush 378, 3, 378, 0, 0), (22, .iload 5, 2, 0, 0, 0), (24, .iadd, 1, 0, 0, 0), (25, .iaload, 1, 0, 0, 0), (26, .iload_n f1, 1, 0, 0, 0), (27, .if_icmp .ne 47, 3, 74, 0, 0), (30, .aload_n f0, 1, 0, 0, 0), (31, .iconst 1, 1, 1, 0, 0)],
  [(32, .iload 5, 2, 0, 0, 0), (34, .invokevirtual 319, 3, 84, 2, 49), (37, .ifCond .eq 37, 3, 74, 0, 0), (40, .aload_n f0, 1, 0, 0, 0), (41, .iconst 1, 1, 1, 0, 0), (42, .aload_n f0, 1, 0, 0, 0), (43, .getfield 7, 3, 12, 0, 1), (46, .sipush 282, 3, 282, 0, 0)],
  [(49, .iload 5, 2, 0, 0, 0), (51, .iadd, 1, 0, 0, 0), (52, .iaload, 1, 0, 0, 0), (53, .aload_n f0, 1, 0, 0, 0), (54, .getfield 7, 3, 12, 0, 1), (57, .sipush 314, 3, 314, 0, 0), (60, .iload 5, 2, 0, 0, 0), (62, .iadd, 1, 0, 0, 0), (63, .iaload, 1, 0, 0, 0)],
  [(64, .invokevirtual 307, 3, 83, 3, 49), (67, .iload_n f3, 1, 0, 0, 0), (68, .iload 4, 2, 0, 0, 0), (70, .invokestatic 330, 3, 88, 3, 1), (73, .ireturn, 1, 0, 0, 0), (74, .iinc 5 1, 3, 0, 0, 0), (77, .goto (-74), 3, 3, 0, 0)],
  [(80, .iload_n f2, 1, 0, 0, 0), (81, .ireturn, 1, 0, 0, 0)]]
/-- ToolUnionModel.wearOf(II)I -/
def cd_90 : List (List EEw) := [
  [(0, .aload_n f0, 1, 0, 0, 0), (1, .iload_n f1, 1, 0, 0, 0), (2, .iload_n f2, 1, 0, 0, 0), (3, .invokevirtual 316, 3, 81, 2, 48), (6, .aload_n f0, 1, 0, 0, 0), (7, .bipush 22, 2, 22, 0, 0), (9, .iconst 1, 1, 1, 0, 0), (10, .iconst 0, 1, 0, 0, 0), (11, .bipush 20, 2, 20, 0, 0), (13, .invokevirtual 333, 3, 89, 4, 49)],
  [(16, .ireturn, 1, 0, 0, 0)]]
/-- ToolUnionModel.moodOf(II)I -/
def cd_91 : List (List EEw) := [
  [(0, .aload_n f0, 1, 0, 0, 0), (1, .iload_n f1, 1, 0, 0, 0), (2, .iload_n f2, 1, 0, 0, 0), (3, .invokevirtual 316, 3, 81, 2, 48), (6, .aload_n f0, 1, 0, 0, 0), (7, .bipush 23, 2, 23, 0, 0), (9, .iconst 0, 1, 0, 0, 0), (10, .bipush (-20), 2, 4294967276, 0, 0), (12, .bipush 20, 2, 20, 0, 0), (14, .invokevirtual 333, 3, 89, 4, 49)],
  [(17, .ireturn, 1, 0, 0, 0)]]
/-- ToolUnionModel.wears(II)V -/
def cd_92 : List (List EEw) := [
  [(0, .aload_n f0, 1, 0, 0, 0), (1, .iload_n f1, 1, 0, 0, 0), (2, .iload_n f2, 1, 0, 0, 0), (3, .invokevirtual 349, 3, 90, 2, 49), (6, .istore_n f3, 1, 0, 0, 0), (7, .aload_n f0, 1, 0, 0, 0), (8, .iload_n f1, 1, 0, 0, 0), (9, .iload_n f2, 1, 0, 0, 0), (10, .invokevirtual 352, 3, 91, 2, 49), (13, .istore 4, 2, 0, 0, 0), (15, .aload_n f0, 1, 0, 0, 0)],
  [(16, .iload_n f1, 1, 0, 0, 0), (17, .iconst 3, 1, 3, 0, 0), (18, .iconst 0, 1, 0, 0, 0), (19, .aload_n f0, 1, 0, 0, 0), (20, .iload_n f1, 1, 0, 0, 0), (21, .iconst 3, 1, 3, 0, 0), (22, .invokevirtual 313, 3, 44, 2, 49), (25, .iload_n f3, 1, 0, 0, 0), (26, .isub, 1, 0, 0, 0), (27, .invokestatic 74, 3, 46, 2, 1), (30, .invokevirtual 89, 3, 21, 3, 48)],
  [(33, .aload_n f0, 1, 0, 0, 0), (34, .iload_n f1, 1, 0, 0, 0), (35, .iconst 4, 1, 4, 0, 0), (36, .aload_n f0, 1, 0, 0, 0), (37, .iload_n f1, 1, 0, 0, 0), (38, .iconst 4, 1, 4, 0, 0), (39, .invokevirtual 313, 3, 44, 2, 49), (42, .iload 4, 2, 0, 0, 0), (44, .iadd, 1, 0, 0, 0), (45, .iconst 0, 1, 0, 0, 0), (46, .bipush 99, 2, 99, 0, 0)],
  [(48, .invokestatic 330, 3, 88, 3, 1), (51, .invokevirtual 89, 3, 21, 3, 48), (54, .aload_n f0, 1, 0, 0, 0), (55, .iload_n f1, 1, 0, 0, 0), (56, .bipush 7, 2, 7, 0, 0), (58, .aload_n f0, 1, 0, 0, 0), (59, .iload_n f1, 1, 0, 0, 0), (60, .bipush 7, 2, 7, 0, 0), (62, .invokevirtual 313, 3, 44, 2, 49)],
  [(65, .iconst 1, 1, 1, 0, 0), (66, .iadd, 1, 0, 0, 0), (67, .invokevirtual 89, 3, 21, 3, 48), (70, .aload_n f0, 1, 0, 0, 0), (71, .iload_n f1, 1, 0, 0, 0), (72, .bipush 8, 2, 8, 0, 0), (74, .aload_n f0, 1, 0, 0, 0), (75, .iload_n f1, 1, 0, 0, 0), (76, .bipush 8, 2, 8, 0, 0), (78, .invokevirtual 313, 3, 44, 2, 49)],
  [(81, .iconst 1, 1, 1, 0, 0), (82, .iadd, 1, 0, 0, 0), (83, .invokevirtual 89, 3, 21, 3, 48), (86, .return_, 1, 0, 0, 0)]]
/-- ToolUnionModel.notes(III)V -/
def cd_93 : List (List EEw) := [
  [(0, .aload_n f0, 1, 0, 0, 0), (1, .getfield 7, 3, 12, 0, 1), (4, .iconst 2, 1, 2, 0, 0), (5, .iaload, 1, 0, 0, 0), (6, .sipush 200, 3, 200, 0, 0), (9, .if_icmp .ne 4, 3, 13, 0, 0), (12, .return_, 1, 0, 0, 0), (13, .sipush 2034, 3, 2034, 0, 0)],
  [(16, .iconst 4, 1, 4, 0, 0), (17, .aload_n f0, 1, 0, 0, 0), (18, .getfield 7, 3, 12, 0, 1), (21, .iconst 2, 1, 2, 0, 0), (22, .iaload, 1, 0, 0, 0), (23, .imul, 1, 0, 0, 0), (24, .iadd, 1, 0, 0, 0), (25, .istore 4, 2, 0, 0, 0), (27, .aload_n f0, 1, 0, 0, 0), (28, .getfield 7, 3, 12, 0, 1), (31, .iload 4, 2, 0, 0, 0)],
  [(33, .aload_n f0, 1, 0, 0, 0), (34, .getfield 7, 3, 12, 0, 1), (37, .iconst 0, 1, 0, 0, 0), (38, .iaload, 1, 0, 0, 0), (39, .iastore, 1, 0, 0, 0), (40, .aload_n f0, 1, 0, 0, 0), (41, .getfield 7, 3, 12, 0, 1), (44, .iload 4, 2, 0, 0, 0), (46, .iconst 1, 1, 1, 0, 0), (47, .iadd, 1, 0, 0, 0)],
  [(48, .iload_n f1, 1, 0, 0, 0), (49, .iastore, 1, 0, 0, 0), (50, .aload_n f0, 1, 0, 0, 0), (51, .getfield 7, 3, 12, 0, 1), (54, .iload 4, 2, 0, 0, 0), (56, .iconst 2, 1, 2, 0, 0), (57, .iadd, 1, 0, 0, 0), (58, .iload_n f2, 1, 0, 0, 0), (59, .iastore, 1, 0, 0, 0), (60, .aload_n f0, 1, 0, 0, 0), (61, .getfield 7, 3, 12, 0, 1)],
  [(64, .iload 4, 2, 0, 0, 0), (66, .iconst 3, 1, 3, 0, 0), (67, .iadd, 1, 0, 0, 0), (68, .iload_n f3, 1, 0, 0, 0), (69, .iastore, 1, 0, 0, 0), (70, .aload_n f0, 1, 0, 0, 0), (71, .getfield 7, 3, 12, 0, 1), (74, .iconst 2, 1, 2, 0, 0), (75, .dup2, 1, 0, 0, 0), (76, .iaload, 1, 0, 0, 0), (77, .iconst 1, 1, 1, 0, 0), (78, .iadd, 1, 0, 0, 0), (79, .iastore, 1, 0, 0, 0)],
  [(80, .return_, 1, 0, 0, 0)]]
/-- ToolUnionModel.works(IZ)Z -/
def cd_94 : List (List EEw) := [
  [(0, .aload_n f0, 1, 0, 0, 0), (1, .getfield 7, 3, 12, 0, 1), (4, .iload_n f1, 1, 0, 0, 0), (5, .iconst 0, 1, 0, 0, 0), (6, .iadd, 1, 0, 0, 0), (7, .iaload, 1, 0, 0, 0), (8, .istore_n f3, 1, 0, 0, 0), (9, .aload_n f0, 1, 0, 0, 0), (10, .getfield 7, 3, 12, 0, 1), (13, .iload_n f1, 1, 0, 0, 0), (14, .iconst 1, 1, 1, 0, 0), (15, .iadd, 1, 0, 0, 0)],
  [(16, .iaload, 1, 0, 0, 0), (17, .istore 4, 2, 0, 0, 0), (19, .aload_n f0, 1, 0, 0, 0), (20, .getfield 7, 3, 12, 0, 1), (23, .iload_n f1, 1, 0, 0, 0), (24, .iconst 2, 1, 2, 0, 0), (25, .iadd, 1, 0, 0, 0), (26, .iaload, 1, 0, 0, 0), (27, .istore 5, 2, 0, 0, 0), (29, .aload_n f0, 1, 0, 0, 0), (30, .iload_n f3, 1, 0, 0, 0), (31, .bipush 9, 2, 9, 0, 0)],
  [(33, .invokevirtual 313, 3, 44, 2, 49), (36, .iconst 1, 1, 1, 0, 0), (37, .if_icmp .eq 51, 3, 88, 0, 0), (40, .aload_n f0, 1, 0, 0, 0), (41, .getfield 355, 3, 12, 30, 0), (44, .iload 4, 2, 0, 0, 0), (46, .ishr, 1, 0, 0, 0), (47, .iconst 1, 1, 1, 0, 0)],
  [(48, .iand, 1, 0, 0, 0), (49, .iconst 1, 1, 1, 0, 0), (50, .if_icmp .eq 38, 3, 88, 0, 0), (53, .aload_n f0, 1, 0, 0, 0), (54, .iload 5, 2, 0, 0, 0), (56, .invokevirtual 358, 3, 79, 1, 49), (59, .ifCond .eq 29, 3, 88, 0, 0), (62, .aload_n f0, 1, 0, 0, 0), (63, .iload 5, 2, 0, 0, 0)],
  [(65, .iconst 0, 1, 0, 0, 0), (66, .invokevirtual 337, 3, 76, 2, 49), (69, .aload_n f0, 1, 0, 0, 0), (70, .iload_n f3, 1, 0, 0, 0), (71, .iconst 0, 1, 0, 0, 0), (72, .invokevirtual 313, 3, 44, 2, 49), (75, .if_icmp .ne 13, 3, 88, 0, 0), (78, .aload_n f0, 1, 0, 0, 0), (79, .iload_n f3, 1, 0, 0, 0)],
  [(80, .iload 4, 2, 0, 0, 0), (82, .invokevirtual 361, 3, 87, 2, 49), (85, .ifCond .ne 5, 3, 90, 0, 0), (88, .iconst 0, 1, 0, 0, 0), (89, .ireturn, 1, 0, 0, 1), (90, .aload_n f0, 1, 0, 0, 0), (91, .iload_n f3, 1, 0, 0, 0), (92, .iload 4, 2, 0, 0, 0), (94, .invokevirtual 364, 3, 92, 2, 48)],
  [(97, .aload_n f0, 1, 0, 0, 0), (98, .iload_n f3, 1, 0, 0, 0), (99, .bipush 9, 2, 9, 0, 0), (101, .iconst 1, 1, 1, 0, 0), (102, .invokevirtual 89, 3, 21, 3, 48), (105, .aload_n f0, 1, 0, 0, 0), (106, .dup, 1, 0, 0, 0), (107, .getfield 355, 3, 12, 30, 0), (110, .iconst 1, 1, 1, 0, 0), (111, .iload 4, 2, 0, 0, 0)],
  [(113, .ishl, 1, 0, 0, 0), (114, .ior, 1, 0, 0, 0), (115, .putfield 355, 3, 12, 30, 0), (118, .aload_n f0, 1, 0, 0, 0), (119, .getfield 7, 3, 12, 0, 1), (122, .bipush 8, 2, 8, 0, 0), (124, .iload 5, 2, 0, 0, 0), (126, .iadd, 1, 0, 0, 0), (127, .dup2, 1, 0, 0, 0)],
  [(128, .iaload, 1, 0, 0, 0), (129, .iconst 1, 1, 1, 0, 0), (130, .iadd, 1, 0, 0, 0), (131, .iastore, 1, 0, 0, 0), (132, .aload_n f0, 1, 0, 0, 0), (133, .dup, 1, 0, 0, 0), (134, .getfield 367, 3, 12, 29, 0), (137, .iconst 1, 1, 1, 0, 0), (138, .iadd, 1, 0, 0, 0), (139, .putfield 367, 3, 12, 29, 0), (142, .iload_n f2, 1, 0, 0, 0), (143, .ifCond .eq 12, 3, 155, 0, 0)],
  [(146, .aload_n f0, 1, 0, 0, 0), (147, .iload_n f3, 1, 0, 0, 0), (148, .iload 4, 2, 0, 0, 0), (150, .iload 5, 2, 0, 0, 0), (152, .invokevirtual 370, 3, 93, 3, 48), (155, .iconst 1, 1, 1, 0, 0), (156, .ireturn, 1, 0, 0, 1)]]
/-- ToolUnionModel.draw(I)I -/
def cd_95 : List (List EEw) := [
  [(0, .aload_n f0, 1, 0, 0, 0), (1, .getfield 7, 3, 12, 0, 1), (4, .iconst 3, 1, 3, 0, 0), (5, .ldc 87, 2, 1664525, 0, 0), (7, .aload_n f0, 1, 0, 0, 0), (8, .getfield 7, 3, 12, 0, 1), (11, .iconst 3, 1, 3, 0, 0), (12, .iaload, 1, 0, 0, 0), (13, .imul, 1, 0, 0, 0), (14, .ldc 88, 2, 1013904223, 0, 0)],
  [(16, .iadd, 1, 0, 0, 0), (17, .iastore, 1, 0, 0, 0), (18, .aload_n f0, 1, 0, 0, 0), (19, .getfield 7, 3, 12, 0, 1), (22, .iconst 3, 1, 3, 0, 0), (23, .iaload, 1, 0, 0, 0), (24, .bipush 8, 2, 8, 0, 0), (26, .iushr, 1, 0, 0, 0), (27, .iload_n f1, 1, 0, 0, 0), (28, .irem, 1, 0, 0, 0), (29, .ireturn, 1, 0, 0, 0)]]
/-- ToolUnionModel.anHour(Z)I -/
def cd_96_0 : List (List EEw) := [
  [(0, .iconst 0, 1, 0, 0, 0), (1, .istore_n f2, 1, 0, 0, 0), (2, .aload_n f0, 1, 0, 0, 0), (3, .iconst 0, 1, 0, 0, 0), (4, .putfield 355, 3, 12, 30, 0), (7, .iconst 0, 1, 0, 0, 0), (8, .istore_n f3, 1, 0, 0, 0), (9, .iload_n f3, 1, 0, 0, 0), (10, .aload_n f0, 1, 0, 0, 0), (11, .getfield 7, 3, 12, 0, 1), (14, .bipush 96, 2, 96, 0, 0)],
  [(16, .iaload, 1, 0, 0, 0), (17, .if_icmp .ge 17, 3, 34, 0, 0), (20, .aload_n f0, 1, 0, 0, 0), (21, .iload_n f3, 1, 0, 0, 0), (22, .bipush 9, 2, 9, 0, 0), (24, .iconst 0, 1, 0, 0, 0), (25, .invokevirtual 89, 3, 21, 3, 48), (28, .iinc 3 1, 3, 0, 0, 0), (31, .goto (-22), 3, 9, 0, 0)],
  [(34, .iconst 0, 1, 0, 0, 0), (35, .istore_n f3, 1, 0, 0, 0), (36, .iload_n f3, 1, 0, 0, 0), (37, .aload_n f0, 1, 0, 0, 0), (38, .getfield 7, 3, 12, 0, 1), (41, .bipush 99, 2, 99, 0, 0), (43, .iaload, 1, 0, 0, 0), (44, .if_icmp .ge 99, 3, 143, 0, 0), (47, .sipush 166, 3, 166, 0, 0)],
  [(50, .iconst 5, 1, 5, 0, 0), (51, .iload_n f3, 1, 0, 0, 0), (52, .imul, 1, 0, 0, 0), (53, .iadd, 1, 0, 0, 0), (54, .istore 4, 2, 0, 0, 0), (56, .aload_n f0, 1, 0, 0, 0), (57, .getfield 7, 3, 12, 0, 1), (60, .iconst 0, 1, 0, 0, 0), (61, .iaload, 1, 0, 0, 0), (62, .aload_n f0, 1, 0, 0, 0), (63, .getfield 7, 3, 12, 0, 1)],
  [(66, .iload 4, 2, 0, 0, 0), (68, .iconst 3, 1, 3, 0, 0), (69, .iadd, 1, 0, 0, 0), (70, .iaload, 1, 0, 0, 0), (71, .aload_n f0, 1, 0, 0, 0), (72, .getfield 7, 3, 12, 0, 1), (75, .iload 4, 2, 0, 0, 0), (77, .iconst 3, 1, 3, 0, 0), (78, .iadd, 1, 0, 0, 0), (79, .iaload, 1, 0, 0, 0)],
  [(80, .aload_n f0, 1, 0, 0, 0), (81, .getfield 7, 3, 12, 0, 1), (84, .iload 4, 2, 0, 0, 0), (86, .iconst 4, 1, 4, 0, 0), (87, .iadd, 1, 0, 0, 0), (88, .iaload, 1, 0, 0, 0), (89, .iadd, 1, 0, 0, 0), (90, .iconst 1, 1, 1, 0, 0), (91, .isub, 1, 0, 0, 0), (92, .invokestatic 77, 3, 20, 3, 1), (95, .ifCond .eq 42, 3, 137, 0, 0)],
  [(98, .aload_n f0, 1, 0, 0, 0), (99, .iload 4, 2, 0, 0, 0), (101, .iload_n f1, 1, 0, 0, 0), (102, .invokevirtual 373, 3, 94, 2, 49), (105, .ifCond .eq 6, 3, 111, 0, 0), (108, .goto 29, 3, 137, 0, 0), (111, .aload_n f0, 1, 0, 0, 0)],
  [(112, .getfield 377, 3, 12, 27, 0), (115, .iconst (-1), 1, 4294967295, 0, 0), (116, .if_icmp .ne 18, 3, 134, 0, 0), (119, .aload_n f0, 1, 0, 0, 0), (120, .iload_n f3, 1, 0, 0, 0), (121, .putfield 377, 3, 12, 27, 0), (124, .aload_n f0, 1, 0, 0, 0), (125, .aload_n f0, 1, 0, 0, 0), (126, .getfield 7, 3, 12, 0, 1)],
  [(129, .iconst 0, 1, 0, 0, 0), (130, .iaload, 1, 0, 0, 0), (131, .putfield 380, 3, 12, 28, 0), (134, .iinc 2 1, 3, 0, 0, 0), (137, .iinc 3 1, 3, 0, 0, 0), (140, .goto (-104), 3, 36, 0, 0), (143, .iconst 0, 1, 0, 0, 0)],
  [(144, .istore_n f3, 1, 0, 0, 0), (145, .iload_n f3, 1, 0, 0, 0), (146, .aload_n f0, 1, 0, 0, 0), (147, .getfield 7, 3, 12, 0, 1), (150, .bipush 96, 2, 96, 0, 0), (152, .iaload, 1, 0, 0, 0), (153, .if_icmp .ge 73, 3, 226, 0, 0), (156, .iload_n f1, 1, 0, 0, 0), (157, .ifCond .eq 69, 3, 226, 0, 0)],
  [(160, .aload_n f0, 1, 0, 0, 0), (161, .getfield 7, 3, 12, 0, 1), (164, .bipush 102, 2, 102, 0, 0), (166, .iaload, 1, 0, 0, 0), (167, .ifCond .le 59, 3, 226, 0, 0), (170, .aload_n f0, 1, 0, 0, 0), (171, .iload_n f3, 1, 0, 0, 0), (172, .bipush 9, 2, 9, 0, 0), (174, .invokevirtual 313, 3, 44, 2, 49)],
  [(177, .ifCond .ne 43, 3, 220, 0, 0), (180, .aload_n f0, 1, 0, 0, 0), (181, .iload_n f3, 1, 0, 0, 0), (182, .iconst 3, 1, 3, 0, 0), (183, .invokevirtual 313, 3, 44, 2, 49), (186, .ifCond .le 34, 3, 220, 0, 0), (189, .aload_n f0, 1, 0, 0, 0), (190, .sipush 1000, 3, 1000, 0, 0)]]
def cd_96_1 : List (List EEw) := [
  [(193, .invokevirtual 383, 3, 95, 1, 49), (196, .aload_n f0, 1, 0, 0, 0), (197, .getfield 7, 3, 12, 0, 1), (200, .bipush 102, 2, 102, 0, 0), (202, .iaload, 1, 0, 0, 0), (203, .if_icmp .ge 17, 3, 220, 0, 0), (206, .aload_n f0, 1, 0, 0, 0), (207, .iload_n f3, 1, 0, 0, 0)],
  [(208, .iconst 3, 1, 3, 0, 0), (209, .aload_n f0, 1, 0, 0, 0), (210, .iload_n f3, 1, 0, 0, 0), (211, .iconst 3, 1, 3, 0, 0), (212, .invokevirtual 313, 3, 44, 2, 49), (215, .iconst 1, 1, 1, 0, 0), (216, .isub, 1, 0, 0, 0), (217, .invokevirtual 89, 3, 21, 3, 48), (220, .iinc 3 1, 3, 0, 0, 0), (223, .goto (-78), 3, 145, 0, 0)],
  [(226, .aload_n f0, 1, 0, 0, 0), (227, .getfield 7, 3, 12, 0, 1), (230, .iconst 0, 1, 0, 0, 0), (231, .dup2, 1, 0, 0, 0), (232, .iaload, 1, 0, 0, 0), (233, .iconst 1, 1, 1, 0, 0), (234, .iadd, 1, 0, 0, 0), (235, .iastore, 1, 0, 0, 0), (236, .iconst 0, 1, 0, 0, 0), (237, .istore_n f3, 1, 0, 0, 0), (238, .iload_n f3, 1, 0, 0, 0), (239, .aload_n f0, 1, 0, 0, 0)],
  [(240, .getfield 7, 3, 12, 0, 1), (243, .bipush 96, 2, 96, 0, 0), (245, .iaload, 1, 0, 0, 0), (246, .if_icmp .ge 29, 3, 275, 0, 0), (249, .aload_n f0, 1, 0, 0, 0), (250, .getfield 7, 3, 12, 0, 1), (253, .iconst 0, 1, 0, 0, 0), (254, .iaload, 1, 0, 0, 0), (255, .bipush 8, 2, 8, 0, 0)],
  [(257, .irem, 1, 0, 0, 0), (258, .ifCond .ne 17, 3, 275, 0, 0), (261, .aload_n f0, 1, 0, 0, 0), (262, .iload_n f3, 1, 0, 0, 0), (263, .bipush 7, 2, 7, 0, 0), (265, .iconst 0, 1, 0, 0, 0), (266, .invokevirtual 89, 3, 21, 3, 48), (269, .iinc 3 1, 3, 0, 0, 0)],
  [(272, .goto (-34), 3, 238, 0, 0), (275, .iload_n f2, 1, 0, 0, 0), (276, .ireturn, 1, 0, 0, 0)]]
def cd_96 : List (List EEw) := cd_96_0 ++ (cd_96_1)
/-- ToolUnionModel.hours(I)I -/
def cd_97 : List (List EEw) := [
  [(0, .iload_n f1, 1, 0, 0, 0), (1, .iconst 1, 1, 1, 0, 0), (2, .bipush 60, 2, 60, 0, 0), (4, .invokestatic 77, 3, 20, 3, 1), (7, .ifCond .eq 17, 3, 24, 0, 0), (10, .aload_n f0, 1, 0, 0, 0), (11, .getfield 7, 3, 12, 0, 1), (14, .iconst 0, 1, 0, 0, 0), (15, .iaload, 1, 0, 0, 0)],
  [(16, .iload_n f1, 1, 0, 0, 0), (17, .iadd, 1, 0, 0, 0), (18, .sipush 9999, 3, 9999, 0, 0), (21, .if_icmp .le 5, 3, 26, 0, 0), (24, .iconst (-1), 1, 4294967295, 0, 0), (25, .ireturn, 1, 0, 0, 0), (26, .iconst 0, 1, 0, 0, 0), (27, .istore_n f2, 1, 0, 0, 0), (28, .iconst 0, 1, 0, 0, 0), (29, .istore_n f3, 1, 0, 0, 0), (30, .iload_n f3, 1, 0, 0, 0), (31, .iload_n f1, 1, 0, 0, 0)],
  [(32, .if_icmp .ge 21, 3, 53, 0, 0), (35, .aload_n f0, 1, 0, 0, 0), (36, .invokevirtual 346, 3, 43, 0, 48), (39, .iload_n f2, 1, 0, 0, 0), (40, .aload_n f0, 1, 0, 0, 0), (41, .iconst 1, 1, 1, 0, 0), (42, .invokevirtual 386, 3, 96, 1, 49), (45, .iadd, 1, 0, 0, 0), (46, .istore_n f2, 1, 0, 0, 0), (47, .iinc 3 1, 3, 0, 0, 0)],
  [(50, .goto (-20), 3, 30, 0, 0), (53, .iload_n f2, 1, 0, 0, 0), (54, .ireturn, 1, 0, 0, 0)]]
/-- ToolUnion$Reader.append(I)V -/
def cd_98 : List (List EEw) := [
  [(0, .bipush 24, 2, 24, 0, 0), (2, .istore_n f2, 1, 0, 0, 0), (3, .iload_n f2, 1, 0, 0, 0), (4, .ifCond .lt 45, 3, 49, 0, 0), (7, .aload_n f0, 1, 0, 0, 0), (8, .getfield 49, 3, 7, 1, 0), (11, .sipush 400, 3, 400, 0, 0), (14, .if_icmp .ge 29, 3, 43, 0, 0)],
  [(17, .aload_n f0, 1, 0, 0, 0), (18, .getfield 9, 3, 7, 0, 1), (21, .aload_n f0, 1, 0, 0, 0), (22, .getfield 49, 3, 7, 1, 0), (25, .iload_n f1, 1, 0, 0, 0), (26, .iload_n f2, 1, 0, 0, 0), (27, .iushr, 1, 0, 0, 0), (28, .sipush 255, 3, 255, 0, 0), (31, .iand, 1, 0, 0, 0)],
  [(32, .iastore, 1, 0, 0, 0), (33, .aload_n f0, 1, 0, 0, 0), (34, .dup, 1, 0, 0, 0), (35, .getfield 49, 3, 7, 1, 0), (38, .iconst 1, 1, 1, 0, 0), (39, .iadd, 1, 0, 0, 0), (40, .putfield 49, 3, 7, 1, 0), (43, .iinc 2 (-8), 3, 0, 0, 0), (46, .goto (-43), 3, 3, 0, 0)],
  [(49, .return_, 1, 0, 0, 0)]]
/-- ToolUnion.feed(IIIII)I -/
def cd_99 : List (List EEw) := [
  [(0, .aload_n f0, 1, 0, 0, 0), (1, .getfield 33, 3, 11, 7, 1), (4, .getfield 179, 3, 7, 1, 0), (7, .bipush 20, 2, 20, 0, 0), (9, .iadd, 1, 0, 0, 0), (10, .sipush 400, 3, 400, 0, 0), (13, .if_icmp .le 5, 3, 18, 0, 0)],
  [(16, .iconst (-1), 1, 4294967295, 0, 0), (17, .ireturn, 1, 0, 0, 0), (18, .aload_n f0, 1, 0, 0, 0), (19, .getfield 33, 3, 11, 7, 1), (22, .iload_n f1, 1, 0, 0, 0), (23, .invokevirtual 182, 3, 98, 1, 28), (26, .aload_n f0, 1, 0, 0, 0), (27, .getfield 33, 3, 11, 7, 1), (30, .iload_n f2, 1, 0, 0, 0), (31, .invokevirtual 182, 3, 98, 1, 28)],
  [(34, .aload_n f0, 1, 0, 0, 0), (35, .getfield 33, 3, 11, 7, 1), (38, .iload_n f3, 1, 0, 0, 0), (39, .invokevirtual 182, 3, 98, 1, 28), (42, .aload_n f0, 1, 0, 0, 0), (43, .getfield 33, 3, 11, 7, 1), (46, .iload 4, 2, 0, 0, 0)],
  [(48, .invokevirtual 182, 3, 98, 1, 28), (51, .aload_n f0, 1, 0, 0, 0), (52, .getfield 33, 3, 11, 7, 1), (55, .iload 5, 2, 0, 0, 0), (57, .invokevirtual 182, 3, 98, 1, 28), (60, .aload_n f0, 1, 0, 0, 0), (61, .getfield 33, 3, 11, 7, 1)],
  [(64, .getfield 179, 3, 7, 1, 0), (67, .ireturn, 1, 0, 0, 0)]]
/-- ToolUnionModel.feed(IIIII)I -/
def cd_100 : List (List EEw) := [
  [(0, .aload_n f0, 1, 0, 0, 0), (1, .getfield 104, 3, 12, 16, 0), (4, .bipush 20, 2, 20, 0, 0), (6, .iadd, 1, 0, 0, 0), (7, .sipush 400, 3, 400, 0, 0), (10, .if_icmp .le 5, 3, 15, 0, 0), (13, .iconst (-1), 1, 4294967295, 0, 0), (14, .ireturn, 1, 0, 0, 0), (15, .iconst 0, 1, 0, 0, 0)],
  [(16, .istore 6, 2, 0, 0, 0), (18, .iload 6, 2, 0, 0, 0), (20, .bipush 20, 2, 20, 0, 0), (22, .if_icmp .ge 93, 3, 115, 0, 0), (25, .iload 6, 2, 0, 0, 0), (27, .iconst 4, 1, 4, 0, 0), (28, .if_icmp .ge 7, 3, 35, 0, 0), (31, .iload_n f1, 1, 0, 0, 0)],
  [(32, .goto 39, 3, 71, 0, 0), (35, .iload 6, 2, 0, 0, 0), (37, .bipush 8, 2, 8, 0, 0), (39, .if_icmp .ge 7, 3, 46, 0, 0), (42, .iload_n f2, 1, 0, 0, 0), (43, .goto 28, 3, 71, 0, 0), (46, .iload 6, 2, 0, 0, 0)],
  [(48, .bipush 12, 2, 12, 0, 0), (50, .if_icmp .ge 7, 3, 57, 0, 0), (53, .iload_n f3, 1, 0, 0, 0), (54, .goto 17, 3, 71, 0, 0), (57, .iload 6, 2, 0, 0, 0), (59, .bipush 16, 2, 16, 0, 0), (61, .if_icmp .ge 8, 3, 69, 0, 0)],
  [(64, .iload 4, 2, 0, 0, 0), (66, .goto 5, 3, 71, 0, 0), (69, .iload 5, 2, 0, 0, 0), (71, .istore 7, 2, 0, 0, 0), (73, .aload_n f0, 1, 0, 0, 0), (74, .getfield 31, 3, 12, 9, 1), (77, .aload_n f0, 1, 0, 0, 0), (78, .getfield 104, 3, 12, 16, 0)],
  [(81, .iload 7, 2, 0, 0, 0), (83, .bipush 24, 2, 24, 0, 0), (85, .bipush 8, 2, 8, 0, 0), (87, .iload 6, 2, 0, 0, 0), (89, .iconst 4, 1, 4, 0, 0), (90, .irem, 1, 0, 0, 0), (91, .imul, 1, 0, 0, 0), (92, .isub, 1, 0, 0, 0), (93, .ishr, 1, 0, 0, 0), (94, .sipush 255, 3, 255, 0, 0)],
  [(97, .iand, 1, 0, 0, 0), (98, .iastore, 1, 0, 0, 0), (99, .aload_n f0, 1, 0, 0, 0), (100, .dup, 1, 0, 0, 0), (101, .getfield 104, 3, 12, 16, 0), (104, .iconst 1, 1, 1, 0, 0), (105, .iadd, 1, 0, 0, 0), (106, .putfield 104, 3, 12, 16, 0), (109, .iinc 6 1, 3, 0, 0, 0)],
  [(112, .goto (-94), 3, 18, 0, 0), (115, .aload_n f0, 1, 0, 0, 0), (116, .getfield 104, 3, 12, 16, 0), (119, .ireturn, 1, 0, 0, 0)]]
/-- ToolUnion.end(I)Z -/
def cd_101 : List (List EEw) := [
  [(0, .iload_n f1, 1, 0, 0, 0), (1, .ifCond .lt 14, 3, 15, 0, 0), (4, .iload_n f1, 1, 0, 0, 0), (5, .aload_n f0, 1, 0, 0, 0), (6, .getfield 33, 3, 11, 7, 1), (9, .getfield 179, 3, 7, 1, 0), (12, .if_icmp .le 5, 3, 17, 0, 0), (15, .iconst 0, 1, 0, 0, 0)],
  [(16, .ireturn, 1, 0, 0, 1), (17, .aload_n f0, 1, 0, 0, 0), (18, .getfield 33, 3, 11, 7, 1), (21, .iload_n f1, 1, 0, 0, 0), (22, .putfield 179, 3, 7, 1, 0), (25, .iconst 1, 1, 1, 0, 0), (26, .ireturn, 1, 0, 0, 1)]]
/-- ToolUnionModel.end(I)Z -/
def cd_102 : List (List EEw) := [
  [(0, .iload_n f1, 1, 0, 0, 0), (1, .iconst 0, 1, 0, 0, 0), (2, .aload_n f0, 1, 0, 0, 0), (3, .getfield 104, 3, 12, 16, 0), (6, .invokestatic 77, 3, 20, 3, 1), (9, .ifCond .ne 5, 3, 14, 0, 0), (12, .iconst 0, 1, 0, 0, 0), (13, .ireturn, 1, 0, 0, 1), (14, .aload_n f0, 1, 0, 0, 0), (15, .iload_n f1, 1, 0, 0, 0)],
  [(16, .putfield 104, 3, 12, 16, 0), (19, .iconst 1, 1, 1, 0, 0), (20, .ireturn, 1, 0, 0, 1)]]
/-- ToolUnion$Reader.afterBlanks(I)I -/
def cd_103 : List (List EEw) := [
  [(0, .iload_n f1, 1, 0, 0, 0), (1, .istore_n f2, 1, 0, 0, 0), (2, .iload_n f2, 1, 0, 0, 0), (3, .aload_n f0, 1, 0, 0, 0), (4, .getfield 49, 3, 7, 1, 0), (7, .if_icmp .ge 31, 3, 38, 0, 0), (10, .aload_n f0, 1, 0, 0, 0), (11, .getfield 9, 3, 7, 0, 1), (14, .iload_n f2, 1, 0, 0, 0), (15, .iaload, 1, 0, 0, 0)],
  [(16, .bipush 32, 2, 32, 0, 0), (18, .if_icmp .eq 14, 3, 32, 0, 0), (21, .aload_n f0, 1, 0, 0, 0), (22, .getfield 9, 3, 7, 0, 1), (25, .iload_n f2, 1, 0, 0, 0), (26, .iaload, 1, 0, 0, 0), (27, .bipush 10, 2, 10, 0, 0), (29, .if_icmp .ne 9, 3, 38, 0, 0)],
  [(32, .iinc 2 1, 3, 0, 0, 0), (35, .goto (-33), 3, 2, 0, 0), (38, .iload_n f2, 1, 0, 0, 0), (39, .ireturn, 1, 0, 0, 0)]]
/-- ToolUnion$Reader.isLetter(I)Z -/
def cd_104 : List (List EEw) := [
  [(0, .iload_n f0, 1, 0, 0, 0), (1, .bipush 97, 2, 97, 0, 0), (3, .if_icmp .lt 9, 3, 12, 0, 0), (6, .iload_n f0, 1, 0, 0, 0), (7, .bipush 122, 2, 122, 0, 0), (9, .if_icmp .le 15, 3, 24, 0, 0), (12, .iload_n f0, 1, 0, 0, 0), (13, .bipush 65, 2, 65, 0, 0), (15, .if_icmp .lt 13, 3, 28, 0, 0)],
  [(18, .iload_n f0, 1, 0, 0, 0), (19, .bipush 90, 2, 90, 0, 0), (21, .if_icmp .gt 7, 3, 28, 0, 0), (24, .iconst 1, 1, 1, 0, 0), (25, .goto 4, 3, 29, 0, 0), (28, .iconst 0, 1, 0, 0, 0), (29, .ireturn, 1, 0, 0, 1)]]
/-- ToolUnion$Reader.isDigit(I)Z -/
def cd_105 : List (List EEw) := [
  [(0, .iload_n f0, 1, 0, 0, 0), (1, .bipush 48, 2, 48, 0, 0), (3, .if_icmp .lt 13, 3, 16, 0, 0), (6, .iload_n f0, 1, 0, 0, 0), (7, .bipush 57, 2, 57, 0, 0), (9, .if_icmp .gt 7, 3, 16, 0, 0), (12, .iconst 1, 1, 1, 0, 0), (13, .goto 4, 3, 17, 0, 0)],
  [(16, .iconst 0, 1, 0, 0, 0), (17, .ireturn, 1, 0, 0, 1)]]
/-- ToolUnion$Reader.afterToken(I)I -/
def cd_106 : List (List EEw) := [
  [(0, .iload_n f1, 1, 0, 0, 0), (1, .iconst 1, 1, 1, 0, 0), (2, .iadd, 1, 0, 0, 0), (3, .istore_n f2, 1, 0, 0, 0), (4, .aload_n f0, 1, 0, 0, 0), (5, .getfield 9, 3, 7, 0, 1), (8, .iload_n f1, 1, 0, 0, 0), (9, .iaload, 1, 0, 0, 0), (10, .invokestatic 75, 3, 104, 1, 1), (13, .ifCond .eq 29, 3, 42, 0, 0)],
  [(16, .iload_n f2, 1, 0, 0, 0), (17, .aload_n f0, 1, 0, 0, 0), (18, .getfield 49, 3, 7, 1, 0), (21, .if_icmp .ge 59, 3, 80, 0, 0), (24, .aload_n f0, 1, 0, 0, 0), (25, .getfield 9, 3, 7, 0, 1), (28, .iload_n f2, 1, 0, 0, 0), (29, .iaload, 1, 0, 0, 0), (30, .invokestatic 75, 3, 104, 1, 1)],
  [(33, .ifCond .eq 47, 3, 80, 0, 0), (36, .iinc 2 1, 3, 0, 0, 0), (39, .goto (-23), 3, 16, 0, 0), (42, .aload_n f0, 1, 0, 0, 0), (43, .getfield 9, 3, 7, 0, 1), (46, .iload_n f1, 1, 0, 0, 0), (47, .iaload, 1, 0, 0, 0)],
  [(48, .invokestatic 79, 3, 105, 1, 1), (51, .ifCond .eq 29, 3, 80, 0, 0), (54, .iload_n f2, 1, 0, 0, 0), (55, .aload_n f0, 1, 0, 0, 0), (56, .getfield 49, 3, 7, 1, 0), (59, .if_icmp .ge 21, 3, 80, 0, 0), (62, .aload_n f0, 1, 0, 0, 0), (63, .getfield 9, 3, 7, 0, 1)],
  [(66, .iload_n f2, 1, 0, 0, 0), (67, .iaload, 1, 0, 0, 0), (68, .invokestatic 79, 3, 105, 1, 1), (71, .ifCond .eq 9, 3, 80, 0, 0), (74, .iinc 2 1, 3, 0, 0, 0), (77, .goto (-23), 3, 54, 0, 0)],
  [(80, .iload_n f2, 1, 0, 0, 0), (81, .ireturn, 1, 0, 0, 0)]]
/-- java/lang/String.coder()B -/
def cd_107 : List (List EEw) := [
  [(0, .getstatic 38, 3, 1, 0, 0), (3, .ifCond .eq 10, 3, 13, 0, 0), (6, .aload_n f0, 1, 0, 0, 0), (7, .getfield 15, 3, 200, 0, 3), (10, .goto 4, 3, 14, 0, 0), (13, .iconst 1, 1, 1, 0, 0), (14, .ireturn, 1, 0, 0, 3)]]
/-- java/lang/String.length()I -/
def cd_108 : List (List EEw) := [
  [(0, .aload_n f0, 1, 0, 0, 0), (1, .getfield 9, 3, 200, 0, 2), (4, .arraylength, 1, 0, 0, 0), (5, .aload_n f0, 1, 0, 0, 0), (6, .invokevirtual 335, 3, 107, 0, 801), (9, .ishr, 1, 0, 0, 0), (10, .ireturn, 1, 0, 0, 0)]]
/-- java/lang/String.isLatin1()Z -/
def cd_109 : List (List EEw) := [
  [(0, .getstatic 38, 3, 1, 0, 0), (3, .ifCond .eq 14, 3, 17, 0, 0), (6, .aload_n f0, 1, 0, 0, 0), (7, .getfield 15, 3, 200, 0, 3), (10, .ifCond .ne 7, 3, 17, 0, 0), (13, .iconst 1, 1, 1, 0, 0), (14, .goto 4, 3, 18, 0, 0)],
  [(17, .iconst 0, 1, 0, 0, 0), (18, .ireturn, 1, 0, 0, 1)]]
/-- jdk/internal/util/Preconditions.checkIndex(IILjava/util/function/BiFunction;)I -/
def cd_110 : List (List EEw) := [
  [(0, .iload_n f0, 1, 0, 0, 0), (1, .ifCond .lt 8, 3, 9, 0, 0), (4, .iload_n f0, 1, 0, 0, 0), (5, .iload_n f1, 1, 0, 0, 0), (6, .if_icmp .lt 10, 3, 16, 0, 0), (9, .aload_n f2, 1, 0, 0, 0), (10, .iload_n f0, 1, 0, 0, 0), (11, .iload_n f1, 1, 0, 0, 0), (12, .invokestatic 95, 3, 9997, 0, 0), (15, .athrow, 1, 0, 0, 0)],
  [(16, .iload_n f0, 1, 0, 0, 0), (17, .ireturn, 1, 0, 0, 0)]]
/-- java/lang/String.checkIndex(II)V -/
def cd_111 : List (List EEw) := [
  [(0, .iload_n f0, 1, 0, 0, 0), (1, .iload_n f1, 1, 0, 0, 0), (2, .getstatic 1053, 3, 58, 0, 1), (5, .invokestatic 1059, 3, 110, 3, 1), (8, .pop, 1, 0, 0, 0), (9, .return_, 1, 0, 0, 0)]]
/-- java/lang/StringLatin1.charAt([BI)C -/
def cd_112 : List (List EEw) := [
  [(0, .iload_n f1, 1, 0, 0, 0), (1, .aload_n f0, 1, 0, 0, 0), (2, .arraylength, 1, 0, 0, 0), (3, .invokestatic 9, 3, 111, 2, 0), (6, .aload_n f0, 1, 0, 0, 0), (7, .iload_n f1, 1, 0, 0, 0), (8, .baload, 1, 0, 0, 0), (9, .sipush 255, 3, 255, 0, 0), (12, .iand, 1, 0, 0, 0), (13, .i2c, 1, 0, 0, 0), (14, .ireturn, 1, 0, 0, 2)]]
/-- java/lang/String.charAt(I)C -/
def cd_113 : List (List EEw) := [
  [(0, .aload_n f0, 1, 0, 0, 0), (1, .invokevirtual 492, 3, 109, 0, 801), (4, .ifCond .eq 12, 3, 16, 0, 0), (7, .aload_n f0, 1, 0, 0, 0), (8, .getfield 9, 3, 200, 0, 2), (11, .iload_n f1, 1, 0, 0, 0), (12, .invokestatic 495, 3, 112, 2, 1), (15, .ireturn, 1, 0, 0, 2)],
  [(16, .aload_n f0, 1, 0, 0, 0), (17, .getfield 9, 3, 200, 0, 2), (20, .iload_n f1, 1, 0, 0, 0), (21, .invokestatic 498, 3, 9997, 0, 0), (24, .ireturn, 1, 0, 0, 2)]]
/-- ToolUnion$Reader.isSpelled(III)Z -/
def cd_114 : List (List EEw) := [
  [(0, .iload_n f1, 1, 0, 0, 0), (1, .istore 4, 2, 0, 0, 0), (3, .iload 4, 2, 0, 0, 0), (5, .iload_n f2, 1, 0, 0, 0), (6, .if_icmp .ge 32, 3, 38, 0, 0), (9, .aload_n f0, 1, 0, 0, 0), (10, .getfield 9, 3, 7, 0, 1), (13, .iload 4, 2, 0, 0, 0), (15, .iaload, 1, 0, 0, 0)],
  [(16, .ldc 92, 2, 0, 0, 1), (18, .iload_n f3, 1, 0, 0, 0), (19, .iload 4, 2, 0, 0, 0), (21, .iadd, 1, 0, 0, 0), (22, .iload_n f1, 1, 0, 0, 0), (23, .isub, 1, 0, 0, 0), (24, .invokevirtual 97, 3, 113, 1, 801), (27, .if_icmp .eq 5, 3, 32, 0, 0), (30, .iconst 0, 1, 0, 0, 0), (31, .ireturn, 1, 0, 0, 1)],
  [(32, .iinc 4 1, 3, 0, 0, 0), (35, .goto (-32), 3, 3, 0, 0), (38, .iconst 1, 1, 1, 0, 0), (39, .ireturn, 1, 0, 0, 1)]]
/-- ToolUnion$Reader.wordOf(II)I -/
def cd_115 : List (List EEw) := [
  [(0, .bipush 100, 2, 100, 0, 0), (2, .istore_n f3, 1, 0, 0, 0), (3, .iconst 0, 1, 0, 0, 0), (4, .istore 4, 2, 0, 0, 0), (6, .iconst 0, 1, 0, 0, 0), (7, .istore 5, 2, 0, 0, 0), (9, .iload 5, 2, 0, 0, 0), (11, .ldc 92, 2, 0, 0, 1), (13, .invokevirtual 94, 3, 108, 0, 801)],
  [(16, .if_icmp .ge 54, 3, 70, 0, 0), (19, .ldc 92, 2, 0, 0, 1), (21, .iload 5, 2, 0, 0, 0), (23, .invokevirtual 97, 3, 113, 1, 801), (26, .bipush 32, 2, 32, 0, 0), (28, .if_icmp .ne 36, 3, 64, 0, 0), (31, .iload 5, 2, 0, 0, 0)],
  [(33, .iload 4, 2, 0, 0, 0), (35, .isub, 1, 0, 0, 0), (36, .iload_n f2, 1, 0, 0, 0), (37, .iload_n f1, 1, 0, 0, 0), (38, .isub, 1, 0, 0, 0), (39, .if_icmp .ne 16, 3, 55, 0, 0), (42, .aload_n f0, 1, 0, 0, 0), (43, .iload_n f1, 1, 0, 0, 0), (44, .iload_n f2, 1, 0, 0, 0), (45, .iload 4, 2, 0, 0, 0), (47, .invokevirtual 101, 3, 114, 3, 29)],
  [(50, .ifCond .eq 5, 3, 55, 0, 0), (53, .iload_n f3, 1, 0, 0, 0), (54, .ireturn, 1, 0, 0, 0), (55, .iinc 3 1, 3, 0, 0, 0), (58, .iload 5, 2, 0, 0, 0), (60, .iconst 1, 1, 1, 0, 0), (61, .iadd, 1, 0, 0, 0), (62, .istore 4, 2, 0, 0, 0)],
  [(64, .iinc 5 1, 3, 0, 0, 0), (67, .goto (-58), 3, 9, 0, 0), (70, .iconst 1, 1, 1, 0, 0), (71, .ireturn, 1, 0, 0, 0)]]
/-- java/lang/StringLatin1.canEncode(I)Z -/
def cd_116 : List (List EEw) := [
  [(0, .iload_n f0, 1, 0, 0, 0), (1, .ifCond .lt 14, 3, 15, 0, 0), (4, .iload_n f0, 1, 0, 0, 0), (5, .sipush 255, 3, 255, 0, 0), (8, .if_icmp .gt 7, 3, 15, 0, 0), (11, .iconst 1, 1, 1, 0, 0), (12, .goto 4, 3, 16, 0, 0), (15, .iconst 0, 1, 0, 0, 0)],
  [(16, .ireturn, 1, 0, 0, 1)]]
/-- java/lang/StringLatin1.indexOfChar([BIII)I -/
def cd_117 : List (List EEw) := [
  [(0, .iload_n f1, 1, 0, 0, 0), (1, .i2b, 1, 0, 0, 0), (2, .istore 4, 2, 0, 0, 0), (4, .iload_n f2, 1, 0, 0, 0), (5, .istore 5, 2, 0, 0, 0), (7, .iload 5, 2, 0, 0, 0), (9, .iload_n f3, 1, 0, 0, 0), (10, .if_icmp .ge 21, 3, 31, 0, 0), (13, .aload_n f0, 1, 0, 0, 0), (14, .iload 5, 2, 0, 0, 0)],
  [(16, .baload, 1, 0, 0, 0), (17, .iload 4, 2, 0, 0, 0), (19, .if_icmp .ne 6, 3, 25, 0, 0), (22, .iload 5, 2, 0, 0, 0), (24, .ireturn, 1, 0, 0, 0), (25, .iinc 5 1, 3, 0, 0, 0), (28, .goto (-21), 3, 7, 0, 0), (31, .iconst (-1), 1, 4294967295, 0, 0)],
  [(32, .ireturn, 1, 0, 0, 0)]]
/-- java/lang/StringLatin1.indexOf([BIII)I -/
def cd_118 : List (List EEw) := [
  [(0, .iload_n f1, 1, 0, 0, 0), (1, .invokestatic 88, 3, 116, 1, 1), (4, .ifCond .ne 5, 3, 9, 0, 0), (7, .iconst (-1), 1, 4294967295, 0, 0), (8, .ireturn, 1, 0, 0, 0), (9, .iload_n f2, 1, 0, 0, 0), (10, .iconst 0, 1, 0, 0, 0), (11, .invokestatic 92, 3, 38, 2, 1), (14, .istore_n f2, 1, 0, 0, 0), (15, .iload_n f3, 1, 0, 0, 0)],
  [(16, .aload_n f0, 1, 0, 0, 0), (17, .arraylength, 1, 0, 0, 0), (18, .invokestatic 38, 3, 34, 2, 1), (21, .istore_n f3, 1, 0, 0, 0), (22, .iload_n f2, 1, 0, 0, 0), (23, .iload_n f3, 1, 0, 0, 0), (24, .if_icmp .lt 5, 3, 29, 0, 0), (27, .iconst (-1), 1, 4294967295, 0, 0), (28, .ireturn, 1, 0, 0, 0), (29, .aload_n f0, 1, 0, 0, 0), (30, .iload_n f1, 1, 0, 0, 0), (31, .iload_n f2, 1, 0, 0, 0)],
  [(32, .iload_n f3, 1, 0, 0, 0), (33, .invokestatic 95, 3, 117, 4, 1), (36, .ireturn, 1, 0, 0, 0)]]
/-- java/lang/String.indexOf(II)I -/
def cd_119 : List (List EEw) := [
  [(0, .aload_n f0, 1, 0, 0, 0), (1, .invokevirtual 492, 3, 109, 0, 801), (4, .ifCond .eq 19, 3, 23, 0, 0), (7, .aload_n f0, 1, 0, 0, 0), (8, .getfield 9, 3, 200, 0, 2), (11, .iload_n f1, 1, 0, 0, 0), (12, .iload_n f2, 1, 0, 0, 0), (13, .aload_n f0, 1, 0, 0, 0), (14, .invokevirtual 505, 3, 108, 0, 801)],
  [(17, .invokestatic 637, 3, 118, 4, 1), (20, .goto 16, 3, 36, 0, 0), (23, .aload_n f0, 1, 0, 0, 0), (24, .getfield 9, 3, 200, 0, 2), (27, .iload_n f1, 1, 0, 0, 0), (28, .iload_n f2, 1, 0, 0, 0), (29, .aload_n f0, 1, 0, 0, 0), (30, .invokevirtual 505, 3, 108, 0, 801)],
  [(33, .invokestatic 640, 3, 9997, 0, 0), (36, .ireturn, 1, 0, 0, 0)]]
/-- java/lang/String.indexOf(I)I -/
def cd_120 : List (List EEw) := [
  [(0, .aload_n f0, 1, 0, 0, 0), (1, .iload_n f1, 1, 0, 0, 0), (2, .iconst 0, 1, 0, 0, 0), (3, .invokevirtual 633, 3, 119, 2, 801), (6, .ireturn, 1, 0, 0, 0)]]
/-- ToolUnion$Reader.tokenOf(II)I -/
def cd_121 : List (List EEw) := [
  [(0, .aload_n f0, 1, 0, 0, 0), (1, .getfield 9, 3, 7, 0, 1), (4, .iload_n f1, 1, 0, 0, 0), (5, .iaload, 1, 0, 0, 0), (6, .istore_n f3, 1, 0, 0, 0), (7, .iload_n f3, 1, 0, 0, 0), (8, .invokestatic 75, 3, 104, 1, 1), (11, .ifCond .eq 10, 3, 21, 0, 0), (14, .aload_n f0, 1, 0, 0, 0), (15, .iload_n f1, 1, 0, 0, 0)],
  [(16, .iload_n f2, 1, 0, 0, 0), (17, .invokevirtual 82, 3, 115, 2, 29), (20, .ireturn, 1, 0, 0, 0), (21, .iload_n f3, 1, 0, 0, 0), (22, .invokestatic 79, 3, 105, 1, 1), (25, .ifCond .eq 16, 3, 41, 0, 0), (28, .iload_n f2, 1, 0, 0, 0), (29, .iload_n f1, 1, 0, 0, 0), (30, .isub, 1, 0, 0, 0), (31, .iconst 4, 1, 4, 0, 0)],
  [(32, .if_icmp .gt 7, 3, 39, 0, 0), (35, .iconst 2, 1, 2, 0, 0), (36, .goto 4, 3, 40, 0, 0), (39, .iconst 1, 1, 1, 0, 0), (40, .ireturn, 1, 0, 0, 0), (41, .ldc 85, 2, 1, 0, 1), (43, .iload_n f3, 1, 0, 0, 0), (44, .i2c, 1, 0, 0, 0), (45, .invokevirtual 87, 3, 120, 1, 801)],
  [(48, .ifCond .lt 7, 3, 55, 0, 0), (51, .iload_n f3, 1, 0, 0, 0), (52, .goto 4, 3, 56, 0, 0), (55, .iconst 1, 1, 1, 0, 0), (56, .ireturn, 1, 0, 0, 0)]]
/-- ToolUnion$Reader.valueOf(II)I -/
def cd_122 : List (List EEw) := [
  [(0, .iconst 0, 1, 0, 0, 0), (1, .istore_n f3, 1, 0, 0, 0), (2, .iload_n f1, 1, 0, 0, 0), (3, .istore 4, 2, 0, 0, 0), (5, .iload 4, 2, 0, 0, 0), (7, .iload_n f2, 1, 0, 0, 0), (8, .if_icmp .ge 33, 3, 41, 0, 0), (11, .iload 4, 2, 0, 0, 0), (13, .iload_n f1, 1, 0, 0, 0), (14, .iconst 4, 1, 4, 0, 0), (15, .iadd, 1, 0, 0, 0)],
  [(16, .if_icmp .ge 25, 3, 41, 0, 0), (19, .bipush 10, 2, 10, 0, 0), (21, .iload_n f3, 1, 0, 0, 0), (22, .imul, 1, 0, 0, 0), (23, .aload_n f0, 1, 0, 0, 0), (24, .getfield 9, 3, 7, 0, 1), (27, .iload 4, 2, 0, 0, 0), (29, .iaload, 1, 0, 0, 0), (30, .iadd, 1, 0, 0, 0), (31, .bipush 48, 2, 48, 0, 0)],
  [(33, .isub, 1, 0, 0, 0), (34, .istore_n f3, 1, 0, 0, 0), (35, .iinc 4 1, 3, 0, 0, 0), (38, .goto (-33), 3, 5, 0, 0), (41, .iload_n f3, 1, 0, 0, 0), (42, .ireturn, 1, 0, 0, 0)]]
/-- ToolUnion$Reader.begin()V -/
def cd_123 : List (List EEw) := [
  [(0, .aload_n f0, 1, 0, 0, 0), (1, .iconst 0, 1, 0, 0, 0), (2, .putfield 52, 3, 7, 2, 0), (5, .aload_n f0, 1, 0, 0, 0), (6, .iconst (-1), 1, 4294967295, 0, 0), (7, .putfield 15, 3, 7, 3, 0), (10, .iconst 0, 1, 0, 0, 0), (11, .istore_n f1, 1, 0, 0, 0), (12, .aload_n f0, 1, 0, 0, 0), (13, .iconst 0, 1, 0, 0, 0), (14, .invokevirtual 55, 3, 103, 1, 29)],
  [(17, .istore_n f2, 1, 0, 0, 0), (18, .iload_n f2, 1, 0, 0, 0), (19, .aload_n f0, 1, 0, 0, 0), (20, .getfield 49, 3, 7, 1, 0), (23, .if_icmp .ge 59, 3, 82, 0, 0), (26, .iload_n f1, 1, 0, 0, 0), (27, .sipush 400, 3, 400, 0, 0), (30, .if_icmp .ge 52, 3, 82, 0, 0)],
  [(33, .aload_n f0, 1, 0, 0, 0), (34, .iload_n f2, 1, 0, 0, 0), (35, .invokevirtual 59, 3, 106, 1, 29), (38, .istore_n f3, 1, 0, 0, 0), (39, .aload_n f0, 1, 0, 0, 0), (40, .getfield 19, 3, 7, 4, 1), (43, .iload_n f1, 1, 0, 0, 0), (44, .aload_n f0, 1, 0, 0, 0), (45, .iload_n f2, 1, 0, 0, 0), (46, .iload_n f3, 1, 0, 0, 0), (47, .invokevirtual 62, 3, 121, 2, 29)],
  [(50, .iastore, 1, 0, 0, 0), (51, .aload_n f0, 1, 0, 0, 0), (52, .getfield 22, 3, 7, 5, 1), (55, .iload_n f1, 1, 0, 0, 0), (56, .aload_n f0, 1, 0, 0, 0), (57, .iload_n f2, 1, 0, 0, 0), (58, .iload_n f3, 1, 0, 0, 0), (59, .invokevirtual 66, 3, 122, 2, 29), (62, .iastore, 1, 0, 0, 0), (63, .aload_n f0, 1, 0, 0, 0)],
  [(64, .getfield 25, 3, 7, 6, 1), (67, .iload_n f1, 1, 0, 0, 0), (68, .iload_n f2, 1, 0, 0, 0), (69, .iastore, 1, 0, 0, 0), (70, .iinc 1 1, 3, 0, 0, 0), (73, .aload_n f0, 1, 0, 0, 0), (74, .iload_n f3, 1, 0, 0, 0), (75, .invokevirtual 55, 3, 103, 1, 29), (78, .istore_n f2, 1, 0, 0, 0), (79, .goto (-61), 3, 18, 0, 0)],
  [(82, .aload_n f0, 1, 0, 0, 0), (83, .getfield 19, 3, 7, 4, 1), (86, .iload_n f1, 1, 0, 0, 0), (87, .iconst 0, 1, 0, 0, 0), (88, .iastore, 1, 0, 0, 0), (89, .aload_n f0, 1, 0, 0, 0), (90, .getfield 25, 3, 7, 6, 1), (93, .iload_n f1, 1, 0, 0, 0), (94, .aload_n f0, 1, 0, 0, 0), (95, .getfield 49, 3, 7, 1, 0)],
  [(98, .iastore, 1, 0, 0, 0), (99, .aload_n f0, 1, 0, 0, 0), (100, .iconst 0, 1, 0, 0, 0), (101, .putfield 69, 3, 7, 7, 0), (104, .aload_n f0, 1, 0, 0, 0), (105, .aload_n f0, 1, 0, 0, 0), (106, .getfield 19, 3, 7, 4, 1), (109, .iconst 0, 1, 0, 0, 0), (110, .iaload, 1, 0, 0, 0), (111, .putfield 72, 3, 7, 8, 0)],
  [(114, .return_, 1, 0, 0, 0)]]
/-- ToolUnion$Reader.fail(I)Z -/
def cd_124 : List (List EEw) := [
  [(0, .aload_n f0, 1, 0, 0, 0), (1, .iload_n f1, 1, 0, 0, 0), (2, .putfield 52, 3, 7, 2, 0), (5, .aload_n f0, 1, 0, 0, 0), (6, .aload_n f0, 1, 0, 0, 0), (7, .getfield 25, 3, 7, 6, 1), (10, .aload_n f0, 1, 0, 0, 0), (11, .getfield 69, 3, 7, 7, 0), (14, .iaload, 1, 0, 0, 0), (15, .putfield 15, 3, 7, 3, 0)],
  [(18, .iconst 0, 1, 0, 0, 0), (19, .ireturn, 1, 0, 0, 1)]]
/-- ToolUnion$Reader.advance()V -/
def cd_125 : List (List EEw) := [
  [(0, .aload_n f0, 1, 0, 0, 0), (1, .getfield 69, 3, 7, 7, 0), (4, .sipush 400, 3, 400, 0, 0), (7, .if_icmp .ge 33, 3, 40, 0, 0), (10, .aload_n f0, 1, 0, 0, 0), (11, .getfield 72, 3, 7, 8, 0), (14, .ifCond .eq 26, 3, 40, 0, 0)],
  [(17, .aload_n f0, 1, 0, 0, 0), (18, .dup, 1, 0, 0, 0), (19, .getfield 69, 3, 7, 7, 0), (22, .iconst 1, 1, 1, 0, 0), (23, .iadd, 1, 0, 0, 0), (24, .putfield 69, 3, 7, 7, 0), (27, .aload_n f0, 1, 0, 0, 0), (28, .aload_n f0, 1, 0, 0, 0), (29, .getfield 19, 3, 7, 4, 1)],
  [(32, .aload_n f0, 1, 0, 0, 0), (33, .getfield 69, 3, 7, 7, 0), (36, .iaload, 1, 0, 0, 0), (37, .putfield 72, 3, 7, 8, 0), (40, .return_, 1, 0, 0, 0)]]
/-- ToolUnion$Law.put(II)V -/
def cd_126 : List (List EEw) := [
  [(0, .aload_n f0, 1, 0, 0, 0), (1, .getfield 31, 3, 3, 1, 0), (4, .sipush 400, 3, 400, 0, 0), (7, .if_icmp .ge 27, 3, 34, 0, 0), (10, .aload_n f0, 1, 0, 0, 0), (11, .getfield 24, 3, 3, 6, 1), (14, .aload_n f0, 1, 0, 0, 0), (15, .getfield 31, 3, 3, 1, 0)],
  [(18, .iload_n f1, 1, 0, 0, 0), (19, .iload_n f2, 1, 0, 0, 0), (20, .iconst 4, 1, 4, 0, 0), (21, .ishl, 1, 0, 0, 0), (22, .ior, 1, 0, 0, 0), (23, .iastore, 1, 0, 0, 0), (24, .aload_n f0, 1, 0, 0, 0), (25, .dup, 1, 0, 0, 0), (26, .getfield 31, 3, 3, 1, 0), (29, .iconst 1, 1, 1, 0, 0), (30, .iadd, 1, 0, 0, 0), (31, .putfield 31, 3, 3, 1, 0)],
  [(34, .return_, 1, 0, 0, 0)]]
/-- ToolUnion$Reader.passUnit()Z -/
def cd_127 : List (List EEw) := [
  [(0, .aload_n f0, 1, 0, 0, 0), (1, .getfield 72, 3, 7, 8, 0), (4, .iconst 2, 1, 2, 0, 0), (5, .if_icmp .ne 23, 3, 28, 0, 0), (8, .aload_n f0, 1, 0, 0, 0), (9, .getfield 31, 3, 7, 10, 1), (12, .iconst 0, 1, 0, 0, 0), (13, .aload_n f0, 1, 0, 0, 0), (14, .getfield 22, 3, 7, 5, 1)],
  [(17, .aload_n f0, 1, 0, 0, 0), (18, .getfield 69, 3, 7, 7, 0), (21, .iaload, 1, 0, 0, 0), (22, .invokevirtual 153, 3, 126, 2, 12), (25, .goto 45, 3, 70, 0, 0), (28, .aload_n f0, 1, 0, 0, 0), (29, .getfield 72, 3, 7, 8, 0)],
  [(32, .bipush 109, 2, 109, 0, 0), (34, .if_icmp .lt 30, 3, 64, 0, 0), (37, .aload_n f0, 1, 0, 0, 0), (38, .getfield 72, 3, 7, 8, 0), (41, .bipush 118, 2, 118, 0, 0), (43, .if_icmp .gt 21, 3, 64, 0, 0), (46, .aload_n f0, 1, 0, 0, 0), (47, .getfield 31, 3, 7, 10, 1)],
  [(50, .iconst 1, 1, 1, 0, 0), (51, .aload_n f0, 1, 0, 0, 0), (52, .getfield 72, 3, 7, 8, 0), (55, .bipush 109, 2, 109, 0, 0), (57, .isub, 1, 0, 0, 0), (58, .invokevirtual 153, 3, 126, 2, 12), (61, .goto 9, 3, 70, 0, 0)],
  [(64, .aload_n f0, 1, 0, 0, 0), (65, .iconst 1, 1, 1, 0, 0), (66, .invokevirtual 105, 3, 124, 1, 29), (69, .ireturn, 1, 0, 0, 1), (70, .aload_n f0, 1, 0, 0, 0), (71, .invokevirtual 108, 3, 125, 0, 28), (74, .iconst 1, 1, 1, 0, 0), (75, .ireturn, 1, 0, 0, 1)]]
/-- ToolUnion$Reader.passNumber(II)Z -/
def cd_128 : List (List EEw) := [
  [(0, .aload_n f0, 1, 0, 0, 0), (1, .getfield 72, 3, 7, 8, 0), (4, .iconst 2, 1, 2, 0, 0), (5, .if_icmp .eq 9, 3, 14, 0, 0), (8, .aload_n f0, 1, 0, 0, 0), (9, .iconst 1, 1, 1, 0, 0), (10, .invokevirtual 105, 3, 124, 1, 29), (13, .ireturn, 1, 0, 0, 1), (14, .aload_n f0, 1, 0, 0, 0), (15, .aload_n f0, 1, 0, 0, 0)],
  [(16, .getfield 22, 3, 7, 5, 1), (19, .aload_n f0, 1, 0, 0, 0), (20, .getfield 69, 3, 7, 7, 0), (23, .iaload, 1, 0, 0, 0), (24, .putfield 111, 3, 7, 9, 0), (27, .aload_n f0, 1, 0, 0, 0), (28, .getfield 111, 3, 7, 9, 0), (31, .iload_n f1, 1, 0, 0, 0)],
  [(32, .if_icmp .lt 11, 3, 43, 0, 0), (35, .aload_n f0, 1, 0, 0, 0), (36, .getfield 111, 3, 7, 9, 0), (39, .iload_n f2, 1, 0, 0, 0), (40, .if_icmp .le 9, 3, 49, 0, 0), (43, .aload_n f0, 1, 0, 0, 0), (44, .iconst 2, 1, 2, 0, 0), (45, .invokevirtual 105, 3, 124, 1, 29)],
  [(48, .ireturn, 1, 0, 0, 1), (49, .aload_n f0, 1, 0, 0, 0), (50, .invokevirtual 108, 3, 125, 0, 28), (53, .iconst 1, 1, 1, 0, 0), (54, .ireturn, 1, 0, 0, 1)]]
/-- ToolUnion$Reader.passSum()Z -/
def cd_129 : List (List EEw) := [
  [(0, .iconst (-1), 1, 4294967295, 0, 0), (1, .istore_n f1, 1, 0, 0, 0), (2, .aload_n f0, 1, 0, 0, 0), (3, .invokevirtual 157, 3, 127, 0, 29), (6, .istore_n f2, 1, 0, 0, 0), (7, .iconst 0, 1, 0, 0, 0), (8, .istore_n f3, 1, 0, 0, 0), (9, .iload_n f3, 1, 0, 0, 0), (10, .sipush 400, 3, 400, 0, 0), (13, .if_icmp .ge 147, 3, 160, 0, 0)],
  [(16, .iload_n f2, 1, 0, 0, 0), (17, .ifCond .eq 143, 3, 160, 0, 0), (20, .aload_n f0, 1, 0, 0, 0), (21, .getfield 72, 3, 7, 8, 0), (24, .bipush 43, 2, 43, 0, 0), (26, .if_icmp .eq 30, 3, 56, 0, 0), (29, .aload_n f0, 1, 0, 0, 0), (30, .getfield 72, 3, 7, 8, 0)],
  [(33, .bipush 45, 2, 45, 0, 0), (35, .if_icmp .eq 21, 3, 56, 0, 0), (38, .aload_n f0, 1, 0, 0, 0), (39, .getfield 72, 3, 7, 8, 0), (42, .bipush 42, 2, 42, 0, 0), (44, .if_icmp .eq 12, 3, 56, 0, 0), (47, .aload_n f0, 1, 0, 0, 0)],
  [(48, .getfield 72, 3, 7, 8, 0), (51, .bipush 47, 2, 47, 0, 0), (53, .if_icmp .ne 107, 3, 160, 0, 0), (56, .aload_n f0, 1, 0, 0, 0), (57, .getfield 72, 3, 7, 8, 0), (60, .istore 4, 2, 0, 0, 0), (62, .aload_n f0, 1, 0, 0, 0), (63, .invokevirtual 108, 3, 125, 0, 28)],
  [(66, .iload 4, 2, 0, 0, 0), (68, .bipush 47, 2, 47, 0, 0), (70, .if_icmp .ne 27, 3, 97, 0, 0), (73, .aload_n f0, 1, 0, 0, 0), (74, .iconst 1, 1, 1, 0, 0), (75, .sipush 9999, 3, 9999, 0, 0), (78, .invokevirtual 160, 3, 128, 2, 29)],
  [(81, .istore_n f2, 1, 0, 0, 0), (82, .aload_n f0, 1, 0, 0, 0), (83, .getfield 31, 3, 7, 10, 1), (86, .iconst 2, 1, 2, 0, 0), (87, .aload_n f0, 1, 0, 0, 0), (88, .getfield 111, 3, 7, 9, 0), (91, .invokevirtual 153, 3, 126, 2, 12), (94, .goto 60, 3, 154, 0, 0)],
  [(97, .iload 4, 2, 0, 0, 0), (99, .bipush 42, 2, 42, 0, 0), (101, .if_icmp .ne 21, 3, 122, 0, 0), (104, .aload_n f0, 1, 0, 0, 0), (105, .invokevirtual 157, 3, 127, 0, 29), (108, .istore_n f2, 1, 0, 0, 0), (109, .aload_n f0, 1, 0, 0, 0), (110, .getfield 31, 3, 7, 10, 1)],
  [(113, .bipush 6, 2, 6, 0, 0), (115, .iconst 0, 1, 0, 0, 0), (116, .invokevirtual 153, 3, 126, 2, 12), (119, .goto 35, 3, 154, 0, 0), (122, .iload_n f1, 1, 0, 0, 0), (123, .iconst (-1), 1, 4294967295, 0, 0), (124, .if_icmp .eq 12, 3, 136, 0, 0), (127, .aload_n f0, 1, 0, 0, 0)],
  [(128, .getfield 31, 3, 7, 10, 1), (131, .iload_n f1, 1, 0, 0, 0), (132, .iconst 0, 1, 0, 0, 0), (133, .invokevirtual 153, 3, 126, 2, 12), (136, .iload 4, 2, 0, 0, 0), (138, .bipush 43, 2, 43, 0, 0), (140, .if_icmp .ne 7, 3, 147, 0, 0), (143, .iconst 4, 1, 4, 0, 0)],
  [(144, .goto 4, 3, 148, 0, 0), (147, .iconst 5, 1, 5, 0, 0), (148, .istore_n f1, 1, 0, 0, 0), (149, .aload_n f0, 1, 0, 0, 0), (150, .invokevirtual 157, 3, 127, 0, 29), (153, .istore_n f2, 1, 0, 0, 0), (154, .iinc 3 1, 3, 0, 0, 0), (157, .goto (-148), 3, 9, 0, 0)],
  [(160, .iload_n f1, 1, 0, 0, 0), (161, .iconst (-1), 1, 4294967295, 0, 0), (162, .if_icmp .eq 12, 3, 174, 0, 0), (165, .aload_n f0, 1, 0, 0, 0), (166, .getfield 31, 3, 7, 10, 1), (169, .iload_n f1, 1, 0, 0, 0), (170, .iconst 0, 1, 0, 0, 0), (171, .invokevirtual 153, 3, 126, 2, 12), (174, .iload_n f2, 1, 0, 0, 0), (175, .ireturn, 1, 0, 0, 1)]]
/-- ToolUnion$Reader.pass(I)Z -/
def cd_130 : List (List EEw) := [
  [(0, .aload_n f0, 1, 0, 0, 0), (1, .getfield 72, 3, 7, 8, 0), (4, .iload_n f1, 1, 0, 0, 0), (5, .if_icmp .eq 9, 3, 14, 0, 0), (8, .aload_n f0, 1, 0, 0, 0), (9, .iconst 1, 1, 1, 0, 0), (10, .invokevirtual 105, 3, 124, 1, 29), (13, .ireturn, 1, 0, 0, 1), (14, .aload_n f0, 1, 0, 0, 0), (15, .invokevirtual 108, 3, 125, 0, 28)],
  [(18, .iconst 1, 1, 1, 0, 0), (19, .ireturn, 1, 0, 0, 1)]]
/-- ToolUnion$Reader.passTest(I)Z -/
def cd_131 : List (List EEw) := [
  [(0, .aload_n f0, 1, 0, 0, 0), (1, .getfield 72, 3, 7, 8, 0), (4, .bipush 108, 2, 108, 0, 0), (6, .if_icmp .eq 12, 3, 18, 0, 0), (9, .aload_n f0, 1, 0, 0, 0), (10, .getfield 72, 3, 7, 8, 0), (13, .bipush 40, 2, 40, 0, 0), (15, .if_icmp .ne 15, 3, 30, 0, 0)],
  [(18, .iload_n f1, 1, 0, 0, 0), (19, .bipush 8, 2, 8, 0, 0), (21, .if_icmp .lt 9, 3, 30, 0, 0), (24, .aload_n f0, 1, 0, 0, 0), (25, .iconst 3, 1, 3, 0, 0), (26, .invokevirtual 105, 3, 124, 1, 29), (29, .ireturn, 1, 0, 0, 1), (30, .aload_n f0, 1, 0, 0, 0), (31, .getfield 72, 3, 7, 8, 0)],
  [(34, .bipush 108, 2, 108, 0, 0), (36, .if_icmp .ne 26, 3, 62, 0, 0), (39, .aload_n f0, 1, 0, 0, 0), (40, .invokevirtual 108, 3, 125, 0, 28), (43, .aload_n f0, 1, 0, 0, 0), (44, .iload_n f1, 1, 0, 0, 0), (45, .iconst 1, 1, 1, 0, 0), (46, .iadd, 1, 0, 0, 0), (47, .invokevirtual 150, 3, 131, 1, 29)],
  [(50, .istore_n f2, 1, 0, 0, 0), (51, .aload_n f0, 1, 0, 0, 0), (52, .getfield 31, 3, 7, 10, 1), (55, .iconst 3, 1, 3, 0, 0), (56, .iconst 0, 1, 0, 0, 0), (57, .invokevirtual 153, 3, 126, 2, 12), (60, .iload_n f2, 1, 0, 0, 0), (61, .ireturn, 1, 0, 0, 1), (62, .aload_n f0, 1, 0, 0, 0), (63, .getfield 72, 3, 7, 8, 0)],
  [(66, .bipush 40, 2, 40, 0, 0), (68, .if_icmp .ne 32, 3, 100, 0, 0), (71, .aload_n f0, 1, 0, 0, 0), (72, .invokevirtual 108, 3, 125, 0, 28), (75, .aload_n f0, 1, 0, 0, 0), (76, .iload_n f1, 1, 0, 0, 0), (77, .iconst 1, 1, 1, 0, 0), (78, .iadd, 1, 0, 0, 0), (79, .invokevirtual 141, 3, 132, 1, 29)],
  [(82, .ifCond .eq 16, 3, 98, 0, 0), (85, .aload_n f0, 1, 0, 0, 0), (86, .bipush 41, 2, 41, 0, 0), (88, .invokevirtual 147, 3, 130, 1, 29), (91, .ifCond .eq 7, 3, 98, 0, 0), (94, .iconst 1, 1, 1, 0, 0), (95, .goto 4, 3, 99, 0, 0)],
  [(98, .iconst 0, 1, 0, 0, 0), (99, .ireturn, 1, 0, 0, 1), (100, .aload_n f0, 1, 0, 0, 0), (101, .invokevirtual 134, 3, 129, 0, 29), (104, .ifCond .ne 5, 3, 109, 0, 0), (107, .iconst 0, 1, 0, 0, 0), (108, .ireturn, 1, 0, 0, 1), (109, .aload_n f0, 1, 0, 0, 0), (110, .getfield 72, 3, 7, 8, 0)],
  [(113, .istore_n f2, 1, 0, 0, 0), (114, .iload_n f2, 1, 0, 0, 0), (115, .bipush 60, 2, 60, 0, 0), (117, .if_icmp .eq 21, 3, 138, 0, 0), (120, .iload_n f2, 1, 0, 0, 0), (121, .bipush 61, 2, 61, 0, 0), (123, .if_icmp .eq 15, 3, 138, 0, 0), (126, .iload_n f2, 1, 0, 0, 0), (127, .bipush 62, 2, 62, 0, 0)],
  [(129, .if_icmp .eq 9, 3, 138, 0, 0), (132, .aload_n f0, 1, 0, 0, 0), (133, .iconst 1, 1, 1, 0, 0), (134, .invokevirtual 105, 3, 124, 1, 29), (137, .ireturn, 1, 0, 0, 1), (138, .aload_n f0, 1, 0, 0, 0), (139, .invokevirtual 108, 3, 125, 0, 28), (142, .aload_n f0, 1, 0, 0, 0), (143, .invokevirtual 134, 3, 129, 0, 29)],
  [(146, .istore_n f3, 1, 0, 0, 0), (147, .aload_n f0, 1, 0, 0, 0), (148, .getfield 31, 3, 7, 10, 1), (151, .iload_n f2, 1, 0, 0, 0), (152, .bipush 60, 2, 60, 0, 0), (154, .if_icmp .ne 8, 3, 162, 0, 0), (157, .bipush 7, 2, 7, 0, 0), (159, .goto 16, 3, 175, 0, 0)],
  [(162, .iload_n f2, 1, 0, 0, 0), (163, .bipush 61, 2, 61, 0, 0), (165, .if_icmp .ne 8, 3, 173, 0, 0), (168, .bipush 8, 2, 8, 0, 0), (170, .goto 5, 3, 175, 0, 0), (173, .bipush 9, 2, 9, 0, 0), (175, .iconst 0, 1, 0, 0, 0)],
  [(176, .invokevirtual 153, 3, 126, 2, 12), (179, .iload_n f3, 1, 0, 0, 0), (180, .ireturn, 1, 0, 0, 1)]]
/-- ToolUnion$Reader.passEither(I)Z -/
def cd_132 : List (List EEw) := [
  [(0, .iconst 0, 1, 0, 0, 0), (1, .istore_n f2, 1, 0, 0, 0), (2, .aload_n f0, 1, 0, 0, 0), (3, .iload_n f1, 1, 0, 0, 0), (4, .invokevirtual 150, 3, 131, 1, 29), (7, .istore_n f3, 1, 0, 0, 0), (8, .iconst 0, 1, 0, 0, 0), (9, .istore 4, 2, 0, 0, 0), (11, .iload 4, 2, 0, 0, 0), (13, .sipush 400, 3, 400, 0, 0)],
  [(16, .if_icmp .ge 106, 3, 122, 0, 0), (19, .iload_n f3, 1, 0, 0, 0), (20, .ifCond .eq 102, 3, 122, 0, 0), (23, .aload_n f0, 1, 0, 0, 0), (24, .getfield 72, 3, 7, 8, 0), (27, .bipush 106, 2, 106, 0, 0), (29, .if_icmp .eq 12, 3, 41, 0, 0)],
  [(32, .aload_n f0, 1, 0, 0, 0), (33, .getfield 72, 3, 7, 8, 0), (36, .bipush 107, 2, 107, 0, 0), (38, .if_icmp .ne 84, 3, 122, 0, 0), (41, .aload_n f0, 1, 0, 0, 0), (42, .getfield 72, 3, 7, 8, 0), (45, .bipush 107, 2, 107, 0, 0), (47, .if_icmp .ne 7, 3, 54, 0, 0)],
  [(50, .iconst 1, 1, 1, 0, 0), (51, .goto 4, 3, 55, 0, 0), (54, .iconst 0, 1, 0, 0, 0), (55, .istore 5, 2, 0, 0, 0), (57, .iload 5, 2, 0, 0, 0), (59, .ifCond .ne 17, 3, 76, 0, 0), (62, .iload_n f2, 1, 0, 0, 0), (63, .ifCond .eq 13, 3, 76, 0, 0)],
  [(66, .aload_n f0, 1, 0, 0, 0), (67, .getfield 31, 3, 7, 10, 1), (70, .bipush 11, 2, 11, 0, 0), (72, .iconst 0, 1, 0, 0, 0), (73, .invokevirtual 153, 3, 126, 2, 12), (76, .iload_n f2, 1, 0, 0, 0), (77, .ifCond .ne 8, 3, 85, 0, 0)],
  [(80, .iload 5, 2, 0, 0, 0), (82, .ifCond .ne 7, 3, 89, 0, 0), (85, .iconst 1, 1, 1, 0, 0), (86, .goto 4, 3, 90, 0, 0), (89, .iconst 0, 1, 0, 0, 0), (90, .istore_n f2, 1, 0, 0, 0), (91, .aload_n f0, 1, 0, 0, 0), (92, .invokevirtual 108, 3, 125, 0, 28), (95, .aload_n f0, 1, 0, 0, 0)],
  [(96, .iload_n f1, 1, 0, 0, 0), (97, .invokevirtual 150, 3, 131, 1, 29), (100, .istore_n f3, 1, 0, 0, 0), (101, .iload 5, 2, 0, 0, 0), (103, .ifCond .eq 13, 3, 116, 0, 0), (106, .aload_n f0, 1, 0, 0, 0), (107, .getfield 31, 3, 7, 10, 1), (110, .bipush 10, 2, 10, 0, 0)],
  [(112, .iconst 0, 1, 0, 0, 0), (113, .invokevirtual 153, 3, 126, 2, 12), (116, .iinc 4 1, 3, 0, 0, 0), (119, .goto (-108), 3, 11, 0, 0), (122, .iload_n f2, 1, 0, 0, 0), (123, .ifCond .eq 13, 3, 136, 0, 0), (126, .aload_n f0, 1, 0, 0, 0), (127, .getfield 31, 3, 7, 10, 1)],
  [(130, .bipush 11, 2, 11, 0, 0), (132, .iconst 0, 1, 0, 0, 0), (133, .invokevirtual 153, 3, 126, 2, 12), (136, .iload_n f3, 1, 0, 0, 0), (137, .ireturn, 1, 0, 0, 1)]]
/-- ToolUnion$Reader.passLine(Z)Z -/
def cd_133 : List (List EEw) := [
  [(0, .aload_n f0, 1, 0, 0, 0), (1, .getfield 31, 3, 7, 10, 1), (4, .getfield 114, 3, 3, 0, 0), (7, .istore_n f2, 1, 0, 0, 0), (8, .iload_n f1, 1, 0, 0, 0), (9, .ifCond .eq 24, 3, 33, 0, 0), (12, .aload_n f0, 1, 0, 0, 0), (13, .getfield 72, 3, 7, 8, 0)],
  [(16, .bipush 102, 2, 102, 0, 0), (18, .if_icmp .lt 33, 3, 51, 0, 0), (21, .aload_n f0, 1, 0, 0, 0), (22, .getfield 72, 3, 7, 8, 0), (25, .bipush 104, 2, 104, 0, 0), (27, .if_icmp .le 30, 3, 57, 0, 0), (30, .goto 21, 3, 51, 0, 0)],
  [(33, .aload_n f0, 1, 0, 0, 0), (34, .getfield 72, 3, 7, 8, 0), (37, .bipush 100, 2, 100, 0, 0), (39, .if_icmp .eq 18, 3, 57, 0, 0), (42, .aload_n f0, 1, 0, 0, 0), (43, .getfield 72, 3, 7, 8, 0), (46, .bipush 101, 2, 101, 0, 0)],
  [(48, .if_icmp .eq 9, 3, 57, 0, 0), (51, .aload_n f0, 1, 0, 0, 0), (52, .iconst 1, 1, 1, 0, 0), (53, .invokevirtual 105, 3, 124, 1, 29), (56, .ireturn, 1, 0, 0, 1), (57, .iload_n f2, 1, 0, 0, 0), (58, .bipush 16, 2, 16, 0, 0), (60, .if_icmp .lt 9, 3, 69, 0, 0), (63, .aload_n f0, 1, 0, 0, 0)],
  [(64, .iconst 3, 1, 3, 0, 0), (65, .invokevirtual 105, 3, 124, 1, 29), (68, .ireturn, 1, 0, 0, 1), (69, .aload_n f0, 1, 0, 0, 0), (70, .getfield 31, 3, 7, 10, 1), (73, .getfield 128, 3, 3, 2, 1), (76, .iload_n f2, 1, 0, 0, 0), (77, .aload_n f0, 1, 0, 0, 0), (78, .getfield 72, 3, 7, 8, 0)],
  [(81, .iastore, 1, 0, 0, 0), (82, .aload_n f0, 1, 0, 0, 0), (83, .getfield 31, 3, 7, 10, 1), (86, .getfield 131, 3, 3, 3, 1), (89, .iload_n f2, 1, 0, 0, 0), (90, .aload_n f0, 1, 0, 0, 0), (91, .getfield 31, 3, 7, 10, 1), (94, .getfield 117, 3, 3, 1, 0)],
  [(97, .iastore, 1, 0, 0, 0), (98, .aload_n f0, 1, 0, 0, 0), (99, .invokevirtual 108, 3, 125, 0, 28), (102, .iload_n f1, 1, 0, 0, 0), (103, .ifCond .eq 12, 3, 115, 0, 0), (106, .aload_n f0, 1, 0, 0, 0), (107, .invokevirtual 134, 3, 129, 0, 29), (110, .ifCond .ne 5, 3, 115, 0, 0)],
  [(113, .iconst 0, 1, 0, 0, 0), (114, .ireturn, 1, 0, 0, 1), (115, .aload_n f0, 1, 0, 0, 0), (116, .getfield 31, 3, 7, 10, 1), (119, .getfield 138, 3, 3, 4, 1), (122, .iload_n f2, 1, 0, 0, 0), (123, .aload_n f0, 1, 0, 0, 0), (124, .getfield 31, 3, 7, 10, 1), (127, .getfield 117, 3, 3, 1, 0)],
  [(130, .iastore, 1, 0, 0, 0), (131, .aload_n f0, 1, 0, 0, 0), (132, .getfield 72, 3, 7, 8, 0), (135, .bipush 105, 2, 105, 0, 0), (137, .if_icmp .ne 17, 3, 154, 0, 0), (140, .aload_n f0, 1, 0, 0, 0), (141, .invokevirtual 108, 3, 125, 0, 28)],
  [(144, .aload_n f0, 1, 0, 0, 0), (145, .iconst 0, 1, 0, 0, 0), (146, .invokevirtual 141, 3, 132, 1, 29), (149, .ifCond .ne 5, 3, 154, 0, 0), (152, .iconst 0, 1, 0, 0, 0), (153, .ireturn, 1, 0, 0, 1), (154, .aload_n f0, 1, 0, 0, 0), (155, .getfield 31, 3, 7, 10, 1), (158, .getfield 144, 3, 3, 5, 1)],
  [(161, .iload_n f2, 1, 0, 0, 0), (162, .aload_n f0, 1, 0, 0, 0), (163, .getfield 31, 3, 7, 10, 1), (166, .getfield 117, 3, 3, 1, 0), (169, .iastore, 1, 0, 0, 0), (170, .aload_n f0, 1, 0, 0, 0), (171, .getfield 31, 3, 7, 10, 1), (174, .dup, 1, 0, 0, 0), (175, .getfield 114, 3, 3, 0, 0)],
  [(178, .iconst 1, 1, 1, 0, 0), (179, .iadd, 1, 0, 0, 0), (180, .putfield 114, 3, 3, 0, 0), (183, .aload_n f0, 1, 0, 0, 0), (184, .bipush 59, 2, 59, 0, 0), (186, .invokevirtual 147, 3, 130, 1, 29), (189, .ireturn, 1, 0, 0, 1)]]
/-- ToolUnion$Law.copy(LToolUnion$Law;)V -/
def cd_134 : List (List EEw) := [
  [(0, .aload_n f0, 1, 0, 0, 0), (1, .aload_n f1, 1, 0, 0, 0), (2, .getfield 27, 3, 3, 0, 0), (5, .putfield 27, 3, 3, 0, 0), (8, .aload_n f0, 1, 0, 0, 0), (9, .aload_n f1, 1, 0, 0, 0), (10, .getfield 31, 3, 3, 1, 0), (13, .putfield 31, 3, 3, 1, 0)],
  [(16, .aload_n f1, 1, 0, 0, 0), (17, .getfield 9, 3, 3, 2, 1), (20, .aload_n f0, 1, 0, 0, 0), (21, .getfield 9, 3, 3, 2, 1), (24, .invokestatic 34, 3, 35, 2, 0), (27, .aload_n f1, 1, 0, 0, 0), (28, .getfield 15, 3, 3, 3, 1), (31, .aload_n f0, 1, 0, 0, 0)],
  [(32, .getfield 15, 3, 3, 3, 1), (35, .invokestatic 34, 3, 35, 2, 0), (38, .aload_n f1, 1, 0, 0, 0), (39, .getfield 18, 3, 3, 4, 1), (42, .aload_n f0, 1, 0, 0, 0), (43, .getfield 18, 3, 3, 4, 1), (46, .invokestatic 34, 3, 35, 2, 0)],
  [(49, .aload_n f1, 1, 0, 0, 0), (50, .getfield 21, 3, 3, 5, 1), (53, .aload_n f0, 1, 0, 0, 0), (54, .getfield 21, 3, 3, 5, 1), (57, .invokestatic 34, 3, 35, 2, 0), (60, .aload_n f1, 1, 0, 0, 0), (61, .getfield 24, 3, 3, 6, 1)],
  [(64, .aload_n f0, 1, 0, 0, 0), (65, .getfield 24, 3, 3, 6, 1), (68, .invokestatic 34, 3, 35, 2, 0), (71, .return_, 1, 0, 0, 0)]]
/-- ToolUnion$Reader.tellLaw(LToolUnion$Law;Z)I -/
def cd_135 : List (List EEw) := [
  [(0, .aload_n f0, 1, 0, 0, 0), (1, .getfield 31, 3, 7, 10, 1), (4, .iconst 0, 1, 0, 0, 0), (5, .putfield 114, 3, 3, 0, 0), (8, .aload_n f0, 1, 0, 0, 0), (9, .getfield 31, 3, 7, 10, 1), (12, .iconst 0, 1, 0, 0, 0), (13, .putfield 117, 3, 3, 1, 0)],
  [(16, .iconst 0, 1, 0, 0, 0), (17, .istore_n f3, 1, 0, 0, 0), (18, .iload_n f3, 1, 0, 0, 0), (19, .bipush 16, 2, 16, 0, 0), (21, .if_icmp .gt 26, 3, 47, 0, 0), (24, .aload_n f0, 1, 0, 0, 0), (25, .getfield 72, 3, 7, 8, 0), (28, .ifCond .eq 19, 3, 47, 0, 0), (31, .aload_n f0, 1, 0, 0, 0)],
  [(32, .iload_n f2, 1, 0, 0, 0), (33, .invokevirtual 120, 3, 133, 1, 29), (36, .ifCond .ne 5, 3, 41, 0, 0), (39, .iconst (-1), 1, 4294967295, 0, 0), (40, .ireturn, 1, 0, 0, 0), (41, .iinc 3 1, 3, 0, 0, 0), (44, .goto (-26), 3, 18, 0, 0), (47, .aload_n f1, 1, 0, 0, 0)],
  [(48, .aload_n f0, 1, 0, 0, 0), (49, .getfield 31, 3, 7, 10, 1), (52, .invokevirtual 124, 3, 134, 1, 12), (55, .aload_n f0, 1, 0, 0, 0), (56, .getfield 31, 3, 7, 10, 1), (59, .getfield 114, 3, 3, 0, 0), (62, .ireturn, 1, 0, 0, 0)]]
/-- ToolUnion$Reader.passWork()Z -/
def cd_136 : List (List EEw) := [
  [(0, .aload_n f0, 1, 0, 0, 0), (1, .getfield 38, 3, 7, 11, 1), (4, .getfield 164, 3, 1, 0, 0), (7, .istore_n f1, 1, 0, 0, 0), (8, .aload_n f0, 1, 0, 0, 0), (9, .getfield 72, 3, 7, 8, 0), (12, .bipush 119, 2, 119, 0, 0), (14, .if_icmp .eq 9, 3, 23, 0, 0)],
  [(17, .aload_n f0, 1, 0, 0, 0), (18, .iconst 1, 1, 1, 0, 0), (19, .invokevirtual 105, 3, 124, 1, 29), (22, .ireturn, 1, 0, 0, 1), (23, .iload_n f1, 1, 0, 0, 0), (24, .bipush 8, 2, 8, 0, 0), (26, .if_icmp .lt 9, 3, 35, 0, 0), (29, .aload_n f0, 1, 0, 0, 0), (30, .iconst 3, 1, 3, 0, 0), (31, .invokevirtual 105, 3, 124, 1, 29)],
  [(34, .ireturn, 1, 0, 0, 1), (35, .aload_n f0, 1, 0, 0, 0), (36, .invokevirtual 108, 3, 125, 0, 28), (39, .aload_n f0, 1, 0, 0, 0), (40, .iconst 0, 1, 0, 0, 0), (41, .iconst 3, 1, 3, 0, 0), (42, .invokevirtual 160, 3, 128, 2, 29), (45, .ifCond .ne 5, 3, 50, 0, 0)],
  [(48, .iconst 0, 1, 0, 0, 0), (49, .ireturn, 1, 0, 0, 1), (50, .aload_n f0, 1, 0, 0, 0), (51, .getfield 38, 3, 7, 11, 1), (54, .getfield 168, 3, 1, 1, 1), (57, .iload_n f1, 1, 0, 0, 0), (58, .aload_n f0, 1, 0, 0, 0), (59, .getfield 111, 3, 7, 9, 0), (62, .iastore, 1, 0, 0, 0), (63, .aload_n f0, 1, 0, 0, 0)],
  [(64, .bipush 120, 2, 120, 0, 0), (66, .invokevirtual 147, 3, 130, 1, 29), (69, .ifCond .eq 12, 3, 81, 0, 0), (72, .aload_n f0, 1, 0, 0, 0), (73, .iconst 1, 1, 1, 0, 0), (74, .iconst 3, 1, 3, 0, 0), (75, .invokevirtual 160, 3, 128, 2, 29), (78, .ifCond .ne 5, 3, 83, 0, 0)],
  [(81, .iconst 0, 1, 0, 0, 0), (82, .ireturn, 1, 0, 0, 1), (83, .aload_n f0, 1, 0, 0, 0), (84, .getfield 38, 3, 7, 11, 1), (87, .getfield 171, 3, 1, 2, 1), (90, .iload_n f1, 1, 0, 0, 0), (91, .aload_n f0, 1, 0, 0, 0), (92, .getfield 111, 3, 7, 9, 0), (95, .iastore, 1, 0, 0, 0)],
  [(96, .aload_n f0, 1, 0, 0, 0), (97, .getfield 38, 3, 7, 11, 1), (100, .getfield 174, 3, 1, 3, 1), (103, .iload_n f1, 1, 0, 0, 0), (104, .iconst 0, 1, 0, 0, 0), (105, .iastore, 1, 0, 0, 0), (106, .iconst 0, 1, 0, 0, 0), (107, .istore_n f2, 1, 0, 0, 0), (108, .iload_n f2, 1, 0, 0, 0), (109, .sipush 400, 3, 400, 0, 0)],
  [(112, .if_icmp .ge 53, 3, 165, 0, 0), (115, .aload_n f0, 1, 0, 0, 0), (116, .getfield 72, 3, 7, 8, 0), (119, .bipush 121, 2, 121, 0, 0), (121, .if_icmp .ne 44, 3, 165, 0, 0), (124, .aload_n f0, 1, 0, 0, 0), (125, .invokevirtual 108, 3, 125, 0, 28)],
  [(128, .aload_n f0, 1, 0, 0, 0), (129, .iconst 0, 1, 0, 0, 0), (130, .iload_n f1, 1, 0, 0, 0), (131, .iconst 1, 1, 1, 0, 0), (132, .isub, 1, 0, 0, 0), (133, .invokevirtual 160, 3, 128, 2, 29), (136, .ifCond .ne 5, 3, 141, 0, 0), (139, .iconst 0, 1, 0, 0, 0), (140, .ireturn, 1, 0, 0, 1), (141, .aload_n f0, 1, 0, 0, 0), (142, .getfield 38, 3, 7, 11, 1)],
  [(145, .getfield 174, 3, 1, 3, 1), (148, .iload_n f1, 1, 0, 0, 0), (149, .dup2, 1, 0, 0, 0), (150, .iaload, 1, 0, 0, 0), (151, .iconst 1, 1, 1, 0, 0), (152, .aload_n f0, 1, 0, 0, 0), (153, .getfield 111, 3, 7, 9, 0), (156, .ishl, 1, 0, 0, 0), (157, .ior, 1, 0, 0, 0), (158, .iastore, 1, 0, 0, 0), (159, .iinc 2 1, 3, 0, 0, 0)],
  [(162, .goto (-54), 3, 108, 0, 0), (165, .aload_n f0, 1, 0, 0, 0), (166, .getfield 38, 3, 7, 11, 1), (169, .dup, 1, 0, 0, 0), (170, .getfield 164, 3, 1, 0, 0), (173, .iconst 1, 1, 1, 0, 0), (174, .iadd, 1, 0, 0, 0), (175, .putfield 164, 3, 1, 0, 0)],
  [(178, .aload_n f0, 1, 0, 0, 0), (179, .bipush 59, 2, 59, 0, 0), (181, .invokevirtual 147, 3, 130, 1, 29), (184, .ireturn, 1, 0, 0, 1)]]
/-- ToolUnion$Reader.readHull()Z -/
def cd_137 : List (List EEw) := [
  [(0, .aload_n f0, 1, 0, 0, 0), (1, .getfield 38, 3, 7, 11, 1), (4, .iconst 0, 1, 0, 0, 0), (5, .putfield 164, 3, 1, 0, 0), (8, .iconst 0, 1, 0, 0, 0), (9, .istore_n f1, 1, 0, 0, 0), (10, .iload_n f1, 1, 0, 0, 0), (11, .bipush 8, 2, 8, 0, 0), (13, .if_icmp .gt 25, 3, 38, 0, 0)],
  [(16, .aload_n f0, 1, 0, 0, 0), (17, .getfield 72, 3, 7, 8, 0), (20, .ifCond .eq 18, 3, 38, 0, 0), (23, .aload_n f0, 1, 0, 0, 0), (24, .invokevirtual 165, 3, 136, 0, 29), (27, .ifCond .ne 5, 3, 32, 0, 0), (30, .iconst 0, 1, 0, 0, 0), (31, .ireturn, 1, 0, 0, 1)],
  [(32, .iinc 1 1, 3, 0, 0, 0), (35, .goto (-25), 3, 10, 0, 0), (38, .iconst 1, 1, 1, 0, 0), (39, .ireturn, 1, 0, 0, 1)]]
/-- ToolUnion$Hull.copy(LToolUnion$Hull;)V -/
def cd_138 : List (List EEw) := [
  [(0, .aload_n f0, 1, 0, 0, 0), (1, .aload_n f1, 1, 0, 0, 0), (2, .getfield 33, 3, 1, 0, 0), (5, .putfield 33, 3, 1, 0, 0), (8, .aload_n f1, 1, 0, 0, 0), (9, .getfield 9, 3, 1, 1, 1), (12, .aload_n f0, 1, 0, 0, 0), (13, .getfield 9, 3, 1, 1, 1)],
  [(16, .invokestatic 37, 3, 35, 2, 0), (19, .aload_n f1, 1, 0, 0, 0), (20, .getfield 15, 3, 1, 2, 1), (23, .aload_n f0, 1, 0, 0, 0), (24, .getfield 15, 3, 1, 2, 1), (27, .invokestatic 37, 3, 35, 2, 0), (30, .aload_n f1, 1, 0, 0, 0), (31, .getfield 18, 3, 1, 3, 1)],
  [(34, .aload_n f0, 1, 0, 0, 0), (35, .getfield 18, 3, 1, 3, 1), (38, .invokestatic 37, 3, 35, 2, 0), (41, .aload_n f0, 1, 0, 0, 0), (42, .aload_n f1, 1, 0, 0, 0), (43, .getfield 41, 3, 1, 4, 0), (46, .putfield 41, 3, 1, 4, 0)],
  [(49, .aload_n f1, 1, 0, 0, 0), (50, .getfield 21, 3, 1, 5, 1), (53, .aload_n f0, 1, 0, 0, 0), (54, .getfield 21, 3, 1, 5, 1), (57, .invokestatic 37, 3, 35, 2, 0), (60, .aload_n f1, 1, 0, 0, 0), (61, .getfield 24, 3, 1, 6, 1)],
  [(64, .aload_n f0, 1, 0, 0, 0), (65, .getfield 24, 3, 1, 6, 1), (68, .invokestatic 37, 3, 35, 2, 0), (71, .return_, 1, 0, 0, 0)]]
/-- ToolUnion$Moves.beginWorks()V -/
def cd_139 : List (List EEw) := [
  [(0, .iconst 0, 1, 0, 0, 0), (1, .istore_n f1, 1, 0, 0, 0), (2, .iload_n f1, 1, 0, 0, 0), (3, .bipush 8, 2, 8, 0, 0), (5, .if_icmp .ge 16, 3, 21, 0, 0), (8, .aload_n f0, 1, 0, 0, 0), (9, .getfield 24, 3, 5, 4, 1), (12, .iload_n f1, 1, 0, 0, 0), (13, .iconst 0, 1, 0, 0, 0), (14, .iastore, 1, 0, 0, 0), (15, .iinc 1 1, 3, 0, 0, 0)],
  [(18, .goto (-16), 3, 2, 0, 0), (21, .return_, 1, 0, 0, 0)]]
/-- ToolUnion.tellHull()I -/
def cd_140 : List (List EEw) := [
  [(0, .aload_n f0, 1, 0, 0, 0), (1, .getfield 33, 3, 11, 7, 1), (4, .invokevirtual 204, 3, 137, 0, 29), (7, .ifCond .ne 5, 3, 12, 0, 0), (10, .iconst (-1), 1, 4294967295, 0, 0), (11, .ireturn, 1, 0, 0, 0), (12, .aload_n f0, 1, 0, 0, 0), (13, .getfield 10, 3, 11, 0, 1)],
  [(16, .getfield 208, 3, 10, 2, 1), (19, .aload_n f0, 1, 0, 0, 0), (20, .getfield 33, 3, 11, 7, 1), (23, .getfield 212, 3, 7, 11, 1), (26, .invokevirtual 213, 3, 138, 1, 4), (29, .aload_n f0, 1, 0, 0, 0), (30, .getfield 10, 3, 11, 0, 1)],
  [(33, .getfield 208, 3, 10, 2, 1), (36, .iconst 0, 1, 0, 0, 0), (37, .putfield 219, 3, 1, 4, 0), (40, .aload_n f0, 1, 0, 0, 0), (41, .getfield 10, 3, 11, 0, 1), (44, .getfield 222, 3, 10, 3, 1), (47, .iconst 0, 1, 0, 0, 0)],
  [(48, .putfield 226, 3, 8, 0, 0), (51, .aload_n f0, 1, 0, 0, 0), (52, .getfield 10, 3, 11, 0, 1), (55, .getfield 65, 3, 10, 1, 1), (58, .invokevirtual 231, 3, 139, 0, 20), (61, .aload_n f0, 1, 0, 0, 0), (62, .invokevirtual 72, 3, 13, 0, 44)],
  [(65, .aload_n f0, 1, 0, 0, 0), (66, .getfield 10, 3, 11, 0, 1), (69, .getfield 208, 3, 10, 2, 1), (72, .getfield 234, 3, 1, 0, 0), (75, .ireturn, 1, 0, 0, 0)]]
/-- ToolUnion$Reader.passDue(I[III)Z -/
def cd_141 : List (List EEw) := [
  [(0, .aload_n f0, 1, 0, 0, 0), (1, .iload_n f1, 1, 0, 0, 0), (2, .invokevirtual 147, 3, 130, 1, 29), (5, .ifCond .eq 13, 3, 18, 0, 0), (8, .aload_n f0, 1, 0, 0, 0), (9, .iload_n f3, 1, 0, 0, 0), (10, .iload 4, 2, 0, 0, 0), (12, .invokevirtual 160, 3, 128, 2, 29), (15, .ifCond .ne 5, 3, 20, 0, 0)],
  [(18, .iconst 0, 1, 0, 0, 0), (19, .ireturn, 1, 0, 0, 1), (20, .aload_n f0, 1, 0, 0, 0), (21, .getfield 45, 3, 7, 12, 1), (24, .getfield 177, 3, 8, 0, 0), (27, .aload_n f2, 1, 0, 0, 0), (28, .arraylength, 1, 0, 0, 0), (29, .if_icmp .ge 16, 3, 45, 0, 0)],
  [(32, .aload_n f2, 1, 0, 0, 0), (33, .aload_n f0, 1, 0, 0, 0), (34, .getfield 45, 3, 7, 12, 1), (37, .getfield 177, 3, 8, 0, 0), (40, .aload_n f0, 1, 0, 0, 0), (41, .getfield 111, 3, 7, 9, 0), (44, .iastore, 1, 0, 0, 0), (45, .iconst 1, 1, 1, 0, 0), (46, .ireturn, 1, 0, 0, 1)]]
/-- ToolUnion$Reader.passDuty(LToolUnion$Yard;)Z -/
def cd_142 : List (List EEw) := [
  [(0, .aload_n f0, 1, 0, 0, 0), (1, .getfield 72, 3, 7, 8, 0), (4, .bipush 122, 2, 122, 0, 0), (6, .if_icmp .eq 9, 3, 15, 0, 0), (9, .aload_n f0, 1, 0, 0, 0), (10, .iconst 1, 1, 1, 0, 0), (11, .invokevirtual 105, 3, 124, 1, 29), (14, .ireturn, 1, 0, 0, 1), (15, .aload_n f0, 1, 0, 0, 0)],
  [(16, .getfield 45, 3, 7, 12, 1), (19, .getfield 177, 3, 8, 0, 0), (22, .bipush 20, 2, 20, 0, 0), (24, .if_icmp .lt 9, 3, 33, 0, 0), (27, .aload_n f0, 1, 0, 0, 0), (28, .iconst 3, 1, 3, 0, 0), (29, .invokevirtual 105, 3, 124, 1, 29)],
  [(32, .ireturn, 1, 0, 0, 1), (33, .aload_n f0, 1, 0, 0, 0), (34, .bipush 122, 2, 122, 0, 0), (36, .aload_n f0, 1, 0, 0, 0), (37, .getfield 45, 3, 7, 12, 1), (40, .getfield 182, 3, 8, 1, 1), (43, .iconst 0, 1, 0, 0, 0), (44, .aload_n f1, 1, 0, 0, 0), (45, .getfield 185, 3, 10, 0, 1)],
  [(48, .getfield 191, 3, 0, 0, 0), (51, .iconst 1, 1, 1, 0, 0), (52, .isub, 1, 0, 0, 0), (53, .invokevirtual 196, 3, 141, 4, 29), (56, .ifCond .eq 98, 3, 154, 0, 0), (59, .aload_n f0, 1, 0, 0, 0), (60, .bipush 123, 2, 123, 0, 0), (62, .aload_n f0, 1, 0, 0, 0), (63, .getfield 45, 3, 7, 12, 1)],
  [(66, .getfield 200, 3, 8, 2, 1), (69, .iconst 0, 1, 0, 0, 0), (70, .aload_n f1, 1, 0, 0, 0), (71, .getfield 185, 3, 10, 0, 1), (74, .getfield 203, 3, 0, 1, 0), (77, .iconst 1, 1, 1, 0, 0), (78, .isub, 1, 0, 0, 0), (79, .invokevirtual 196, 3, 141, 4, 29)],
  [(82, .ifCond .eq 72, 3, 154, 0, 0), (85, .aload_n f0, 1, 0, 0, 0), (86, .bipush 119, 2, 119, 0, 0), (88, .aload_n f0, 1, 0, 0, 0), (89, .getfield 45, 3, 7, 12, 1), (92, .getfield 206, 3, 8, 3, 1), (95, .iconst 0, 1, 0, 0, 0)],
  [(96, .aload_n f1, 1, 0, 0, 0), (97, .getfield 209, 3, 10, 2, 1), (100, .getfield 164, 3, 1, 0, 0), (103, .iconst 1, 1, 1, 0, 0), (104, .isub, 1, 0, 0, 0), (105, .invokevirtual 196, 3, 141, 4, 29), (108, .ifCond .eq 46, 3, 154, 0, 0), (111, .aload_n f0, 1, 0, 0, 0)],
  [(112, .bipush 124, 2, 124, 0, 0), (114, .aload_n f0, 1, 0, 0, 0), (115, .getfield 45, 3, 7, 12, 1), (118, .getfield 210, 3, 8, 4, 1), (121, .iconst 0, 1, 0, 0, 0), (122, .sipush 9999, 3, 9999, 0, 0), (125, .invokevirtual 196, 3, 141, 4, 29)],
  [(128, .ifCond .eq 26, 3, 154, 0, 0), (131, .aload_n f0, 1, 0, 0, 0), (132, .bipush 125, 2, 125, 0, 0), (134, .aload_n f0, 1, 0, 0, 0), (135, .getfield 45, 3, 7, 12, 1), (138, .getfield 213, 3, 8, 5, 1), (141, .iconst 1, 1, 1, 0, 0), (142, .bipush 99, 2, 99, 0, 0)],
  [(144, .invokevirtual 196, 3, 141, 4, 29), (147, .ifCond .eq 7, 3, 154, 0, 0), (150, .iconst 1, 1, 1, 0, 0), (151, .goto 4, 3, 155, 0, 0), (154, .iconst 0, 1, 0, 0, 0), (155, .istore_n f2, 1, 0, 0, 0), (156, .iload_n f2, 1, 0, 0, 0), (157, .ifCond .ne 5, 3, 162, 0, 0)],
  [(160, .iconst 0, 1, 0, 0, 0), (161, .ireturn, 1, 0, 0, 1), (162, .aload_n f0, 1, 0, 0, 0), (163, .getfield 45, 3, 7, 12, 1), (166, .dup, 1, 0, 0, 0), (167, .getfield 177, 3, 8, 0, 0), (170, .iconst 1, 1, 1, 0, 0), (171, .iadd, 1, 0, 0, 0), (172, .putfield 177, 3, 8, 0, 0), (175, .aload_n f0, 1, 0, 0, 0)],
  [(176, .bipush 59, 2, 59, 0, 0), (178, .invokevirtual 147, 3, 130, 1, 29), (181, .ireturn, 1, 0, 0, 1)]]
/-- ToolUnion$Reader.readRota(LToolUnion$Yard;)Z -/
def cd_143 : List (List EEw) := [
  [(0, .aload_n f0, 1, 0, 0, 0), (1, .getfield 45, 3, 7, 12, 1), (4, .iconst 0, 1, 0, 0, 0), (5, .putfield 177, 3, 8, 0, 0), (8, .iconst 0, 1, 0, 0, 0), (9, .istore_n f2, 1, 0, 0, 0), (10, .iload_n f2, 1, 0, 0, 0), (11, .bipush 20, 2, 20, 0, 0), (13, .if_icmp .gt 26, 3, 39, 0, 0)],
  [(16, .aload_n f0, 1, 0, 0, 0), (17, .getfield 72, 3, 7, 8, 0), (20, .ifCond .eq 19, 3, 39, 0, 0), (23, .aload_n f0, 1, 0, 0, 0), (24, .aload_n f1, 1, 0, 0, 0), (25, .invokevirtual 178, 3, 142, 1, 29), (28, .ifCond .ne 5, 3, 33, 0, 0), (31, .iconst 0, 1, 0, 0, 0)],
  [(32, .ireturn, 1, 0, 0, 1), (33, .iinc 2 1, 3, 0, 0, 0), (36, .goto (-26), 3, 10, 0, 0), (39, .iconst 1, 1, 1, 0, 0), (40, .ireturn, 1, 0, 0, 1)]]
/-- ToolUnion$Rota.copy(LToolUnion$Rota;)V -/
def cd_144 : List (List EEw) := [
  [(0, .aload_n f0, 1, 0, 0, 0), (1, .aload_n f1, 1, 0, 0, 0), (2, .getfield 27, 3, 8, 0, 0), (5, .putfield 27, 3, 8, 0, 0), (8, .aload_n f1, 1, 0, 0, 0), (9, .getfield 9, 3, 8, 1, 1), (12, .aload_n f0, 1, 0, 0, 0), (13, .getfield 9, 3, 8, 1, 1)],
  [(16, .invokestatic 31, 3, 35, 2, 0), (19, .aload_n f1, 1, 0, 0, 0), (20, .getfield 15, 3, 8, 2, 1), (23, .aload_n f0, 1, 0, 0, 0), (24, .getfield 15, 3, 8, 2, 1), (27, .invokestatic 31, 3, 35, 2, 0), (30, .aload_n f1, 1, 0, 0, 0), (31, .getfield 18, 3, 8, 3, 1)],
  [(34, .aload_n f0, 1, 0, 0, 0), (35, .getfield 18, 3, 8, 3, 1), (38, .invokestatic 31, 3, 35, 2, 0), (41, .aload_n f1, 1, 0, 0, 0), (42, .getfield 21, 3, 8, 4, 1), (45, .aload_n f0, 1, 0, 0, 0), (46, .getfield 21, 3, 8, 4, 1)],
  [(49, .invokestatic 31, 3, 35, 2, 0), (52, .aload_n f1, 1, 0, 0, 0), (53, .getfield 24, 3, 8, 5, 1), (56, .aload_n f0, 1, 0, 0, 0), (57, .getfield 24, 3, 8, 5, 1), (60, .invokestatic 31, 3, 35, 2, 0), (63, .return_, 1, 0, 0, 0)]]
/-- ToolUnion.tellRota()I -/
def cd_145 : List (List EEw) := [
  [(0, .aload_n f0, 1, 0, 0, 0), (1, .getfield 33, 3, 11, 7, 1), (4, .aload_n f0, 1, 0, 0, 0), (5, .getfield 10, 3, 11, 0, 1), (8, .invokevirtual 235, 3, 143, 1, 29), (11, .ifCond .ne 5, 3, 16, 0, 0), (14, .iconst (-1), 1, 4294967295, 0, 0), (15, .ireturn, 1, 0, 0, 0)],
  [(16, .aload_n f0, 1, 0, 0, 0), (17, .getfield 10, 3, 11, 0, 1), (20, .getfield 222, 3, 10, 3, 1), (23, .aload_n f0, 1, 0, 0, 0), (24, .getfield 33, 3, 11, 7, 1), (27, .getfield 239, 3, 7, 12, 1), (30, .invokevirtual 240, 3, 144, 1, 32)],
  [(33, .aload_n f0, 1, 0, 0, 0), (34, .invokevirtual 72, 3, 13, 0, 44), (37, .aload_n f0, 1, 0, 0, 0), (38, .getfield 10, 3, 11, 0, 1), (41, .getfield 222, 3, 10, 3, 1), (44, .getfield 226, 3, 8, 0, 0), (47, .ireturn, 1, 0, 0, 0)]]
/-- ToolUnion.text(I)I -/
def cd_146 : List (List EEw) := [
  [(0, .aload_n f0, 1, 0, 0, 0), (1, .getfield 33, 3, 11, 7, 1), (4, .invokevirtual 185, 3, 123, 0, 28), (7, .iconst (-1), 1, 4294967295, 0, 0), (8, .istore_n f2, 1, 0, 0, 0), (9, .iload_n f1, 1, 0, 0, 0), (10, .tableswitch 84 0 3 #[30, 49, 68, 76], 30, 0, 94, 0)],
  [],
  [(40, .aload_n f0, 1, 0, 0, 0), (41, .getfield 33, 3, 11, 7, 1), (44, .aload_n f0, 1, 0, 0, 0), (45, .getfield 10, 3, 11, 0, 1)],
  [(48, .getfield 186, 3, 10, 4, 1), (51, .iconst 0, 1, 0, 0, 0), (52, .invokevirtual 190, 3, 135, 2, 29), (55, .istore_n f2, 1, 0, 0, 0), (56, .goto 38, 3, 94, 0, 0), (59, .aload_n f0, 1, 0, 0, 0), (60, .getfield 33, 3, 11, 7, 1), (63, .aload_n f0, 1, 0, 0, 0)],
  [(64, .getfield 10, 3, 11, 0, 1), (67, .getfield 194, 3, 10, 5, 1), (70, .iconst 1, 1, 1, 0, 0), (71, .invokevirtual 190, 3, 135, 2, 29), (74, .istore_n f2, 1, 0, 0, 0), (75, .goto 19, 3, 94, 0, 0), (78, .aload_n f0, 1, 0, 0, 0), (79, .invokevirtual 197, 3, 140, 0, 45)],
  [(82, .istore_n f2, 1, 0, 0, 0), (83, .goto 11, 3, 94, 0, 0), (86, .aload_n f0, 1, 0, 0, 0), (87, .invokevirtual 201, 3, 145, 0, 45), (90, .istore_n f2, 1, 0, 0, 0), (91, .goto 3, 3, 94, 0, 0), (94, .aload_n f0, 1, 0, 0, 0), (95, .getfield 33, 3, 11, 7, 1)],
  [(98, .iconst 0, 1, 0, 0, 0), (99, .putfield 179, 3, 7, 1, 0), (102, .iload_n f2, 1, 0, 0, 0), (103, .ireturn, 1, 0, 0, 0)]]
/-- ToolUnionModel.see(I)I -/
def cd_147 : List (List EEw) := [
  [(0, .iload_n f1, 1, 0, 0, 0), (1, .aload_n f0, 1, 0, 0, 0), (2, .getfield 104, 3, 12, 16, 0), (5, .if_icmp .ge 12, 3, 17, 0, 0), (8, .aload_n f0, 1, 0, 0, 0), (9, .getfield 31, 3, 12, 9, 1), (12, .iload_n f1, 1, 0, 0, 0), (13, .iaload, 1, 0, 0, 0), (14, .goto 4, 3, 18, 0, 0)],
  [(17, .iconst (-1), 1, 4294967295, 0, 0), (18, .ireturn, 1, 0, 0, 0)]]
/-- ToolUnionModel.isLetter(I)Z -/
def cd_148 : List (List EEw) := [
  [(0, .iload_n f0, 1, 0, 0, 0), (1, .bipush 97, 2, 97, 0, 0), (3, .bipush 122, 2, 122, 0, 0), (5, .invokestatic 77, 3, 20, 3, 1), (8, .ifCond .ne 14, 3, 22, 0, 0), (11, .iload_n f0, 1, 0, 0, 0), (12, .bipush 65, 2, 65, 0, 0), (14, .bipush 90, 2, 90, 0, 0)],
  [(16, .invokestatic 77, 3, 20, 3, 1), (19, .ifCond .eq 7, 3, 26, 0, 0), (22, .iconst 1, 1, 1, 0, 0), (23, .goto 4, 3, 27, 0, 0), (26, .iconst 0, 1, 0, 0, 0), (27, .ireturn, 1, 0, 0, 1)]]
/-- ToolUnionModel.is(Ljava/lang/String;)Z -/
def cd_149 : List (List EEw) := [
  [(0, .aload_n f0, 1, 0, 0, 0), (1, .getfield 107, 3, 12, 17, 0), (4, .aload_n f0, 1, 0, 0, 0), (5, .getfield 110, 3, 12, 19, 0), (8, .isub, 1, 0, 0, 0), (9, .aload_n f1, 1, 0, 0, 0), (10, .invokevirtual 113, 3, 108, 0, 801), (13, .if_icmp .ne 7, 3, 20, 0, 0)],
  [(16, .iconst 1, 1, 1, 0, 0), (17, .goto 4, 3, 21, 0, 0), (20, .iconst 0, 1, 0, 0, 0), (21, .istore_n f2, 1, 0, 0, 0), (22, .iconst 0, 1, 0, 0, 0), (23, .istore_n f3, 1, 0, 0, 0), (24, .iload_n f3, 1, 0, 0, 0), (25, .aload_n f1, 1, 0, 0, 0), (26, .invokevirtual 113, 3, 108, 0, 801), (29, .if_icmp .ge 38, 3, 67, 0, 0)],
  [(32, .iload_n f2, 1, 0, 0, 0), (33, .ifCond .eq 34, 3, 67, 0, 0), (36, .aload_n f0, 1, 0, 0, 0), (37, .getfield 31, 3, 12, 9, 1), (40, .aload_n f0, 1, 0, 0, 0), (41, .getfield 110, 3, 12, 19, 0), (44, .iload_n f3, 1, 0, 0, 0), (45, .iadd, 1, 0, 0, 0), (46, .iaload, 1, 0, 0, 0), (47, .aload_n f1, 1, 0, 0, 0)],
  [(48, .iload_n f3, 1, 0, 0, 0), (49, .invokevirtual 119, 3, 113, 1, 801), (52, .if_icmp .ne 7, 3, 59, 0, 0), (55, .iconst 1, 1, 1, 0, 0), (56, .goto 4, 3, 60, 0, 0), (59, .iconst 0, 1, 0, 0, 0), (60, .istore_n f2, 1, 0, 0, 0), (61, .iinc 3 1, 3, 0, 0, 0)],
  [(64, .goto (-40), 3, 24, 0, 0), (67, .iload_n f2, 1, 0, 0, 0), (68, .ireturn, 1, 0, 0, 1)]]
/-- ToolUnionModel.asked()I -/
def cd_150 : List (List EEw) := [
  [(0, .aload_n f0, 1, 0, 0, 0), (1, .ldc 123, 2, 11, 0, 1), (3, .invokevirtual 125, 3, 149, 1, 49), (6, .ifCond .eq 6, 3, 12, 0, 0), (9, .bipush 41, 2, 41, 0, 0), (11, .ireturn, 1, 0, 0, 0), (12, .aload_n f0, 1, 0, 0, 0), (13, .ldc 129, 2, 12, 0, 1), (15, .invokevirtual 125, 3, 149, 1, 49)],
  [(18, .ifCond .eq 6, 3, 24, 0, 0), (21, .bipush 42, 2, 42, 0, 0), (23, .ireturn, 1, 0, 0, 0), (24, .aload_n f0, 1, 0, 0, 0), (25, .ldc 131, 2, 13, 0, 1), (27, .invokevirtual 125, 3, 149, 1, 49), (30, .ifCond .eq 6, 3, 36, 0, 0)],
  [(33, .bipush 43, 2, 43, 0, 0), (35, .ireturn, 1, 0, 0, 0), (36, .aload_n f0, 1, 0, 0, 0), (37, .ldc 133, 2, 14, 0, 1), (39, .invokevirtual 125, 3, 149, 1, 49), (42, .ifCond .eq 6, 3, 48, 0, 0), (45, .bipush 44, 2, 44, 0, 0), (47, .ireturn, 1, 0, 0, 0)],
  [(48, .aload_n f0, 1, 0, 0, 0), (49, .ldc 135, 2, 15, 0, 1), (51, .invokevirtual 125, 3, 149, 1, 49), (54, .ifCond .eq 6, 3, 60, 0, 0), (57, .bipush 45, 2, 45, 0, 0), (59, .ireturn, 1, 0, 0, 0), (60, .aload_n f0, 1, 0, 0, 0), (61, .ldc 137, 2, 16, 0, 1), (63, .invokevirtual 125, 3, 149, 1, 49)],
  [(66, .ifCond .eq 6, 3, 72, 0, 0), (69, .bipush 46, 2, 46, 0, 0), (71, .ireturn, 1, 0, 0, 0), (72, .aload_n f0, 1, 0, 0, 0), (73, .ldc 139, 2, 17, 0, 1), (75, .invokevirtual 125, 3, 149, 1, 49), (78, .ifCond .eq 6, 3, 84, 0, 0)],
  [(81, .bipush 47, 2, 47, 0, 0), (83, .ireturn, 1, 0, 0, 0), (84, .aload_n f0, 1, 0, 0, 0), (85, .ldc 141, 2, 18, 0, 1), (87, .invokevirtual 125, 3, 149, 1, 49), (90, .ifCond .eq 6, 3, 96, 0, 0), (93, .bipush 48, 2, 48, 0, 0), (95, .ireturn, 1, 0, 0, 0)],
  [(96, .aload_n f0, 1, 0, 0, 0), (97, .ldc 143, 2, 19, 0, 1), (99, .invokevirtual 125, 3, 149, 1, 49), (102, .ifCond .eq 6, 3, 108, 0, 0), (105, .bipush 49, 2, 49, 0, 0), (107, .ireturn, 1, 0, 0, 0), (108, .aload_n f0, 1, 0, 0, 0), (109, .ldc 145, 2, 20, 0, 1), (111, .invokevirtual 125, 3, 149, 1, 49)],
  [(114, .ifCond .eq 8, 3, 122, 0, 0), (117, .bipush 50, 2, 50, 0, 0), (119, .goto 4, 3, 123, 0, 0), (122, .iconst 1, 1, 1, 0, 0), (123, .ireturn, 1, 0, 0, 0)]]
/-- ToolUnionModel.lawWord()I -/
def cd_151 : List (List EEw) := [
  [(0, .aload_n f0, 1, 0, 0, 0), (1, .ldc 147, 2, 2, 0, 1), (3, .invokevirtual 125, 3, 149, 1, 49), (6, .ifCond .eq 5, 3, 11, 0, 0), (9, .iconst 3, 1, 3, 0, 0), (10, .ireturn, 1, 0, 0, 0), (11, .aload_n f0, 1, 0, 0, 0), (12, .ldc 149, 2, 3, 0, 1), (14, .invokevirtual 125, 3, 149, 1, 49)],
  [(17, .ifCond .eq 5, 3, 22, 0, 0), (20, .iconst 4, 1, 4, 0, 0), (21, .ireturn, 1, 0, 0, 0), (22, .aload_n f0, 1, 0, 0, 0), (23, .ldc 151, 2, 4, 0, 1), (25, .invokevirtual 125, 3, 149, 1, 49), (28, .ifCond .eq 5, 3, 33, 0, 0), (31, .iconst 5, 1, 5, 0, 0)],
  [(32, .ireturn, 1, 0, 0, 0), (33, .aload_n f0, 1, 0, 0, 0), (34, .ldc 153, 2, 5, 0, 1), (36, .invokevirtual 125, 3, 149, 1, 49), (39, .ifCond .eq 6, 3, 45, 0, 0), (42, .bipush 6, 2, 6, 0, 0), (44, .ireturn, 1, 0, 0, 0), (45, .aload_n f0, 1, 0, 0, 0), (46, .getfield 155, 3, 12, 12, 0)],
  [(49, .ifCond .ne 15, 3, 64, 0, 0), (52, .aload_n f0, 1, 0, 0, 0), (53, .ldc 158, 2, 6, 0, 1), (55, .invokevirtual 125, 3, 149, 1, 49), (58, .ifCond .eq 6, 3, 64, 0, 0), (61, .bipush 20, 2, 20, 0, 0), (63, .ireturn, 1, 0, 0, 0)],
  [(64, .aload_n f0, 1, 0, 0, 0), (65, .getfield 155, 3, 12, 12, 0), (68, .ifCond .ne 15, 3, 83, 0, 0), (71, .aload_n f0, 1, 0, 0, 0), (72, .ldc 160, 2, 7, 0, 1), (74, .invokevirtual 125, 3, 149, 1, 49), (77, .ifCond .eq 6, 3, 83, 0, 0)],
  [(80, .bipush 21, 2, 21, 0, 0), (82, .ireturn, 1, 0, 0, 0), (83, .aload_n f0, 1, 0, 0, 0), (84, .getfield 155, 3, 12, 12, 0), (87, .iconst 1, 1, 1, 0, 0), (88, .if_icmp .ne 15, 3, 103, 0, 0), (91, .aload_n f0, 1, 0, 0, 0), (92, .ldc 162, 2, 8, 0, 1), (94, .invokevirtual 125, 3, 149, 1, 49)],
  [(97, .ifCond .eq 6, 3, 103, 0, 0), (100, .bipush 22, 2, 22, 0, 0), (102, .ireturn, 1, 0, 0, 0), (103, .aload_n f0, 1, 0, 0, 0), (104, .getfield 155, 3, 12, 12, 0), (107, .iconst 1, 1, 1, 0, 0), (108, .if_icmp .ne 15, 3, 123, 0, 0), (111, .aload_n f0, 1, 0, 0, 0)],
  [(112, .ldc 164, 2, 9, 0, 1), (114, .invokevirtual 125, 3, 149, 1, 49), (117, .ifCond .eq 6, 3, 123, 0, 0), (120, .bipush 23, 2, 23, 0, 0), (122, .ireturn, 1, 0, 0, 0), (123, .aload_n f0, 1, 0, 0, 0), (124, .getfield 155, 3, 12, 12, 0), (127, .iconst 1, 1, 1, 0, 0)],
  [(128, .if_icmp .ne 17, 3, 145, 0, 0), (131, .aload_n f0, 1, 0, 0, 0), (132, .ldc 166, 2, 10, 0, 1), (134, .invokevirtual 125, 3, 149, 1, 49), (137, .ifCond .eq 8, 3, 145, 0, 0), (140, .bipush 24, 2, 24, 0, 0), (142, .goto 7, 3, 149, 0, 0)],
  [(145, .aload_n f0, 1, 0, 0, 0), (146, .invokevirtual 168, 3, 150, 0, 49), (149, .ireturn, 1, 0, 0, 0)]]
/-- ToolUnionModel.hullWord()I -/
def cd_152 : List (List EEw) := [
  [(0, .aload_n f0, 1, 0, 0, 0), (1, .ldc 171, 2, 21, 0, 1), (3, .invokevirtual 125, 3, 149, 1, 49), (6, .ifCond .eq 6, 3, 12, 0, 0), (9, .bipush 7, 2, 7, 0, 0), (11, .ireturn, 1, 0, 0, 0), (12, .aload_n f0, 1, 0, 0, 0), (13, .ldc 173, 2, 22, 0, 1), (15, .invokevirtual 125, 3, 149, 1, 49)],
  [(18, .ifCond .eq 6, 3, 24, 0, 0), (21, .bipush 8, 2, 8, 0, 0), (23, .ireturn, 1, 0, 0, 0), (24, .aload_n f0, 1, 0, 0, 0), (25, .ldc 175, 2, 23, 0, 1), (27, .invokevirtual 125, 3, 149, 1, 49), (30, .ifCond .eq 8, 3, 38, 0, 0)],
  [(33, .bipush 9, 2, 9, 0, 0), (35, .goto 4, 3, 39, 0, 0), (38, .iconst 1, 1, 1, 0, 0), (39, .ireturn, 1, 0, 0, 0)]]
/-- ToolUnionModel.rotaWord()I -/
def cd_153 : List (List EEw) := [
  [(0, .aload_n f0, 1, 0, 0, 0), (1, .ldc 177, 2, 24, 0, 1), (3, .invokevirtual 125, 3, 149, 1, 49), (6, .ifCond .eq 6, 3, 12, 0, 0), (9, .bipush 10, 2, 10, 0, 0), (11, .ireturn, 1, 0, 0, 0), (12, .aload_n f0, 1, 0, 0, 0), (13, .ldc 179, 2, 25, 0, 1), (15, .invokevirtual 125, 3, 149, 1, 49)],
  [(18, .ifCond .eq 6, 3, 24, 0, 0), (21, .bipush 11, 2, 11, 0, 0), (23, .ireturn, 1, 0, 0, 0), (24, .aload_n f0, 1, 0, 0, 0), (25, .ldc 171, 2, 21, 0, 1), (27, .invokevirtual 125, 3, 149, 1, 49), (30, .ifCond .eq 6, 3, 36, 0, 0)],
  [(33, .bipush 7, 2, 7, 0, 0), (35, .ireturn, 1, 0, 0, 0), (36, .aload_n f0, 1, 0, 0, 0), (37, .ldc 181, 2, 26, 0, 1), (39, .invokevirtual 125, 3, 149, 1, 49), (42, .ifCond .eq 6, 3, 48, 0, 0), (45, .bipush 12, 2, 12, 0, 0), (47, .ireturn, 1, 0, 0, 0)],
  [(48, .aload_n f0, 1, 0, 0, 0), (49, .ldc 183, 2, 27, 0, 1), (51, .invokevirtual 125, 3, 149, 1, 49), (54, .ifCond .eq 8, 3, 62, 0, 0), (57, .bipush 13, 2, 13, 0, 0), (59, .goto 4, 3, 63, 0, 0), (62, .iconst 1, 1, 1, 0, 0), (63, .ireturn, 1, 0, 0, 0)]]
/-- ToolUnionModel.word()I -/
def cd_154 : List (List EEw) := [
  [(0, .aload_n f0, 1, 0, 0, 0), (1, .getfield 155, 3, 12, 12, 0), (4, .iconst 2, 1, 2, 0, 0), (5, .if_icmp .ge 10, 3, 15, 0, 0), (8, .aload_n f0, 1, 0, 0, 0), (9, .invokevirtual 185, 3, 151, 0, 49), (12, .goto 22, 3, 34, 0, 0), (15, .aload_n f0, 1, 0, 0, 0)],
  [(16, .getfield 155, 3, 12, 12, 0), (19, .iconst 2, 1, 2, 0, 0), (20, .if_icmp .ne 10, 3, 30, 0, 0), (23, .aload_n f0, 1, 0, 0, 0), (24, .invokevirtual 188, 3, 152, 0, 49), (27, .goto 7, 3, 34, 0, 0), (30, .aload_n f0, 1, 0, 0, 0), (31, .invokevirtual 191, 3, 153, 0, 49)],
  [(34, .ireturn, 1, 0, 0, 0)]]
/-- ToolUnionModel.isDigit(I)Z -/
def cd_155 : List (List EEw) := [
  [(0, .iload_n f0, 1, 0, 0, 0), (1, .bipush 48, 2, 48, 0, 0), (3, .bipush 57, 2, 57, 0, 0), (5, .invokestatic 77, 3, 20, 3, 1), (8, .ireturn, 1, 0, 0, 1)]]
/-- ToolUnionModel.next0()V -/
def cd_156_0 : List (List EEw) := [
  [(0, .aload_n f0, 1, 0, 0, 0), (1, .aload_n f0, 1, 0, 0, 0), (2, .getfield 107, 3, 12, 17, 0), (5, .invokevirtual 194, 3, 147, 1, 49), (8, .bipush 32, 2, 32, 0, 0), (10, .if_icmp .eq 16, 3, 26, 0, 0), (13, .aload_n f0, 1, 0, 0, 0), (14, .aload_n f0, 1, 0, 0, 0), (15, .getfield 107, 3, 12, 17, 0)],
  [(18, .invokevirtual 194, 3, 147, 1, 49), (21, .bipush 10, 2, 10, 0, 0), (23, .if_icmp .ne 16, 3, 39, 0, 0), (26, .aload_n f0, 1, 0, 0, 0), (27, .dup, 1, 0, 0, 0), (28, .getfield 107, 3, 12, 17, 0), (31, .iconst 1, 1, 1, 0, 0)],
  [(32, .iadd, 1, 0, 0, 0), (33, .putfield 107, 3, 12, 17, 0), (36, .goto (-36), 3, 0, 0, 0), (39, .aload_n f0, 1, 0, 0, 0), (40, .aload_n f0, 1, 0, 0, 0), (41, .getfield 107, 3, 12, 17, 0), (44, .putfield 110, 3, 12, 19, 0), (47, .aload_n f0, 1, 0, 0, 0)],
  [(48, .aload_n f0, 1, 0, 0, 0), (49, .getfield 107, 3, 12, 17, 0), (52, .invokevirtual 194, 3, 147, 1, 49), (55, .istore_n f1, 1, 0, 0, 0), (56, .iload_n f1, 1, 0, 0, 0), (57, .iconst (-1), 1, 4294967295, 0, 0), (58, .if_icmp .ne 11, 3, 69, 0, 0), (61, .aload_n f0, 1, 0, 0, 0), (62, .iconst 0, 1, 0, 0, 0), (63, .putfield 197, 3, 12, 18, 0)],
  [(66, .goto 240, 3, 306, 0, 0), (69, .iload_n f1, 1, 0, 0, 0), (70, .invokestatic 200, 3, 148, 1, 1), (73, .ifCond .eq 41, 3, 114, 0, 0), (76, .aload_n f0, 1, 0, 0, 0), (77, .aload_n f0, 1, 0, 0, 0), (78, .getfield 107, 3, 12, 17, 0)],
  [(81, .invokevirtual 194, 3, 147, 1, 49), (84, .invokestatic 200, 3, 148, 1, 1), (87, .ifCond .eq 16, 3, 103, 0, 0), (90, .aload_n f0, 1, 0, 0, 0), (91, .dup, 1, 0, 0, 0), (92, .getfield 107, 3, 12, 17, 0), (95, .iconst 1, 1, 1, 0, 0)],
  [(96, .iadd, 1, 0, 0, 0), (97, .putfield 107, 3, 12, 17, 0), (100, .goto (-24), 3, 76, 0, 0), (103, .aload_n f0, 1, 0, 0, 0), (104, .aload_n f0, 1, 0, 0, 0), (105, .invokevirtual 203, 3, 154, 0, 49), (108, .putfield 197, 3, 12, 18, 0), (111, .goto 195, 3, 306, 0, 0)],
  [(114, .iload_n f1, 1, 0, 0, 0), (115, .invokestatic 206, 3, 155, 1, 1), (118, .ifCond .eq 96, 3, 214, 0, 0), (121, .aload_n f0, 1, 0, 0, 0), (122, .iconst 0, 1, 0, 0, 0), (123, .putfield 209, 3, 12, 20, 0), (126, .aload_n f0, 1, 0, 0, 0), (127, .aload_n f0, 1, 0, 0, 0)],
  [(128, .getfield 107, 3, 12, 17, 0), (131, .invokevirtual 194, 3, 147, 1, 49), (134, .invokestatic 206, 3, 155, 1, 1), (137, .ifCond .eq 52, 3, 189, 0, 0), (140, .aload_n f0, 1, 0, 0, 0), (141, .getfield 107, 3, 12, 17, 0)],
  [(144, .aload_n f0, 1, 0, 0, 0), (145, .getfield 110, 3, 12, 19, 0), (148, .iconst 4, 1, 4, 0, 0), (149, .iadd, 1, 0, 0, 0), (150, .if_icmp .ge 26, 3, 176, 0, 0), (153, .aload_n f0, 1, 0, 0, 0), (154, .bipush 10, 2, 10, 0, 0), (156, .aload_n f0, 1, 0, 0, 0), (157, .getfield 209, 3, 12, 20, 0)],
  [(160, .imul, 1, 0, 0, 0), (161, .aload_n f0, 1, 0, 0, 0), (162, .aload_n f0, 1, 0, 0, 0), (163, .getfield 107, 3, 12, 17, 0), (166, .invokevirtual 194, 3, 147, 1, 49), (169, .iadd, 1, 0, 0, 0), (170, .bipush 48, 2, 48, 0, 0), (172, .isub, 1, 0, 0, 0), (173, .putfield 209, 3, 12, 20, 0)],
  [(176, .aload_n f0, 1, 0, 0, 0), (177, .dup, 1, 0, 0, 0), (178, .getfield 107, 3, 12, 17, 0), (181, .iconst 1, 1, 1, 0, 0), (182, .iadd, 1, 0, 0, 0), (183, .putfield 107, 3, 12, 17, 0), (186, .goto (-60), 3, 126, 0, 0), (189, .aload_n f0, 1, 0, 0, 0), (190, .aload_n f0, 1, 0, 0, 0), (191, .getfield 107, 3, 12, 17, 0)]]
def cd_156_1 : List (List EEw) := [
  [(194, .aload_n f0, 1, 0, 0, 0), (195, .getfield 110, 3, 12, 19, 0), (198, .isub, 1, 0, 0, 0), (199, .iconst 5, 1, 5, 0, 0), (200, .if_icmp .ge 7, 3, 207, 0, 0), (203, .iconst 2, 1, 2, 0, 0), (204, .goto 4, 3, 208, 0, 0), (207, .iconst 1, 1, 1, 0, 0)],
  [(208, .putfield 197, 3, 12, 18, 0), (211, .goto 95, 3, 306, 0, 0), (214, .aload_n f0, 1, 0, 0, 0), (215, .dup, 1, 0, 0, 0), (216, .getfield 107, 3, 12, 17, 0), (219, .iconst 1, 1, 1, 0, 0), (220, .iadd, 1, 0, 0, 0), (221, .putfield 107, 3, 12, 17, 0)],
  [(224, .iload_n f1, 1, 0, 0, 0), (225, .bipush 59, 2, 59, 0, 0), (227, .if_icmp .eq 57, 3, 284, 0, 0), (230, .iload_n f1, 1, 0, 0, 0), (231, .bipush 43, 2, 43, 0, 0), (233, .if_icmp .eq 51, 3, 284, 0, 0), (236, .iload_n f1, 1, 0, 0, 0), (237, .bipush 45, 2, 45, 0, 0), (239, .if_icmp .eq 45, 3, 284, 0, 0)],
  [(242, .iload_n f1, 1, 0, 0, 0), (243, .bipush 42, 2, 42, 0, 0), (245, .if_icmp .eq 39, 3, 284, 0, 0), (248, .iload_n f1, 1, 0, 0, 0), (249, .bipush 47, 2, 47, 0, 0), (251, .if_icmp .eq 33, 3, 284, 0, 0), (254, .iload_n f1, 1, 0, 0, 0), (255, .bipush 40, 2, 40, 0, 0)],
  [(257, .if_icmp .eq 27, 3, 284, 0, 0), (260, .iload_n f1, 1, 0, 0, 0), (261, .bipush 41, 2, 41, 0, 0), (263, .if_icmp .eq 21, 3, 284, 0, 0), (266, .iload_n f1, 1, 0, 0, 0), (267, .bipush 60, 2, 60, 0, 0), (269, .if_icmp .eq 15, 3, 284, 0, 0)],
  [(272, .iload_n f1, 1, 0, 0, 0), (273, .bipush 61, 2, 61, 0, 0), (275, .if_icmp .eq 9, 3, 284, 0, 0), (278, .iload_n f1, 1, 0, 0, 0), (279, .bipush 62, 2, 62, 0, 0), (281, .if_icmp .ne 7, 3, 288, 0, 0), (284, .iconst 1, 1, 1, 0, 0), (285, .goto 4, 3, 289, 0, 0)],
  [(288, .iconst 0, 1, 0, 0, 0), (289, .istore_n f2, 1, 0, 0, 0), (290, .aload_n f0, 1, 0, 0, 0), (291, .iload_n f2, 1, 0, 0, 0), (292, .ifCond .eq 10, 3, 302, 0, 0), (295, .bipush 100, 2, 100, 0, 0), (297, .iload_n f1, 1, 0, 0, 0), (298, .iadd, 1, 0, 0, 0), (299, .goto 4, 3, 303, 0, 0), (302, .iconst 1, 1, 1, 0, 0), (303, .putfield 197, 3, 12, 18, 0)],
  [(306, .return_, 1, 0, 0, 0)]]
def cd_156 : List (List EEw) := cd_156_0 ++ (cd_156_1)
/-- ToolUnionModel.bad(I)Z -/
def cd_157 : List (List EEw) := [
  [(0, .aload_n f0, 1, 0, 0, 0), (1, .iload_n f1, 1, 0, 0, 0), (2, .putfield 212, 3, 12, 21, 0), (5, .aload_n f0, 1, 0, 0, 0), (6, .aload_n f0, 1, 0, 0, 0), (7, .getfield 110, 3, 12, 19, 0), (10, .putfield 215, 3, 12, 22, 0), (13, .iconst 0, 1, 0, 0, 0), (14, .ireturn, 1, 0, 0, 1)]]
/-- ToolUnionModel.lay(II)V -/
def cd_158 : List (List EEw) := [
  [(0, .aload_n f0, 1, 0, 0, 0), (1, .getfield 25, 3, 12, 7, 1), (4, .iconst 2, 1, 2, 0, 0), (5, .aload_n f0, 1, 0, 0, 0), (6, .getfield 224, 3, 12, 14, 0), (9, .imul, 1, 0, 0, 0), (10, .iload_n f1, 1, 0, 0, 0), (11, .iastore, 1, 0, 0, 0), (12, .aload_n f0, 1, 0, 0, 0), (13, .getfield 25, 3, 12, 7, 1)],
  [(16, .iconst 2, 1, 2, 0, 0), (17, .aload_n f0, 1, 0, 0, 0), (18, .getfield 224, 3, 12, 14, 0), (21, .imul, 1, 0, 0, 0), (22, .iconst 1, 1, 1, 0, 0), (23, .iadd, 1, 0, 0, 0), (24, .iload_n f2, 1, 0, 0, 0), (25, .iastore, 1, 0, 0, 0), (26, .aload_n f0, 1, 0, 0, 0), (27, .dup, 1, 0, 0, 0), (28, .getfield 224, 3, 12, 14, 0), (31, .iconst 1, 1, 1, 0, 0)],
  [(32, .iadd, 1, 0, 0, 0), (33, .putfield 224, 3, 12, 14, 0), (36, .return_, 1, 0, 0, 0)]]
/-- ToolUnionModel.unit()Z -/
def cd_159 : List (List EEw) := [
  [(0, .aload_n f0, 1, 0, 0, 0), (1, .getfield 197, 3, 12, 18, 0), (4, .bipush 41, 2, 41, 0, 0), (6, .bipush 50, 2, 50, 0, 0), (8, .invokestatic 77, 3, 20, 3, 1), (11, .istore_n f1, 1, 0, 0, 0), (12, .aload_n f0, 1, 0, 0, 0), (13, .getfield 197, 3, 12, 18, 0)],
  [(16, .iconst 2, 1, 2, 0, 0), (17, .if_icmp .eq 13, 3, 30, 0, 0), (20, .iload_n f1, 1, 0, 0, 0), (21, .ifCond .ne 9, 3, 30, 0, 0), (24, .aload_n f0, 1, 0, 0, 0), (25, .iconst 1, 1, 1, 0, 0), (26, .invokevirtual 218, 3, 157, 1, 49), (29, .ireturn, 1, 0, 0, 1), (30, .aload_n f0, 1, 0, 0, 0), (31, .iload_n f1, 1, 0, 0, 0)],
  [(32, .ifCond .eq 13, 3, 45, 0, 0), (35, .aload_n f0, 1, 0, 0, 0), (36, .getfield 197, 3, 12, 18, 0), (39, .bipush 40, 2, 40, 0, 0), (41, .isub, 1, 0, 0, 0), (42, .goto 4, 3, 46, 0, 0), (45, .iconst 0, 1, 0, 0, 0), (46, .aload_n f0, 1, 0, 0, 0), (47, .getfield 209, 3, 12, 20, 0)],
  [(50, .invokevirtual 234, 3, 158, 2, 48), (53, .aload_n f0, 1, 0, 0, 0), (54, .invokevirtual 221, 3, 156, 0, 48), (57, .iconst 1, 1, 1, 0, 0), (58, .ireturn, 1, 0, 0, 1)]]
/-- ToolUnionModel.product()Z -/
def cd_160 : List (List EEw) := [
  [(0, .aload_n f0, 1, 0, 0, 0), (1, .invokevirtual 238, 3, 159, 0, 49), (4, .ifCond .ne 5, 3, 9, 0, 0), (7, .iconst 0, 1, 0, 0, 0), (8, .ireturn, 1, 0, 0, 1), (9, .aload_n f0, 1, 0, 0, 0), (10, .getfield 197, 3, 12, 18, 0), (13, .sipush 142, 3, 142, 0, 0)],
  [(16, .if_icmp .eq 13, 3, 29, 0, 0), (19, .aload_n f0, 1, 0, 0, 0), (20, .getfield 197, 3, 12, 18, 0), (23, .sipush 147, 3, 147, 0, 0), (26, .if_icmp .ne 89, 3, 115, 0, 0), (29, .aload_n f0, 1, 0, 0, 0), (30, .getfield 197, 3, 12, 18, 0)],
  [(33, .sipush 147, 3, 147, 0, 0), (36, .if_icmp .ne 7, 3, 43, 0, 0), (39, .iconst 1, 1, 1, 0, 0), (40, .goto 4, 3, 44, 0, 0), (43, .iconst 0, 1, 0, 0, 0), (44, .istore_n f1, 1, 0, 0, 0), (45, .aload_n f0, 1, 0, 0, 0), (46, .invokevirtual 221, 3, 156, 0, 48)],
  [(49, .iload_n f1, 1, 0, 0, 0), (50, .ifCond .eq 46, 3, 96, 0, 0), (53, .aload_n f0, 1, 0, 0, 0), (54, .getfield 209, 3, 12, 20, 0), (57, .istore_n f2, 1, 0, 0, 0), (58, .aload_n f0, 1, 0, 0, 0), (59, .getfield 197, 3, 12, 18, 0), (62, .iconst 2, 1, 2, 0, 0), (63, .if_icmp .eq 9, 3, 72, 0, 0)],
  [(66, .aload_n f0, 1, 0, 0, 0), (67, .iconst 1, 1, 1, 0, 0), (68, .invokevirtual 218, 3, 157, 1, 49), (71, .ireturn, 1, 0, 0, 1), (72, .iload_n f2, 1, 0, 0, 0), (73, .ifCond .ne 9, 3, 82, 0, 0), (76, .aload_n f0, 1, 0, 0, 0), (77, .iconst 2, 1, 2, 0, 0), (78, .invokevirtual 218, 3, 157, 1, 49)],
  [(81, .ireturn, 1, 0, 0, 1), (82, .aload_n f0, 1, 0, 0, 0), (83, .invokevirtual 221, 3, 156, 0, 48), (86, .aload_n f0, 1, 0, 0, 0), (87, .bipush 26, 2, 26, 0, 0), (89, .iload_n f2, 1, 0, 0, 0), (90, .invokevirtual 234, 3, 158, 2, 48), (93, .goto 19, 3, 112, 0, 0)],
  [(96, .aload_n f0, 1, 0, 0, 0), (97, .invokevirtual 238, 3, 159, 0, 49), (100, .ifCond .ne 5, 3, 105, 0, 0), (103, .iconst 0, 1, 0, 0, 0), (104, .ireturn, 1, 0, 0, 1), (105, .aload_n f0, 1, 0, 0, 0), (106, .bipush 25, 2, 25, 0, 0), (108, .iconst 0, 1, 0, 0, 0), (109, .invokevirtual 234, 3, 158, 2, 48)],
  [(112, .goto (-103), 3, 9, 0, 0), (115, .iconst 1, 1, 1, 0, 0), (116, .ireturn, 1, 0, 0, 1)]]
/-- ToolUnionModel.sumUp()Z -/
def cd_161 : List (List EEw) := [
  [(0, .aload_n f0, 1, 0, 0, 0), (1, .invokevirtual 230, 3, 160, 0, 49), (4, .ifCond .ne 5, 3, 9, 0, 0), (7, .iconst 0, 1, 0, 0, 0), (8, .ireturn, 1, 0, 0, 1), (9, .aload_n f0, 1, 0, 0, 0), (10, .getfield 197, 3, 12, 18, 0), (13, .sipush 143, 3, 143, 0, 0)],
  [(16, .if_icmp .eq 13, 3, 29, 0, 0), (19, .aload_n f0, 1, 0, 0, 0), (20, .getfield 197, 3, 12, 18, 0), (23, .sipush 145, 3, 145, 0, 0), (26, .if_icmp .ne 43, 3, 69, 0, 0), (29, .aload_n f0, 1, 0, 0, 0), (30, .getfield 197, 3, 12, 18, 0)],
  [(33, .sipush 143, 3, 143, 0, 0), (36, .if_icmp .ne 8, 3, 44, 0, 0), (39, .bipush 23, 2, 23, 0, 0), (41, .goto 5, 3, 46, 0, 0), (44, .bipush 24, 2, 24, 0, 0), (46, .istore_n f1, 1, 0, 0, 0), (47, .aload_n f0, 1, 0, 0, 0)],
  [(48, .invokevirtual 221, 3, 156, 0, 48), (51, .aload_n f0, 1, 0, 0, 0), (52, .invokevirtual 230, 3, 160, 0, 49), (55, .ifCond .ne 5, 3, 60, 0, 0), (58, .iconst 0, 1, 0, 0, 0), (59, .ireturn, 1, 0, 0, 1), (60, .aload_n f0, 1, 0, 0, 0), (61, .iload_n f1, 1, 0, 0, 0), (62, .iconst 0, 1, 0, 0, 0), (63, .invokevirtual 234, 3, 158, 2, 48)],
  [(66, .goto (-57), 3, 9, 0, 0), (69, .iconst 1, 1, 1, 0, 0), (70, .ireturn, 1, 0, 0, 1)]]
/-- ToolUnionModel.opens()Z -/
def cd_162 : List (List EEw) := [
  [(0, .aload_n f0, 1, 0, 0, 0), (1, .getfield 227, 3, 12, 24, 0), (4, .bipush 8, 2, 8, 0, 0), (6, .if_icmp .ne 9, 3, 15, 0, 0), (9, .aload_n f0, 1, 0, 0, 0), (10, .iconst 3, 1, 3, 0, 0), (11, .invokevirtual 218, 3, 157, 1, 49), (14, .ireturn, 1, 0, 0, 1), (15, .aload_n f0, 1, 0, 0, 0)],
  [(16, .dup, 1, 0, 0, 0), (17, .getfield 227, 3, 12, 24, 0), (20, .iconst 1, 1, 1, 0, 0), (21, .iadd, 1, 0, 0, 0), (22, .putfield 227, 3, 12, 24, 0), (25, .aload_n f0, 1, 0, 0, 0), (26, .invokevirtual 221, 3, 156, 0, 48), (29, .iconst 1, 1, 1, 0, 0), (30, .ireturn, 1, 0, 0, 1)]]
/-- ToolUnionModel.need(I)Z -/
def cd_163 : List (List EEw) := [
  [(0, .aload_n f0, 1, 0, 0, 0), (1, .getfield 197, 3, 12, 18, 0), (4, .iload_n f1, 1, 0, 0, 0), (5, .if_icmp .eq 9, 3, 14, 0, 0), (8, .aload_n f0, 1, 0, 0, 0), (9, .iconst 1, 1, 1, 0, 0), (10, .invokevirtual 218, 3, 157, 1, 49), (13, .ireturn, 1, 0, 0, 1), (14, .aload_n f0, 1, 0, 0, 0), (15, .invokevirtual 221, 3, 156, 0, 48)],
  [(18, .iconst 1, 1, 1, 0, 0), (19, .ireturn, 1, 0, 0, 1)]]
/-- ToolUnionModel.oneTest()Z -/
def cd_164 : List (List EEw) := [
  [(0, .aload_n f0, 1, 0, 0, 0), (1, .getfield 197, 3, 12, 18, 0), (4, .bipush 6, 2, 6, 0, 0), (6, .if_icmp .ne 38, 3, 44, 0, 0), (9, .aload_n f0, 1, 0, 0, 0), (10, .invokevirtual 247, 3, 162, 0, 49), (13, .ifCond .eq 10, 3, 23, 0, 0)],
  [(16, .aload_n f0, 1, 0, 0, 0), (17, .invokevirtual 244, 3, 164, 0, 49), (20, .ifCond .ne 5, 3, 25, 0, 0), (23, .iconst 0, 1, 0, 0, 0), (24, .ireturn, 1, 0, 0, 1), (25, .aload_n f0, 1, 0, 0, 0), (26, .dup, 1, 0, 0, 0), (27, .getfield 227, 3, 12, 24, 0), (30, .iconst 1, 1, 1, 0, 0), (31, .isub, 1, 0, 0, 0)],
  [(32, .putfield 227, 3, 12, 24, 0), (35, .aload_n f0, 1, 0, 0, 0), (36, .bipush 30, 2, 30, 0, 0), (38, .iconst 0, 1, 0, 0, 0), (39, .invokevirtual 234, 3, 158, 2, 48), (42, .iconst 1, 1, 1, 0, 0), (43, .ireturn, 1, 0, 0, 1), (44, .aload_n f0, 1, 0, 0, 0), (45, .getfield 197, 3, 12, 18, 0)],
  [(48, .sipush 140, 3, 140, 0, 0), (51, .if_icmp .ne 41, 3, 92, 0, 0), (54, .aload_n f0, 1, 0, 0, 0), (55, .invokevirtual 247, 3, 162, 0, 49), (58, .ifCond .eq 20, 3, 78, 0, 0), (61, .aload_n f0, 1, 0, 0, 0), (62, .invokevirtual 250, 3, 166, 0, 49)],
  [(65, .ifCond .eq 13, 3, 78, 0, 0), (68, .aload_n f0, 1, 0, 0, 0), (69, .sipush 141, 3, 141, 0, 0), (72, .invokevirtual 253, 3, 163, 1, 49), (75, .ifCond .ne 5, 3, 80, 0, 0), (78, .iconst 0, 1, 0, 0, 0), (79, .ireturn, 1, 0, 0, 1)],
  [(80, .aload_n f0, 1, 0, 0, 0), (81, .dup, 1, 0, 0, 0), (82, .getfield 227, 3, 12, 24, 0), (85, .iconst 1, 1, 1, 0, 0), (86, .isub, 1, 0, 0, 0), (87, .putfield 227, 3, 12, 24, 0), (90, .iconst 1, 1, 1, 0, 0), (91, .ireturn, 1, 0, 0, 1), (92, .aload_n f0, 1, 0, 0, 0), (93, .invokevirtual 256, 3, 161, 0, 49)],
  [(96, .ifCond .ne 5, 3, 101, 0, 0), (99, .iconst 0, 1, 0, 0, 0), (100, .ireturn, 1, 0, 0, 1), (101, .aload_n f0, 1, 0, 0, 0), (102, .getfield 197, 3, 12, 18, 0), (105, .sipush 160, 3, 160, 0, 0), (108, .if_icmp .ne 8, 3, 116, 0, 0), (111, .bipush 27, 2, 27, 0, 0)],
  [(113, .goto 34, 3, 147, 0, 0), (116, .aload_n f0, 1, 0, 0, 0), (117, .getfield 197, 3, 12, 18, 0), (120, .sipush 161, 3, 161, 0, 0), (123, .if_icmp .ne 8, 3, 131, 0, 0), (126, .bipush 28, 2, 28, 0, 0)],
  [(128, .goto 19, 3, 147, 0, 0), (131, .aload_n f0, 1, 0, 0, 0), (132, .getfield 197, 3, 12, 18, 0), (135, .sipush 162, 3, 162, 0, 0), (138, .if_icmp .ne 8, 3, 146, 0, 0), (141, .bipush 29, 2, 29, 0, 0), (143, .goto 4, 3, 147, 0, 0)],
  [(146, .iconst (-1), 1, 4294967295, 0, 0), (147, .istore_n f1, 1, 0, 0, 0), (148, .iload_n f1, 1, 0, 0, 0), (149, .iconst (-1), 1, 4294967295, 0, 0), (150, .if_icmp .ne 9, 3, 159, 0, 0), (153, .aload_n f0, 1, 0, 0, 0), (154, .iconst 1, 1, 1, 0, 0), (155, .invokevirtual 218, 3, 157, 1, 49), (158, .ireturn, 1, 0, 0, 1), (159, .aload_n f0, 1, 0, 0, 0)],
  [(160, .invokevirtual 221, 3, 156, 0, 48), (163, .aload_n f0, 1, 0, 0, 0), (164, .invokevirtual 256, 3, 161, 0, 49), (167, .ifCond .ne 5, 3, 172, 0, 0), (170, .iconst 0, 1, 0, 0, 0), (171, .ireturn, 1, 0, 0, 1), (172, .aload_n f0, 1, 0, 0, 0), (173, .iload_n f1, 1, 0, 0, 0), (174, .iconst 0, 1, 0, 0, 0), (175, .invokevirtual 234, 3, 158, 2, 48)],
  [(178, .iconst 1, 1, 1, 0, 0), (179, .ireturn, 1, 0, 0, 1)]]
/-- ToolUnionModel.every()Z -/
def cd_165 : List (List EEw) := [
  [(0, .aload_n f0, 1, 0, 0, 0), (1, .invokevirtual 244, 3, 164, 0, 49), (4, .ifCond .ne 5, 3, 9, 0, 0), (7, .iconst 0, 1, 0, 0, 0), (8, .ireturn, 1, 0, 0, 1), (9, .aload_n f0, 1, 0, 0, 0), (10, .getfield 197, 3, 12, 18, 0), (13, .iconst 5, 1, 5, 0, 0), (14, .if_icmp .ne 26, 3, 40, 0, 0)],
  [(17, .aload_n f0, 1, 0, 0, 0), (18, .invokevirtual 221, 3, 156, 0, 48), (21, .aload_n f0, 1, 0, 0, 0), (22, .invokevirtual 244, 3, 164, 0, 49), (25, .ifCond .ne 5, 3, 30, 0, 0), (28, .iconst 0, 1, 0, 0, 0), (29, .ireturn, 1, 0, 0, 1), (30, .aload_n f0, 1, 0, 0, 0), (31, .bipush 31, 2, 31, 0, 0)],
  [(33, .iconst 0, 1, 0, 0, 0), (34, .invokevirtual 234, 3, 158, 2, 48), (37, .goto (-28), 3, 9, 0, 0), (40, .iconst 1, 1, 1, 0, 0), (41, .ireturn, 1, 0, 0, 1)]]
/-- ToolUnionModel.any()Z -/
def cd_166 : List (List EEw) := [
  [(0, .aload_n f0, 1, 0, 0, 0), (1, .invokevirtual 241, 3, 165, 0, 49), (4, .ifCond .ne 5, 3, 9, 0, 0), (7, .iconst 0, 1, 0, 0, 0), (8, .ireturn, 1, 0, 0, 1), (9, .aload_n f0, 1, 0, 0, 0), (10, .getfield 197, 3, 12, 18, 0), (13, .iconst 4, 1, 4, 0, 0), (14, .if_icmp .ne 26, 3, 40, 0, 0)],
  [(17, .aload_n f0, 1, 0, 0, 0), (18, .invokevirtual 221, 3, 156, 0, 48), (21, .aload_n f0, 1, 0, 0, 0), (22, .invokevirtual 241, 3, 165, 0, 49), (25, .ifCond .ne 5, 3, 30, 0, 0), (28, .iconst 0, 1, 0, 0, 0), (29, .ireturn, 1, 0, 0, 1), (30, .aload_n f0, 1, 0, 0, 0), (31, .bipush 32, 2, 32, 0, 0)],
  [(33, .iconst 0, 1, 0, 0, 0), (34, .invokevirtual 234, 3, 158, 2, 48), (37, .goto (-28), 3, 9, 0, 0), (40, .iconst 1, 1, 1, 0, 0), (41, .ireturn, 1, 0, 0, 1)]]
/-- ToolUnionModel.aLine()Z -/
def cd_167 : List (List EEw) := [
  [(0, .aload_n f0, 1, 0, 0, 0), (1, .getfield 197, 3, 12, 18, 0), (4, .bipush 20, 2, 20, 0, 0), (6, .bipush 24, 2, 24, 0, 0), (8, .invokestatic 77, 3, 20, 3, 1), (11, .ifCond .ne 9, 3, 20, 0, 0), (14, .aload_n f0, 1, 0, 0, 0), (15, .iconst 1, 1, 1, 0, 0)],
  [(16, .invokevirtual 218, 3, 157, 1, 49), (19, .ireturn, 1, 0, 0, 1), (20, .aload_n f0, 1, 0, 0, 0), (21, .getfield 259, 3, 12, 13, 0), (24, .bipush 16, 2, 16, 0, 0), (26, .if_icmp .ne 9, 3, 35, 0, 0), (29, .aload_n f0, 1, 0, 0, 0), (30, .iconst 3, 1, 3, 0, 0), (31, .invokevirtual 218, 3, 157, 1, 49)],
  [(34, .ireturn, 1, 0, 0, 1), (35, .aload_n f0, 1, 0, 0, 0), (36, .iconst 0, 1, 0, 0, 0), (37, .putfield 227, 3, 12, 24, 0), (40, .aload_n f0, 1, 0, 0, 0), (41, .getfield 22, 3, 12, 6, 1), (44, .iconst 4, 1, 4, 0, 0), (45, .aload_n f0, 1, 0, 0, 0), (46, .getfield 259, 3, 12, 13, 0)],
  [(49, .imul, 1, 0, 0, 0), (50, .iconst 3, 1, 3, 0, 0), (51, .iadd, 1, 0, 0, 0), (52, .aload_n f0, 1, 0, 0, 0), (53, .getfield 197, 3, 12, 18, 0), (56, .iastore, 1, 0, 0, 0), (57, .aload_n f0, 1, 0, 0, 0), (58, .invokevirtual 221, 3, 156, 0, 48), (61, .aload_n f0, 1, 0, 0, 0), (62, .getfield 22, 3, 12, 6, 1)],
  [(65, .iconst 4, 1, 4, 0, 0), (66, .aload_n f0, 1, 0, 0, 0), (67, .getfield 259, 3, 12, 13, 0), (70, .imul, 1, 0, 0, 0), (71, .aload_n f0, 1, 0, 0, 0), (72, .getfield 224, 3, 12, 14, 0), (75, .iastore, 1, 0, 0, 0), (76, .aload_n f0, 1, 0, 0, 0), (77, .getfield 155, 3, 12, 12, 0)],
  [(80, .iconst 1, 1, 1, 0, 0), (81, .if_icmp .ne 12, 3, 93, 0, 0), (84, .aload_n f0, 1, 0, 0, 0), (85, .invokevirtual 256, 3, 161, 0, 49), (88, .ifCond .ne 5, 3, 93, 0, 0), (91, .iconst 0, 1, 0, 0, 0), (92, .ireturn, 1, 0, 0, 1), (93, .aload_n f0, 1, 0, 0, 0), (94, .getfield 22, 3, 12, 6, 1)],
  [(97, .iconst 4, 1, 4, 0, 0), (98, .aload_n f0, 1, 0, 0, 0), (99, .getfield 259, 3, 12, 13, 0), (102, .imul, 1, 0, 0, 0), (103, .iconst 1, 1, 1, 0, 0), (104, .iadd, 1, 0, 0, 0), (105, .aload_n f0, 1, 0, 0, 0), (106, .getfield 224, 3, 12, 14, 0), (109, .iastore, 1, 0, 0, 0), (110, .aload_n f0, 1, 0, 0, 0), (111, .getfield 197, 3, 12, 18, 0)],
  [(114, .iconst 3, 1, 3, 0, 0), (115, .if_icmp .ne 16, 3, 131, 0, 0), (118, .aload_n f0, 1, 0, 0, 0), (119, .invokevirtual 221, 3, 156, 0, 48), (122, .aload_n f0, 1, 0, 0, 0), (123, .invokevirtual 250, 3, 166, 0, 49), (126, .ifCond .ne 5, 3, 131, 0, 0)],
  [(129, .iconst 0, 1, 0, 0, 0), (130, .ireturn, 1, 0, 0, 1), (131, .aload_n f0, 1, 0, 0, 0), (132, .getfield 22, 3, 12, 6, 1), (135, .iconst 4, 1, 4, 0, 0), (136, .aload_n f0, 1, 0, 0, 0), (137, .getfield 259, 3, 12, 13, 0), (140, .imul, 1, 0, 0, 0), (141, .iconst 2, 1, 2, 0, 0), (142, .iadd, 1, 0, 0, 0), (143, .aload_n f0, 1, 0, 0, 0)],
  [(144, .getfield 224, 3, 12, 14, 0), (147, .iastore, 1, 0, 0, 0), (148, .aload_n f0, 1, 0, 0, 0), (149, .sipush 159, 3, 159, 0, 0), (152, .invokevirtual 253, 3, 163, 1, 49), (155, .ireturn, 1, 0, 0, 1)]]
/-- ToolUnionModel.readsLaw()Z -/
def cd_168 : List (List EEw) := [
  [(0, .aload_n f0, 1, 0, 0, 0), (1, .iconst 0, 1, 0, 0, 0), (2, .putfield 259, 3, 12, 13, 0), (5, .aload_n f0, 1, 0, 0, 0), (6, .iconst 0, 1, 0, 0, 0), (7, .putfield 224, 3, 12, 14, 0), (10, .iconst 1, 1, 1, 0, 0), (11, .istore_n f1, 1, 0, 0, 0), (12, .iload_n f1, 1, 0, 0, 0), (13, .ifCond .eq 36, 3, 49, 0, 0)],
  [(16, .aload_n f0, 1, 0, 0, 0), (17, .getfield 197, 3, 12, 18, 0), (20, .ifCond .eq 29, 3, 49, 0, 0), (23, .aload_n f0, 1, 0, 0, 0), (24, .invokevirtual 262, 3, 167, 0, 49), (27, .istore_n f1, 1, 0, 0, 0), (28, .aload_n f0, 1, 0, 0, 0), (29, .dup, 1, 0, 0, 0), (30, .getfield 259, 3, 12, 13, 0)],
  [(33, .iload_n f1, 1, 0, 0, 0), (34, .ifCond .eq 7, 3, 41, 0, 0), (37, .iconst 1, 1, 1, 0, 0), (38, .goto 4, 3, 42, 0, 0), (41, .iconst 0, 1, 0, 0, 0), (42, .iadd, 1, 0, 0, 0), (43, .putfield 259, 3, 12, 13, 0), (46, .goto (-34), 3, 12, 0, 0)],
  [(49, .iload_n f1, 1, 0, 0, 0), (50, .ireturn, 1, 0, 0, 1)]]
/-- ToolUnionModel.number(II)Z -/
def cd_169 : List (List EEw) := [
  [(0, .aload_n f0, 1, 0, 0, 0), (1, .getfield 197, 3, 12, 18, 0), (4, .iconst 2, 1, 2, 0, 0), (5, .if_icmp .eq 9, 3, 14, 0, 0), (8, .aload_n f0, 1, 0, 0, 0), (9, .iconst 1, 1, 1, 0, 0), (10, .invokevirtual 218, 3, 157, 1, 49), (13, .ireturn, 1, 0, 0, 1), (14, .aload_n f0, 1, 0, 0, 0), (15, .getfield 209, 3, 12, 20, 0)],
  [(18, .iload_n f1, 1, 0, 0, 0), (19, .iload_n f2, 1, 0, 0, 0), (20, .invokestatic 77, 3, 20, 3, 1), (23, .ifCond .ne 9, 3, 32, 0, 0), (26, .aload_n f0, 1, 0, 0, 0), (27, .iconst 2, 1, 2, 0, 0), (28, .invokevirtual 218, 3, 157, 1, 49), (31, .ireturn, 1, 0, 0, 1)],
  [(32, .aload_n f0, 1, 0, 0, 0), (33, .aload_n f0, 1, 0, 0, 0), (34, .getfield 209, 3, 12, 20, 0), (37, .putfield 265, 3, 12, 26, 0), (40, .aload_n f0, 1, 0, 0, 0), (41, .invokevirtual 221, 3, 156, 0, 48), (44, .iconst 1, 1, 1, 0, 0), (45, .ireturn, 1, 0, 0, 1)]]
/-- ToolUnionModel.told(IIII)Z -/
def cd_170 : List (List EEw) := [
  [(0, .aload_n f0, 1, 0, 0, 0), (1, .iload_n f2, 1, 0, 0, 0), (2, .invokevirtual 253, 3, 163, 1, 49), (5, .ifCond .eq 13, 3, 18, 0, 0), (8, .aload_n f0, 1, 0, 0, 0), (9, .iload_n f3, 1, 0, 0, 0), (10, .iload 4, 2, 0, 0, 0), (12, .invokevirtual 268, 3, 169, 2, 49), (15, .ifCond .ne 5, 3, 20, 0, 0)],
  [(18, .iconst 0, 1, 0, 0, 0), (19, .ireturn, 1, 0, 0, 1), (20, .aload_n f0, 1, 0, 0, 0), (21, .getfield 28, 3, 12, 8, 1), (24, .iload_n f1, 1, 0, 0, 0), (25, .aload_n f0, 1, 0, 0, 0), (26, .getfield 265, 3, 12, 26, 0), (29, .iastore, 1, 0, 0, 0), (30, .iconst 1, 1, 1, 0, 0), (31, .ireturn, 1, 0, 0, 1)]]
/-- ToolUnionModel.aWork()Z -/
def cd_171 : List (List EEw) := [
  [(0, .iconst 3, 1, 3, 0, 0), (1, .aload_n f0, 1, 0, 0, 0), (2, .getfield 272, 3, 12, 15, 0), (5, .imul, 1, 0, 0, 0), (6, .istore_n f1, 1, 0, 0, 0), (7, .aload_n f0, 1, 0, 0, 0), (8, .iload_n f1, 1, 0, 0, 0), (9, .iconst 0, 1, 0, 0, 0), (10, .iadd, 1, 0, 0, 0), (11, .bipush 7, 2, 7, 0, 0), (13, .iconst 0, 1, 0, 0, 0), (14, .iconst 3, 1, 3, 0, 0), (15, .invokevirtual 275, 3, 170, 4, 49)],
  [(18, .ifCond .eq 17, 3, 35, 0, 0), (21, .aload_n f0, 1, 0, 0, 0), (22, .iload_n f1, 1, 0, 0, 0), (23, .iconst 1, 1, 1, 0, 0), (24, .iadd, 1, 0, 0, 0), (25, .bipush 8, 2, 8, 0, 0), (27, .iconst 1, 1, 1, 0, 0), (28, .iconst 3, 1, 3, 0, 0), (29, .invokevirtual 275, 3, 170, 4, 49)],
  [(32, .ifCond .ne 5, 3, 37, 0, 0), (35, .iconst 0, 1, 0, 0, 0), (36, .ireturn, 1, 0, 0, 1), (37, .aload_n f0, 1, 0, 0, 0), (38, .getfield 28, 3, 12, 8, 1), (41, .iload_n f1, 1, 0, 0, 0), (42, .iconst 2, 1, 2, 0, 0), (43, .iadd, 1, 0, 0, 0), (44, .iconst 0, 1, 0, 0, 0), (45, .iastore, 1, 0, 0, 0), (46, .aload_n f0, 1, 0, 0, 0), (47, .getfield 197, 3, 12, 18, 0)],
  [(50, .bipush 9, 2, 9, 0, 0), (52, .if_icmp .ne 43, 3, 95, 0, 0), (55, .aload_n f0, 1, 0, 0, 0), (56, .invokevirtual 221, 3, 156, 0, 48), (59, .aload_n f0, 1, 0, 0, 0), (60, .iconst 0, 1, 0, 0, 0), (61, .aload_n f0, 1, 0, 0, 0), (62, .getfield 272, 3, 12, 15, 0)],
  [(65, .iconst 1, 1, 1, 0, 0), (66, .isub, 1, 0, 0, 0), (67, .invokevirtual 268, 3, 169, 2, 49), (70, .ifCond .ne 5, 3, 75, 0, 0), (73, .iconst 0, 1, 0, 0, 0), (74, .ireturn, 1, 0, 0, 1), (75, .aload_n f0, 1, 0, 0, 0), (76, .getfield 28, 3, 12, 8, 1), (79, .iload_n f1, 1, 0, 0, 0)],
  [(80, .iconst 2, 1, 2, 0, 0), (81, .iadd, 1, 0, 0, 0), (82, .dup2, 1, 0, 0, 0), (83, .iaload, 1, 0, 0, 0), (84, .iconst 1, 1, 1, 0, 0), (85, .aload_n f0, 1, 0, 0, 0), (86, .getfield 265, 3, 12, 26, 0), (89, .ishl, 1, 0, 0, 0), (90, .ior, 1, 0, 0, 0), (91, .iastore, 1, 0, 0, 0), (92, .goto (-46), 3, 46, 0, 0), (95, .aload_n f0, 1, 0, 0, 0)],
  [(96, .sipush 159, 3, 159, 0, 0), (99, .invokevirtual 253, 3, 163, 1, 49), (102, .ireturn, 1, 0, 0, 1)]]
/-- ToolUnionModel.aRota()Z -/
def cd_172 : List (List EEw) := [
  [(0, .iconst 5, 1, 5, 0, 0), (1, .aload_n f0, 1, 0, 0, 0), (2, .getfield 272, 3, 12, 15, 0), (5, .imul, 1, 0, 0, 0), (6, .istore_n f1, 1, 0, 0, 0), (7, .aload_n f0, 1, 0, 0, 0), (8, .iload_n f1, 1, 0, 0, 0), (9, .iconst 0, 1, 0, 0, 0), (10, .iadd, 1, 0, 0, 0), (11, .bipush 10, 2, 10, 0, 0), (13, .iconst 0, 1, 0, 0, 0), (14, .aload_n f0, 1, 0, 0, 0), (15, .getfield 7, 3, 12, 0, 1)],
  [(18, .bipush 96, 2, 96, 0, 0), (20, .iaload, 1, 0, 0, 0), (21, .iconst 1, 1, 1, 0, 0), (22, .isub, 1, 0, 0, 0), (23, .invokevirtual 275, 3, 170, 4, 49), (26, .ifCond .eq 92, 3, 118, 0, 0), (29, .aload_n f0, 1, 0, 0, 0), (30, .iload_n f1, 1, 0, 0, 0), (31, .iconst 1, 1, 1, 0, 0)],
  [(32, .iadd, 1, 0, 0, 0), (33, .bipush 11, 2, 11, 0, 0), (35, .iconst 0, 1, 0, 0, 0), (36, .aload_n f0, 1, 0, 0, 0), (37, .getfield 7, 3, 12, 0, 1), (40, .bipush 97, 2, 97, 0, 0), (42, .iaload, 1, 0, 0, 0), (43, .iconst 1, 1, 1, 0, 0), (44, .isub, 1, 0, 0, 0), (45, .invokevirtual 275, 3, 170, 4, 49)],
  [(48, .ifCond .eq 70, 3, 118, 0, 0), (51, .aload_n f0, 1, 0, 0, 0), (52, .iload_n f1, 1, 0, 0, 0), (53, .iconst 2, 1, 2, 0, 0), (54, .iadd, 1, 0, 0, 0), (55, .bipush 7, 2, 7, 0, 0), (57, .iconst 0, 1, 0, 0, 0), (58, .aload_n f0, 1, 0, 0, 0), (59, .getfield 7, 3, 12, 0, 1), (62, .bipush 98, 2, 98, 0, 0)],
  [(64, .iaload, 1, 0, 0, 0), (65, .iconst 1, 1, 1, 0, 0), (66, .isub, 1, 0, 0, 0), (67, .invokevirtual 275, 3, 170, 4, 49), (70, .ifCond .eq 48, 3, 118, 0, 0), (73, .aload_n f0, 1, 0, 0, 0), (74, .iload_n f1, 1, 0, 0, 0), (75, .iconst 3, 1, 3, 0, 0), (76, .iadd, 1, 0, 0, 0), (77, .bipush 12, 2, 12, 0, 0), (79, .iconst 0, 1, 0, 0, 0)],
  [(80, .sipush 9999, 3, 9999, 0, 0), (83, .invokevirtual 275, 3, 170, 4, 49), (86, .ifCond .eq 32, 3, 118, 0, 0), (89, .aload_n f0, 1, 0, 0, 0), (90, .iload_n f1, 1, 0, 0, 0), (91, .iconst 4, 1, 4, 0, 0), (92, .iadd, 1, 0, 0, 0), (93, .bipush 13, 2, 13, 0, 0), (95, .iconst 1, 1, 1, 0, 0)],
  [(96, .bipush 99, 2, 99, 0, 0), (98, .invokevirtual 275, 3, 170, 4, 49), (101, .ifCond .eq 17, 3, 118, 0, 0), (104, .aload_n f0, 1, 0, 0, 0), (105, .sipush 159, 3, 159, 0, 0), (108, .invokevirtual 253, 3, 163, 1, 49), (111, .ifCond .eq 7, 3, 118, 0, 0)],
  [(114, .iconst 1, 1, 1, 0, 0), (115, .goto 4, 3, 119, 0, 0), (118, .iconst 0, 1, 0, 0, 0), (119, .ireturn, 1, 0, 0, 1)]]
/-- ToolUnionModel.readsRows()Z -/
def cd_173 : List (List EEw) := [
  [(0, .aload_n f0, 1, 0, 0, 0), (1, .iconst 0, 1, 0, 0, 0), (2, .putfield 272, 3, 12, 15, 0), (5, .iconst 1, 1, 1, 0, 0), (6, .istore_n f1, 1, 0, 0, 0), (7, .iload_n f1, 1, 0, 0, 0), (8, .ifCond .eq 107, 3, 115, 0, 0), (11, .aload_n f0, 1, 0, 0, 0), (12, .getfield 197, 3, 12, 18, 0), (15, .ifCond .eq 100, 3, 115, 0, 0)],
  [(18, .aload_n f0, 1, 0, 0, 0), (19, .getfield 197, 3, 12, 18, 0), (22, .aload_n f0, 1, 0, 0, 0), (23, .getfield 155, 3, 12, 12, 0), (26, .iconst 2, 1, 2, 0, 0), (27, .if_icmp .ne 8, 3, 35, 0, 0), (30, .bipush 7, 2, 7, 0, 0)],
  [(32, .goto 5, 3, 37, 0, 0), (35, .bipush 10, 2, 10, 0, 0), (37, .if_icmp .eq 9, 3, 46, 0, 0), (40, .aload_n f0, 1, 0, 0, 0), (41, .iconst 1, 1, 1, 0, 0), (42, .invokevirtual 218, 3, 157, 1, 49), (45, .ireturn, 1, 0, 0, 1), (46, .aload_n f0, 1, 0, 0, 0), (47, .getfield 272, 3, 12, 15, 0)],
  [(50, .aload_n f0, 1, 0, 0, 0), (51, .getfield 155, 3, 12, 12, 0), (54, .iconst 2, 1, 2, 0, 0), (55, .if_icmp .ne 8, 3, 63, 0, 0), (58, .bipush 8, 2, 8, 0, 0), (60, .goto 5, 3, 65, 0, 0), (63, .bipush 20, 2, 20, 0, 0)],
  [(65, .if_icmp .ne 9, 3, 74, 0, 0), (68, .aload_n f0, 1, 0, 0, 0), (69, .iconst 3, 1, 3, 0, 0), (70, .invokevirtual 218, 3, 157, 1, 49), (73, .ireturn, 1, 0, 0, 1), (74, .aload_n f0, 1, 0, 0, 0), (75, .getfield 155, 3, 12, 12, 0), (78, .iconst 2, 1, 2, 0, 0), (79, .if_icmp .ne 10, 3, 89, 0, 0)],
  [(82, .aload_n f0, 1, 0, 0, 0), (83, .invokevirtual 279, 3, 171, 0, 49), (86, .goto 7, 3, 93, 0, 0), (89, .aload_n f0, 1, 0, 0, 0), (90, .invokevirtual 282, 3, 172, 0, 49), (93, .istore_n f1, 1, 0, 0, 0), (94, .aload_n f0, 1, 0, 0, 0), (95, .dup, 1, 0, 0, 0)],
  [(96, .getfield 272, 3, 12, 15, 0), (99, .iload_n f1, 1, 0, 0, 0), (100, .ifCond .eq 7, 3, 107, 0, 0), (103, .iconst 1, 1, 1, 0, 0), (104, .goto 4, 3, 108, 0, 0), (107, .iconst 0, 1, 0, 0, 0), (108, .iadd, 1, 0, 0, 0), (109, .putfield 272, 3, 12, 15, 0)],
  [(112, .goto (-105), 3, 7, 0, 0), (115, .iload_n f1, 1, 0, 0, 0), (116, .ireturn, 1, 0, 0, 1)]]
/-- ToolUnionModel.putsLaw(I)I -/
def cd_174 : List (List EEw) := [
  [(0, .aload_n f0, 1, 0, 0, 0), (1, .getfield 7, 3, 12, 0, 1), (4, .bipush 100, 2, 100, 0, 0), (6, .iload_n f1, 1, 0, 0, 0), (7, .iadd, 1, 0, 0, 0), (8, .aload_n f0, 1, 0, 0, 0), (9, .getfield 259, 3, 12, 13, 0), (12, .iastore, 1, 0, 0, 0), (13, .iconst 0, 1, 0, 0, 0), (14, .istore_n f2, 1, 0, 0, 0), (15, .iload_n f2, 1, 0, 0, 0)],
  [(16, .aload_n f0, 1, 0, 0, 0), (17, .getfield 259, 3, 12, 13, 0), (20, .if_icmp .ge 107, 3, 127, 0, 0), (23, .aload_n f0, 1, 0, 0, 0), (24, .getfield 7, 3, 12, 0, 1), (27, .sipush 266, 3, 266, 0, 0), (30, .bipush 16, 2, 16, 0, 0)],
  [(32, .iload_n f1, 1, 0, 0, 0), (33, .imul, 1, 0, 0, 0), (34, .iadd, 1, 0, 0, 0), (35, .iload_n f2, 1, 0, 0, 0), (36, .iadd, 1, 0, 0, 0), (37, .aload_n f0, 1, 0, 0, 0), (38, .getfield 22, 3, 12, 6, 1), (41, .iconst 4, 1, 4, 0, 0), (42, .iload_n f2, 1, 0, 0, 0), (43, .imul, 1, 0, 0, 0), (44, .iaload, 1, 0, 0, 0), (45, .iastore, 1, 0, 0, 0), (46, .aload_n f0, 1, 0, 0, 0), (47, .getfield 7, 3, 12, 0, 1)],
  [(50, .sipush 298, 3, 298, 0, 0), (53, .bipush 16, 2, 16, 0, 0), (55, .iload_n f1, 1, 0, 0, 0), (56, .imul, 1, 0, 0, 0), (57, .iadd, 1, 0, 0, 0), (58, .iload_n f2, 1, 0, 0, 0), (59, .iadd, 1, 0, 0, 0), (60, .aload_n f0, 1, 0, 0, 0), (61, .getfield 22, 3, 12, 6, 1)],
  [(64, .iconst 4, 1, 4, 0, 0), (65, .iload_n f2, 1, 0, 0, 0), (66, .imul, 1, 0, 0, 0), (67, .iconst 1, 1, 1, 0, 0), (68, .iadd, 1, 0, 0, 0), (69, .iaload, 1, 0, 0, 0), (70, .iastore, 1, 0, 0, 0), (71, .aload_n f0, 1, 0, 0, 0), (72, .getfield 7, 3, 12, 0, 1), (75, .sipush 330, 3, 330, 0, 0), (78, .bipush 16, 2, 16, 0, 0)],
  [(80, .iload_n f1, 1, 0, 0, 0), (81, .imul, 1, 0, 0, 0), (82, .iadd, 1, 0, 0, 0), (83, .iload_n f2, 1, 0, 0, 0), (84, .iadd, 1, 0, 0, 0), (85, .aload_n f0, 1, 0, 0, 0), (86, .getfield 22, 3, 12, 6, 1), (89, .iconst 4, 1, 4, 0, 0), (90, .iload_n f2, 1, 0, 0, 0), (91, .imul, 1, 0, 0, 0), (92, .iconst 2, 1, 2, 0, 0), (93, .iadd, 1, 0, 0, 0), (94, .iaload, 1, 0, 0, 0), (95, .iastore, 1, 0, 0, 0)],
  [(96, .aload_n f0, 1, 0, 0, 0), (97, .getfield 7, 3, 12, 0, 1), (100, .sipush 362, 3, 362, 0, 0), (103, .bipush 16, 2, 16, 0, 0), (105, .iload_n f1, 1, 0, 0, 0), (106, .imul, 1, 0, 0, 0), (107, .iadd, 1, 0, 0, 0), (108, .iload_n f2, 1, 0, 0, 0), (109, .iadd, 1, 0, 0, 0), (110, .aload_n f0, 1, 0, 0, 0), (111, .getfield 22, 3, 12, 6, 1)],
  [(114, .iconst 4, 1, 4, 0, 0), (115, .iload_n f2, 1, 0, 0, 0), (116, .imul, 1, 0, 0, 0), (117, .iconst 3, 1, 3, 0, 0), (118, .iadd, 1, 0, 0, 0), (119, .iaload, 1, 0, 0, 0), (120, .iastore, 1, 0, 0, 0), (121, .iinc 2 1, 3, 0, 0, 0), (124, .goto (-109), 3, 15, 0, 0), (127, .iconst 0, 1, 0, 0, 0)],
  [(128, .istore_n f2, 1, 0, 0, 0), (129, .iload_n f2, 1, 0, 0, 0), (130, .iconst 2, 1, 2, 0, 0), (131, .aload_n f0, 1, 0, 0, 0), (132, .getfield 224, 3, 12, 14, 0), (135, .imul, 1, 0, 0, 0), (136, .if_icmp .ge 31, 3, 167, 0, 0), (139, .aload_n f0, 1, 0, 0, 0), (140, .getfield 7, 3, 12, 0, 1), (143, .sipush 394, 3, 394, 0, 0)],
  [(146, .sipush 820, 3, 820, 0, 0), (149, .iload_n f1, 1, 0, 0, 0), (150, .imul, 1, 0, 0, 0), (151, .iadd, 1, 0, 0, 0), (152, .iload_n f2, 1, 0, 0, 0), (153, .iadd, 1, 0, 0, 0), (154, .aload_n f0, 1, 0, 0, 0), (155, .getfield 25, 3, 12, 7, 1), (158, .iload_n f2, 1, 0, 0, 0), (159, .iaload, 1, 0, 0, 0)],
  [(160, .iastore, 1, 0, 0, 0), (161, .iinc 2 1, 3, 0, 0, 0), (164, .goto (-35), 3, 129, 0, 0), (167, .aload_n f0, 1, 0, 0, 0), (168, .getfield 259, 3, 12, 13, 0), (171, .ireturn, 1, 0, 0, 0)]]
/-- ToolUnionModel.putsHull()I -/
def cd_175 : List (List EEw) := [
  [(0, .aload_n f0, 1, 0, 0, 0), (1, .getfield 7, 3, 12, 0, 1), (4, .bipush 98, 2, 98, 0, 0), (6, .aload_n f0, 1, 0, 0, 0), (7, .getfield 272, 3, 12, 15, 0), (10, .iastore, 1, 0, 0, 0), (11, .aload_n f0, 1, 0, 0, 0), (12, .getfield 7, 3, 12, 0, 1), (15, .bipush 99, 2, 99, 0, 0)],
  [(17, .iconst 0, 1, 0, 0, 0), (18, .iastore, 1, 0, 0, 0), (19, .aload_n f0, 1, 0, 0, 0), (20, .getfield 7, 3, 12, 0, 1), (23, .bipush 104, 2, 104, 0, 0), (25, .iconst 0, 1, 0, 0, 0), (26, .iastore, 1, 0, 0, 0), (27, .iconst 0, 1, 0, 0, 0), (28, .istore_n f1, 1, 0, 0, 0), (29, .iload_n f1, 1, 0, 0, 0), (30, .iconst 3, 1, 3, 0, 0), (31, .aload_n f0, 1, 0, 0, 0)],
  [(32, .getfield 272, 3, 12, 15, 0), (35, .imul, 1, 0, 0, 0), (36, .if_icmp .ge 25, 3, 61, 0, 0), (39, .aload_n f0, 1, 0, 0, 0), (40, .getfield 7, 3, 12, 0, 1), (43, .sipush 142, 3, 142, 0, 0), (46, .iload_n f1, 1, 0, 0, 0), (47, .iadd, 1, 0, 0, 0)],
  [(48, .aload_n f0, 1, 0, 0, 0), (49, .getfield 28, 3, 12, 8, 1), (52, .iload_n f1, 1, 0, 0, 0), (53, .iaload, 1, 0, 0, 0), (54, .iastore, 1, 0, 0, 0), (55, .iinc 1 1, 3, 0, 0, 0), (58, .goto (-29), 3, 29, 0, 0), (61, .iconst 0, 1, 0, 0, 0), (62, .istore_n f1, 1, 0, 0, 0), (63, .iload_n f1, 1, 0, 0, 0)],
  [(64, .bipush 8, 2, 8, 0, 0), (66, .if_icmp .ge 19, 3, 85, 0, 0), (69, .aload_n f0, 1, 0, 0, 0), (70, .getfield 7, 3, 12, 0, 1), (73, .bipush 8, 2, 8, 0, 0), (75, .iload_n f1, 1, 0, 0, 0), (76, .iadd, 1, 0, 0, 0), (77, .iconst 0, 1, 0, 0, 0), (78, .iastore, 1, 0, 0, 0), (79, .iinc 1 1, 3, 0, 0, 0)],
  [(82, .goto (-19), 3, 63, 0, 0), (85, .aload_n f0, 1, 0, 0, 0), (86, .invokevirtual 84, 3, 15, 0, 48), (89, .aload_n f0, 1, 0, 0, 0), (90, .getfield 272, 3, 12, 15, 0), (93, .ireturn, 1, 0, 0, 0)]]
/-- ToolUnionModel.putsRota()I -/
def cd_176 : List (List EEw) := [
  [(0, .aload_n f0, 1, 0, 0, 0), (1, .getfield 7, 3, 12, 0, 1), (4, .bipush 99, 2, 99, 0, 0), (6, .aload_n f0, 1, 0, 0, 0), (7, .getfield 272, 3, 12, 15, 0), (10, .iastore, 1, 0, 0, 0), (11, .iconst 0, 1, 0, 0, 0), (12, .istore_n f1, 1, 0, 0, 0), (13, .iload_n f1, 1, 0, 0, 0), (14, .iconst 5, 1, 5, 0, 0), (15, .aload_n f0, 1, 0, 0, 0)],
  [(16, .getfield 272, 3, 12, 15, 0), (19, .imul, 1, 0, 0, 0), (20, .if_icmp .ge 25, 3, 45, 0, 0), (23, .aload_n f0, 1, 0, 0, 0), (24, .getfield 7, 3, 12, 0, 1), (27, .sipush 166, 3, 166, 0, 0), (30, .iload_n f1, 1, 0, 0, 0), (31, .iadd, 1, 0, 0, 0)],
  [(32, .aload_n f0, 1, 0, 0, 0), (33, .getfield 28, 3, 12, 8, 1), (36, .iload_n f1, 1, 0, 0, 0), (37, .iaload, 1, 0, 0, 0), (38, .iastore, 1, 0, 0, 0), (39, .iinc 1 1, 3, 0, 0, 0), (42, .goto (-29), 3, 13, 0, 0), (45, .aload_n f0, 1, 0, 0, 0), (46, .invokevirtual 84, 3, 15, 0, 48)],
  [(49, .aload_n f0, 1, 0, 0, 0), (50, .getfield 272, 3, 12, 15, 0), (53, .ireturn, 1, 0, 0, 0)]]
/-- ToolUnionModel.text(I)I -/
def cd_177 : List (List EEw) := [
  [(0, .aload_n f0, 1, 0, 0, 0), (1, .iconst 0, 1, 0, 0, 0), (2, .putfield 285, 3, 12, 23, 0), (5, .aload_n f0, 1, 0, 0, 0), (6, .iconst (-1), 1, 4294967295, 0, 0), (7, .putfield 40, 3, 12, 25, 0), (10, .iload_n f1, 1, 0, 0, 0), (11, .iconst 0, 1, 0, 0, 0), (12, .iconst 3, 1, 3, 0, 0), (13, .invokestatic 77, 3, 20, 3, 1)],
  [(16, .ifCond .ne 10, 3, 26, 0, 0), (19, .aload_n f0, 1, 0, 0, 0), (20, .iconst 0, 1, 0, 0, 0), (21, .putfield 104, 3, 12, 16, 0), (24, .iconst (-1), 1, 4294967295, 0, 0), (25, .ireturn, 1, 0, 0, 0), (26, .aload_n f0, 1, 0, 0, 0), (27, .iconst 0, 1, 0, 0, 0), (28, .putfield 212, 3, 12, 21, 0), (31, .aload_n f0, 1, 0, 0, 0)],
  [(32, .iconst 0, 1, 0, 0, 0), (33, .putfield 107, 3, 12, 17, 0), (36, .aload_n f0, 1, 0, 0, 0), (37, .iload_n f1, 1, 0, 0, 0), (38, .putfield 155, 3, 12, 12, 0), (41, .aload_n f0, 1, 0, 0, 0), (42, .invokevirtual 221, 3, 156, 0, 48), (45, .iload_n f1, 1, 0, 0, 0), (46, .iconst 2, 1, 2, 0, 0), (47, .if_icmp .ge 10, 3, 57, 0, 0)],
  [(50, .aload_n f0, 1, 0, 0, 0), (51, .invokevirtual 288, 3, 168, 0, 49), (54, .goto 7, 3, 61, 0, 0), (57, .aload_n f0, 1, 0, 0, 0), (58, .invokevirtual 291, 3, 173, 0, 49), (61, .istore_n f2, 1, 0, 0, 0), (62, .aload_n f0, 1, 0, 0, 0), (63, .iconst 0, 1, 0, 0, 0)],
  [(64, .putfield 104, 3, 12, 16, 0), (67, .iload_n f2, 1, 0, 0, 0), (68, .ifCond .eq 33, 3, 101, 0, 0), (71, .iload_n f1, 1, 0, 0, 0), (72, .iconst 2, 1, 2, 0, 0), (73, .if_icmp .ge 11, 3, 84, 0, 0), (76, .aload_n f0, 1, 0, 0, 0), (77, .iload_n f1, 1, 0, 0, 0), (78, .invokevirtual 294, 3, 174, 1, 49)],
  [(81, .goto 19, 3, 100, 0, 0), (84, .iload_n f1, 1, 0, 0, 0), (85, .iconst 2, 1, 2, 0, 0), (86, .if_icmp .ne 10, 3, 96, 0, 0), (89, .aload_n f0, 1, 0, 0, 0), (90, .invokevirtual 297, 3, 175, 0, 49), (93, .goto 7, 3, 100, 0, 0)],
  [(96, .aload_n f0, 1, 0, 0, 0), (97, .invokevirtual 300, 3, 176, 0, 49), (100, .ireturn, 1, 0, 0, 0), (101, .aload_n f0, 1, 0, 0, 0), (102, .aload_n f0, 1, 0, 0, 0), (103, .getfield 212, 3, 12, 21, 0), (106, .putfield 285, 3, 12, 23, 0), (109, .aload_n f0, 1, 0, 0, 0), (110, .aload_n f0, 1, 0, 0, 0), (111, .getfield 215, 3, 12, 22, 0)],
  [(114, .putfield 40, 3, 12, 25, 0), (117, .iconst (-1), 1, 4294967295, 0, 0), (118, .ireturn, 1, 0, 0, 0)]]
/-- ToolUnion.fault(I)I -/
def cd_178 : List (List EEw) := [
  [(0, .iload_n f1, 1, 0, 0, 0), (1, .lookupswitch 43 #[(0, 27), (1, 35)], 27, 0, 44, 0)],
  [(28, .aload_n f0, 1, 0, 0, 0), (29, .getfield 33, 3, 11, 7, 1)],
  [(32, .getfield 243, 3, 7, 2, 0), (35, .ireturn, 1, 0, 0, 0), (36, .aload_n f0, 1, 0, 0, 0), (37, .getfield 33, 3, 11, 7, 1), (40, .getfield 246, 3, 7, 3, 0), (43, .ireturn, 1, 0, 0, 0), (44, .iconst (-1), 1, 4294967295, 0, 0), (45, .ireturn, 1, 0, 0, 0)]]
/-- ToolUnionModel.fault(I)I -/
def cd_179 : List (List EEw) := [
  [(0, .iload_n f1, 1, 0, 0, 0), (1, .ifCond .ne 10, 3, 11, 0, 0), (4, .aload_n f0, 1, 0, 0, 0), (5, .getfield 285, 3, 12, 23, 0), (8, .goto 16, 3, 24, 0, 0), (11, .iload_n f1, 1, 0, 0, 0), (12, .iconst 1, 1, 1, 0, 0), (13, .if_icmp .ne 10, 3, 23, 0, 0)],
  [(16, .aload_n f0, 1, 0, 0, 0), (17, .getfield 40, 3, 12, 25, 0), (20, .goto 4, 3, 24, 0, 0), (23, .iconst (-1), 1, 4294967295, 0, 0), (24, .ireturn, 1, 0, 0, 0)]]
/-- ToolUnion$Crew.allTools()I -/
def cd_180 : List (List EEw) := [
  [(0, .iconst 1, 1, 1, 0, 0), (1, .aload_n f0, 1, 0, 0, 0), (2, .getfield 37, 3, 0, 0, 0), (5, .ishl, 1, 0, 0, 0), (6, .iconst 1, 1, 1, 0, 0), (7, .isub, 1, 0, 0, 0), (8, .ireturn, 1, 0, 0, 0)]]
/-- ToolUnion$Crew.agrees(I)Z -/
def cd_181 : List (List EEw) := [
  [(0, .iconst 0, 1, 0, 0, 0), (1, .istore_n f2, 1, 0, 0, 0), (2, .iconst 0, 1, 0, 0, 0), (3, .istore_n f3, 1, 0, 0, 0), (4, .iload_n f3, 1, 0, 0, 0), (5, .bipush 8, 2, 8, 0, 0), (7, .if_icmp .ge 26, 3, 33, 0, 0), (10, .iload_n f1, 1, 0, 0, 0), (11, .iload_n f3, 1, 0, 0, 0), (12, .invokestatic 50, 3, 48, 2, 1), (15, .ifCond .eq 12, 3, 27, 0, 0)],
  [(18, .iload_n f2, 1, 0, 0, 0), (19, .aload_n f0, 1, 0, 0, 0), (20, .getfield 25, 3, 0, 7, 1), (23, .iload_n f3, 1, 0, 0, 0), (24, .iaload, 1, 0, 0, 0), (25, .iadd, 1, 0, 0, 0), (26, .istore_n f2, 1, 0, 0, 0), (27, .iinc 3 1, 3, 0, 0, 0), (30, .goto (-26), 3, 4, 0, 0)],
  [(33, .iload_n f2, 1, 0, 0, 0), (34, .aload_n f0, 1, 0, 0, 0), (35, .getfield 9, 3, 0, 3, 0), (38, .if_icmp .lt 7, 3, 45, 0, 0), (41, .iconst 1, 1, 1, 0, 0), (42, .goto 4, 3, 46, 0, 0), (45, .iconst 0, 1, 0, 0, 0), (46, .ireturn, 1, 0, 0, 1)]]
/-- java/lang/Integer.bitCount(I)I -/
def cd_182 : List (List EEw) := [
  [(0, .iload_n f0, 1, 0, 0, 0), (1, .iload_n f0, 1, 0, 0, 0), (2, .iconst 1, 1, 1, 0, 0), (3, .iushr, 1, 0, 0, 0), (4, .ldc_w 265, 3, 1431655765, 0, 0), (7, .iand, 1, 0, 0, 0), (8, .isub, 1, 0, 0, 0), (9, .istore_n f0, 1, 0, 0, 0), (10, .iload_n f0, 1, 0, 0, 0), (11, .ldc_w 266, 3, 858993459, 0, 0), (14, .iand, 1, 0, 0, 0), (15, .iload_n f0, 1, 0, 0, 0)],
  [(16, .iconst 2, 1, 2, 0, 0), (17, .iushr, 1, 0, 0, 0), (18, .ldc_w 266, 3, 858993459, 0, 0), (21, .iand, 1, 0, 0, 0), (22, .iadd, 1, 0, 0, 0), (23, .istore_n f0, 1, 0, 0, 0), (24, .iload_n f0, 1, 0, 0, 0), (25, .iload_n f0, 1, 0, 0, 0), (26, .iconst 4, 1, 4, 0, 0), (27, .iushr, 1, 0, 0, 0), (28, .iadd, 1, 0, 0, 0), (29, .ldc_w 267, 3, 252645135, 0, 0)],
  [(32, .iand, 1, 0, 0, 0), (33, .istore_n f0, 1, 0, 0, 0), (34, .iload_n f0, 1, 0, 0, 0), (35, .iload_n f0, 1, 0, 0, 0), (36, .bipush 8, 2, 8, 0, 0), (38, .iushr, 1, 0, 0, 0), (39, .iadd, 1, 0, 0, 0), (40, .istore_n f0, 1, 0, 0, 0), (41, .iload_n f0, 1, 0, 0, 0), (42, .iload_n f0, 1, 0, 0, 0), (43, .bipush 16, 2, 16, 0, 0), (45, .iushr, 1, 0, 0, 0), (46, .iadd, 1, 0, 0, 0), (47, .istore_n f0, 1, 0, 0, 0)],
  [(48, .iload_n f0, 1, 0, 0, 0), (49, .bipush 63, 2, 63, 0, 0), (51, .iand, 1, 0, 0, 0), (52, .ireturn, 1, 0, 0, 0)]]
/-- ToolUnion$Crew.ordersWith(I)I -/
def cd_183 : List (List EEw) := [
  [(0, .aload_n f0, 1, 0, 0, 0), (1, .getfield 37, 3, 0, 0, 0), (4, .iconst 1, 1, 1, 0, 0), (5, .isub, 1, 0, 0, 0), (6, .iload_n f1, 1, 0, 0, 0), (7, .isub, 1, 0, 0, 0), (8, .istore_n f2, 1, 0, 0, 0), (9, .getstatic 71, 3, 56, 0, 1), (12, .iload_n f1, 1, 0, 0, 0), (13, .bipush 7, 2, 7, 0, 0), (15, .iand, 1, 0, 0, 0)],
  [(16, .iaload, 1, 0, 0, 0), (17, .getstatic 71, 3, 56, 0, 1), (20, .iload_n f2, 1, 0, 0, 0), (21, .bipush 7, 2, 7, 0, 0), (23, .iand, 1, 0, 0, 0), (24, .iaload, 1, 0, 0, 0), (25, .imul, 1, 0, 0, 0), (26, .ireturn, 1, 0, 0, 0)]]
/-- ToolUnion$Crew.turns(IZ)I -/
def cd_184 : List (List EEw) := [
  [(0, .iconst 0, 1, 0, 0, 0), (1, .istore_n f3, 1, 0, 0, 0), (2, .iconst 1, 1, 1, 0, 0), (3, .iload_n f1, 1, 0, 0, 0), (4, .ishl, 1, 0, 0, 0), (5, .istore 4, 2, 0, 0, 0), (7, .iconst 0, 1, 0, 0, 0), (8, .istore 5, 2, 0, 0, 0), (10, .iload 5, 2, 0, 0, 0), (12, .aload_n f0, 1, 0, 0, 0), (13, .invokevirtual 54, 3, 180, 0, 1)],
  [(16, .if_icmp .gt 58, 3, 74, 0, 0), (19, .iload 5, 2, 0, 0, 0), (21, .iload 4, 2, 0, 0, 0), (23, .iand, 1, 0, 0, 0), (24, .ifCond .ne 44, 3, 68, 0, 0), (27, .aload_n f0, 1, 0, 0, 0), (28, .iload 5, 2, 0, 0, 0), (30, .invokevirtual 58, 3, 181, 1, 1)],
  [(33, .ifCond .ne 35, 3, 68, 0, 0), (36, .aload_n f0, 1, 0, 0, 0), (37, .iload 5, 2, 0, 0, 0), (39, .iload 4, 2, 0, 0, 0), (41, .ior, 1, 0, 0, 0), (42, .invokevirtual 58, 3, 181, 1, 1), (45, .ifCond .eq 23, 3, 68, 0, 0)],
  [(48, .iload_n f3, 1, 0, 0, 0), (49, .iload_n f2, 1, 0, 0, 0), (50, .ifCond .eq 15, 3, 65, 0, 0), (53, .aload_n f0, 1, 0, 0, 0), (54, .iload 5, 2, 0, 0, 0), (56, .invokestatic 62, 3, 182, 1, 1), (59, .invokevirtual 68, 3, 183, 1, 1), (62, .goto 4, 3, 66, 0, 0)],
  [(65, .iconst 1, 1, 1, 0, 0), (66, .iadd, 1, 0, 0, 0), (67, .istore_n f3, 1, 0, 0, 0), (68, .iinc 5 1, 3, 0, 0, 0), (71, .goto (-61), 3, 10, 0, 0), (74, .iload_n f3, 1, 0, 0, 0), (75, .ireturn, 1, 0, 0, 0)]]
/-- ToolUnion$Judge.toolsServing(LToolUnion$Yard;I)I -/
def cd_185 : List (List EEw) := [
  [(0, .iconst 0, 1, 0, 0, 0), (1, .istore_n f3, 1, 0, 0, 0), (2, .iconst 0, 1, 0, 0, 0), (3, .istore 4, 2, 0, 0, 0), (5, .iload 4, 2, 0, 0, 0), (7, .aload_n f1, 1, 0, 0, 0), (8, .getfield 23, 3, 10, 0, 1), (11, .getfield 136, 3, 0, 0, 0), (14, .if_icmp .ge 38, 3, 52, 0, 0)],
  [(17, .iload 4, 2, 0, 0, 0), (19, .bipush 8, 2, 8, 0, 0), (21, .if_icmp .ge 31, 3, 52, 0, 0), (24, .aload_n f0, 1, 0, 0, 0), (25, .aload_n f1, 1, 0, 0, 0), (26, .aload_n f1, 1, 0, 0, 0), (27, .getfield 139, 3, 10, 1, 1), (30, .iload 4, 2, 0, 0, 0)],
  [(32, .iload_n f2, 1, 0, 0, 0), (33, .invokevirtual 143, 3, 65, 4, 9), (36, .ifCond .eq 10, 3, 46, 0, 0), (39, .iload_n f3, 1, 0, 0, 0), (40, .iconst 1, 1, 1, 0, 0), (41, .iload 4, 2, 0, 0, 0), (43, .ishl, 1, 0, 0, 0), (44, .ior, 1, 0, 0, 0), (45, .istore_n f3, 1, 0, 0, 0), (46, .iinc 4 1, 3, 0, 0, 0)],
  [(49, .goto (-44), 3, 5, 0, 0), (52, .iload_n f3, 1, 0, 0, 0), (53, .ireturn, 1, 0, 0, 0)]]
/-- ToolUnion$Mates.nextToAsk()I -/
def cd_186 : List (List EEw) := [
  [(0, .iconst 0, 1, 0, 0, 0), (1, .istore_n f1, 1, 0, 0, 0), (2, .iload_n f1, 1, 0, 0, 0), (3, .iconst 4, 1, 4, 0, 0), (4, .if_icmp .ge 30, 3, 34, 0, 0), (7, .aload_n f0, 1, 0, 0, 0), (8, .getfield 15, 3, 4, 1, 1), (11, .iload_n f1, 1, 0, 0, 0), (12, .iaload, 1, 0, 0, 0), (13, .iconst (-1), 1, 4294967295, 0, 0), (14, .if_icmp .ne 14, 3, 28, 0, 0)],
  [(17, .aload_n f0, 1, 0, 0, 0), (18, .getfield 18, 3, 4, 2, 1), (21, .iload_n f1, 1, 0, 0, 0), (22, .iaload, 1, 0, 0, 0), (23, .ifCond .eq 5, 3, 28, 0, 0), (26, .iload_n f1, 1, 0, 0, 0), (27, .ireturn, 1, 0, 0, 0), (28, .iinc 1 1, 3, 0, 0, 0), (31, .goto (-29), 3, 2, 0, 0)],
  [(34, .iconst (-1), 1, 4294967295, 0, 0), (35, .ireturn, 1, 0, 0, 0)]]
/-- ToolUnion$Mates.sharpest(LToolUnion$Moves;I)I -/
def cd_187 : List (List EEw) := [
  [(0, .iconst (-1), 1, 4294967295, 0, 0), (1, .istore_n f2, 1, 0, 0, 0), (2, .iconst 0, 1, 0, 0, 0), (3, .istore_n f3, 1, 0, 0, 0), (4, .iload_n f3, 1, 0, 0, 0), (5, .bipush 8, 2, 8, 0, 0), (7, .if_icmp .ge 39, 3, 46, 0, 0), (10, .iload_n f1, 1, 0, 0, 0), (11, .iload_n f3, 1, 0, 0, 0), (12, .invokestatic 66, 3, 48, 2, 1), (15, .ifCond .eq 25, 3, 40, 0, 0)],
  [(18, .iload_n f2, 1, 0, 0, 0), (19, .iconst (-1), 1, 4294967295, 0, 0), (20, .if_icmp .eq 18, 3, 38, 0, 0), (23, .aload_n f0, 1, 0, 0, 0), (24, .getfield 70, 3, 5, 0, 1), (27, .iload_n f3, 1, 0, 0, 0), (28, .iaload, 1, 0, 0, 0), (29, .aload_n f0, 1, 0, 0, 0), (30, .getfield 70, 3, 5, 0, 1)],
  [(33, .iload_n f2, 1, 0, 0, 0), (34, .iaload, 1, 0, 0, 0), (35, .if_icmp .le 5, 3, 40, 0, 0), (38, .iload_n f3, 1, 0, 0, 0), (39, .istore_n f2, 1, 0, 0, 0), (40, .iinc 3 1, 3, 0, 0, 0), (43, .goto (-39), 3, 4, 0, 0), (46, .iload_n f2, 1, 0, 0, 0), (47, .ireturn, 1, 0, 0, 0)]]
/-- ToolUnion$Mates.rather(LToolUnion$Yard;LToolUnion$Judge;III)Z -/
def cd_188 : List (List EEw) := [
  [(0, .aload_n f2, 1, 0, 0, 0), (1, .aload_n f1, 1, 0, 0, 0), (2, .aload_n f1, 1, 0, 0, 0), (3, .getfield 50, 3, 10, 1, 1), (6, .iload_n f3, 1, 0, 0, 0), (7, .iload 4, 2, 0, 0, 0), (9, .iconst 2, 1, 2, 0, 0), (10, .invokevirtual 62, 3, 67, 5, 9), (13, .istore 6, 2, 0, 0, 0), (15, .aload_n f2, 1, 0, 0, 0)],
  [(16, .aload_n f1, 1, 0, 0, 0), (17, .aload_n f1, 1, 0, 0, 0), (18, .getfield 50, 3, 10, 1, 1), (21, .iload_n f3, 1, 0, 0, 0), (22, .iload 5, 2, 0, 0, 0), (24, .iconst 2, 1, 2, 0, 0), (25, .invokevirtual 62, 3, 67, 5, 9), (28, .istore 7, 2, 0, 0, 0), (30, .iload 6, 2, 0, 0, 0)],
  [(32, .iload 7, 2, 0, 0, 0), (34, .if_icmp .gt 17, 3, 51, 0, 0), (37, .iload 6, 2, 0, 0, 0), (39, .iload 7, 2, 0, 0, 0), (41, .if_icmp .ne 14, 3, 55, 0, 0), (44, .iload 4, 2, 0, 0, 0), (46, .iload 5, 2, 0, 0, 0)],
  [(48, .if_icmp .ge 7, 3, 55, 0, 0), (51, .iconst 1, 1, 1, 0, 0), (52, .goto 4, 3, 56, 0, 0), (55, .iconst 0, 1, 0, 0, 0), (56, .ireturn, 1, 0, 0, 1)]]
/-- ToolUnion$Mates.ask(LToolUnion$Yard;LToolUnion$Judge;I)V -/
def cd_189 : List (List EEw) := [
  [(0, .aload_n f1, 1, 0, 0, 0), (1, .getfield 50, 3, 10, 1, 1), (4, .aload_n f0, 1, 0, 0, 0), (5, .getfield 18, 3, 4, 2, 1), (8, .iload_n f3, 1, 0, 0, 0), (9, .iaload, 1, 0, 0, 0), (10, .invokestatic 54, 3, 187, 2, 1), (13, .istore 4, 2, 0, 0, 0), (15, .iload 4, 2, 0, 0, 0)],
  [(17, .iconst (-1), 1, 4294967295, 0, 0), (18, .if_icmp .ne 4, 3, 22, 0, 0), (21, .return_, 1, 0, 0, 0), (22, .aload_n f0, 1, 0, 0, 0), (23, .getfield 18, 3, 4, 2, 1), (26, .iload_n f3, 1, 0, 0, 0), (27, .dup2, 1, 0, 0, 0), (28, .iaload, 1, 0, 0, 0), (29, .iconst 1, 1, 1, 0, 0), (30, .iload 4, 2, 0, 0, 0)],
  [(32, .ishl, 1, 0, 0, 0), (33, .iconst (-1), 1, 4294967295, 0, 0), (34, .ixor, 1, 0, 0, 0), (35, .iand, 1, 0, 0, 0), (36, .iastore, 1, 0, 0, 0), (37, .aload_n f0, 1, 0, 0, 0), (38, .getfield 9, 3, 4, 0, 1), (41, .iload 4, 2, 0, 0, 0), (43, .iaload, 1, 0, 0, 0), (44, .istore 5, 2, 0, 0, 0), (46, .iload 5, 2, 0, 0, 0)],
  [(48, .ifCond .lt 32, 3, 80, 0, 0), (51, .iload 5, 2, 0, 0, 0), (53, .iconst 4, 1, 4, 0, 0), (54, .if_icmp .ge 26, 3, 80, 0, 0), (57, .aload_n f0, 1, 0, 0, 0), (58, .aload_n f1, 1, 0, 0, 0), (59, .aload_n f2, 1, 0, 0, 0), (60, .iload 4, 2, 0, 0, 0), (62, .iload_n f3, 1, 0, 0, 0), (63, .iload 5, 2, 0, 0, 0)],
  [(65, .invokevirtual 58, 3, 188, 5, 17), (68, .ifCond .ne 4, 3, 72, 0, 0), (71, .return_, 1, 0, 0, 0), (72, .aload_n f0, 1, 0, 0, 0), (73, .getfield 15, 3, 4, 1, 1), (76, .iload 5, 2, 0, 0, 0), (78, .iconst (-1), 1, 4294967295, 0, 0), (79, .iastore, 1, 0, 0, 0)],
  [(80, .aload_n f0, 1, 0, 0, 0), (81, .getfield 9, 3, 4, 0, 1), (84, .iload 4, 2, 0, 0, 0), (86, .iload_n f3, 1, 0, 0, 0), (87, .iastore, 1, 0, 0, 0), (88, .aload_n f0, 1, 0, 0, 0), (89, .getfield 15, 3, 4, 1, 1), (92, .iload_n f3, 1, 0, 0, 0), (93, .iload 4, 2, 0, 0, 0), (95, .iastore, 1, 0, 0, 0)],
  [(96, .return_, 1, 0, 0, 0)]]
/-- ToolUnion$Mates.match(LToolUnion$Yard;LToolUnion$Judge;)V -/
def cd_190 : List (List EEw) := [
  [(0, .iconst 0, 1, 0, 0, 0), (1, .istore_n f3, 1, 0, 0, 0), (2, .iload_n f3, 1, 0, 0, 0), (3, .bipush 8, 2, 8, 0, 0), (5, .if_icmp .ge 16, 3, 21, 0, 0), (8, .aload_n f0, 1, 0, 0, 0), (9, .getfield 9, 3, 4, 0, 1), (12, .iload_n f3, 1, 0, 0, 0), (13, .iconst (-1), 1, 4294967295, 0, 0), (14, .iastore, 1, 0, 0, 0), (15, .iinc 3 1, 3, 0, 0, 0)],
  [(18, .goto (-16), 3, 2, 0, 0), (21, .iconst 0, 1, 0, 0, 0), (22, .istore_n f3, 1, 0, 0, 0), (23, .iload_n f3, 1, 0, 0, 0), (24, .iconst 4, 1, 4, 0, 0), (25, .if_icmp .ge 43, 3, 68, 0, 0), (28, .aload_n f0, 1, 0, 0, 0), (29, .getfield 15, 3, 4, 1, 1)],
  [(32, .iload_n f3, 1, 0, 0, 0), (33, .iconst (-1), 1, 4294967295, 0, 0), (34, .iastore, 1, 0, 0, 0), (35, .aload_n f0, 1, 0, 0, 0), (36, .getfield 18, 3, 4, 2, 1), (39, .iload_n f3, 1, 0, 0, 0), (40, .iload_n f3, 1, 0, 0, 0), (41, .aload_n f1, 1, 0, 0, 0), (42, .getfield 24, 3, 10, 0, 1), (45, .getfield 30, 3, 0, 1, 0)],
  [(48, .if_icmp .ge 12, 3, 60, 0, 0), (51, .aload_n f2, 1, 0, 0, 0), (52, .aload_n f1, 1, 0, 0, 0), (53, .iload_n f3, 1, 0, 0, 0), (54, .invokevirtual 36, 3, 185, 2, 9), (57, .goto 4, 3, 61, 0, 0), (60, .iconst 0, 1, 0, 0, 0), (61, .iastore, 1, 0, 0, 0), (62, .iinc 3 1, 3, 0, 0, 0)],
  [(65, .goto (-42), 3, 23, 0, 0), (68, .iconst 0, 1, 0, 0, 0), (69, .istore_n f3, 1, 0, 0, 0), (70, .iload_n f3, 1, 0, 0, 0), (71, .bipush 32, 2, 32, 0, 0), (73, .if_icmp .ge 30, 3, 103, 0, 0), (76, .aload_n f0, 1, 0, 0, 0), (77, .invokevirtual 42, 3, 186, 0, 17)],
  [(80, .istore 4, 2, 0, 0, 0), (82, .iload 4, 2, 0, 0, 0), (84, .iconst (-1), 1, 4294967295, 0, 0), (85, .if_icmp .ne 4, 3, 89, 0, 0), (88, .return_, 1, 0, 0, 0), (89, .aload_n f0, 1, 0, 0, 0), (90, .aload_n f1, 1, 0, 0, 0), (91, .aload_n f2, 1, 0, 0, 0), (92, .iload 4, 2, 0, 0, 0), (94, .invokevirtual 46, 3, 189, 3, 16)],
  [(97, .iinc 3 1, 3, 0, 0, 0), (100, .goto (-30), 3, 70, 0, 0), (103, .return_, 1, 0, 0, 0)]]
/-- ToolUnion.of(II)I -/
def cd_191_0 : List (List EEw) := [
  [(0, .aload_n f0, 1, 0, 0, 0), (1, .iload_n f1, 1, 0, 0, 0), (2, .invokevirtual 125, 3, 25, 1, 45), (5, .ifCond .ne 6, 3, 11, 0, 0), (8, .bipush (-2), 2, 4294967294, 0, 0), (10, .ireturn, 1, 0, 0, 0), (11, .iload_n f2, 1, 0, 0, 0), (12, .tableswitch 232 0 11 #[64, 77, 90, 103, 116, 129, 142, 155, 168, 181, 194, 207], 64, 0, 244, 0)],
  [],
  [],
  [],
  [(76, .aload_n f0, 1, 0, 0, 0), (77, .getfield 10, 3, 11, 0, 1)],
  [(80, .getfield 75, 3, 10, 0, 1), (83, .getfield 88, 3, 0, 4, 1), (86, .iload_n f1, 1, 0, 0, 0), (87, .iaload, 1, 0, 0, 0), (88, .ireturn, 1, 0, 0, 0), (89, .aload_n f0, 1, 0, 0, 0), (90, .getfield 10, 3, 11, 0, 1), (93, .getfield 75, 3, 10, 0, 1)],
  [(96, .getfield 92, 3, 0, 5, 1), (99, .iload_n f1, 1, 0, 0, 0), (100, .iaload, 1, 0, 0, 0), (101, .ireturn, 1, 0, 0, 0), (102, .aload_n f0, 1, 0, 0, 0), (103, .getfield 10, 3, 11, 0, 1), (106, .getfield 75, 3, 10, 0, 1), (109, .getfield 95, 3, 0, 6, 1)],
  [(112, .iload_n f1, 1, 0, 0, 0), (113, .iaload, 1, 0, 0, 0), (114, .ireturn, 1, 0, 0, 0), (115, .aload_n f0, 1, 0, 0, 0), (116, .getfield 10, 3, 11, 0, 1), (119, .getfield 65, 3, 10, 1, 1), (122, .getfield 132, 3, 5, 0, 1), (125, .iload_n f1, 1, 0, 0, 0), (126, .iaload, 1, 0, 0, 0), (127, .ireturn, 1, 0, 0, 0)],
  [(128, .aload_n f0, 1, 0, 0, 0), (129, .getfield 10, 3, 11, 0, 1), (132, .getfield 65, 3, 10, 1, 1), (135, .getfield 135, 3, 5, 1, 1), (138, .iload_n f1, 1, 0, 0, 0), (139, .iaload, 1, 0, 0, 0), (140, .ireturn, 1, 0, 0, 0), (141, .aload_n f0, 1, 0, 0, 0), (142, .getfield 10, 3, 11, 0, 1)],
  [(145, .getfield 75, 3, 10, 0, 1), (148, .getfield 98, 3, 0, 7, 1), (151, .iload_n f1, 1, 0, 0, 0), (152, .iaload, 1, 0, 0, 0), (153, .ireturn, 1, 0, 0, 0), (154, .aload_n f0, 1, 0, 0, 0), (155, .getfield 10, 3, 11, 0, 1), (158, .getfield 75, 3, 10, 0, 1)],
  [(161, .getfield 101, 3, 0, 8, 1), (164, .iload_n f1, 1, 0, 0, 0), (165, .iaload, 1, 0, 0, 0), (166, .ireturn, 1, 0, 0, 0), (167, .aload_n f0, 1, 0, 0, 0), (168, .getfield 10, 3, 11, 0, 1), (171, .getfield 65, 3, 10, 1, 1), (174, .getfield 249, 3, 5, 2, 1)],
  [(177, .iload_n f1, 1, 0, 0, 0), (178, .iaload, 1, 0, 0, 0), (179, .ireturn, 1, 0, 0, 0), (180, .aload_n f0, 1, 0, 0, 0), (181, .getfield 10, 3, 11, 0, 1), (184, .getfield 65, 3, 10, 1, 1), (187, .getfield 252, 3, 5, 3, 1), (190, .iload_n f1, 1, 0, 0, 0), (191, .iaload, 1, 0, 0, 0)]]
def cd_191_1 : List (List EEw) := [
  [(192, .ireturn, 1, 0, 0, 0), (193, .aload_n f0, 1, 0, 0, 0), (194, .getfield 10, 3, 11, 0, 1), (197, .getfield 75, 3, 10, 0, 1), (200, .iload_n f1, 1, 0, 0, 0), (201, .iconst 0, 1, 0, 0, 0), (202, .invokevirtual 255, 3, 184, 2, 1), (205, .ireturn, 1, 0, 0, 0), (206, .aload_n f0, 1, 0, 0, 0), (207, .getfield 10, 3, 11, 0, 1)],
  [(210, .getfield 75, 3, 10, 0, 1), (213, .iload_n f1, 1, 0, 0, 0), (214, .iconst 1, 1, 1, 0, 0), (215, .invokevirtual 255, 3, 184, 2, 1), (218, .ireturn, 1, 0, 0, 0), (219, .aload_n f0, 1, 0, 0, 0), (220, .getfield 61, 3, 11, 11, 1), (223, .aload_n f0, 1, 0, 0, 0)],
  [(224, .getfield 10, 3, 11, 0, 1), (227, .aload_n f0, 1, 0, 0, 0), (228, .getfield 40, 3, 11, 8, 1), (231, .invokevirtual 259, 3, 190, 2, 16), (234, .aload_n f0, 1, 0, 0, 0), (235, .getfield 61, 3, 11, 11, 1), (238, .getfield 263, 3, 4, 0, 1)],
  [(241, .iload_n f1, 1, 0, 0, 0), (242, .iaload, 1, 0, 0, 0), (243, .ireturn, 1, 0, 0, 0), (244, .bipush (-2), 2, 4294967294, 0, 0), (246, .ireturn, 1, 0, 0, 0)]]
def cd_191 : List (List EEw) := cd_191_0 ++ (cd_191_1)
/-- ToolUnionModel.votesOf(I)I -/
def cd_192 : List (List EEw) := [
  [(0, .iconst 0, 1, 0, 0, 0), (1, .istore_n f2, 1, 0, 0, 0), (2, .iconst 0, 1, 0, 0, 0), (3, .istore_n f3, 1, 0, 0, 0), (4, .iload_n f3, 1, 0, 0, 0), (5, .aload_n f0, 1, 0, 0, 0), (6, .getfield 7, 3, 12, 0, 1), (9, .bipush 96, 2, 96, 0, 0), (11, .iaload, 1, 0, 0, 0), (12, .if_icmp .ge 31, 3, 43, 0, 0), (15, .iload_n f2, 1, 0, 0, 0)],
  [(16, .iload_n f1, 1, 0, 0, 0), (17, .iload_n f3, 1, 0, 0, 0), (18, .ishr, 1, 0, 0, 0), (19, .iconst 1, 1, 1, 0, 0), (20, .iand, 1, 0, 0, 0), (21, .iconst 1, 1, 1, 0, 0), (22, .if_icmp .ne 12, 3, 34, 0, 0), (25, .aload_n f0, 1, 0, 0, 0), (26, .iload_n f3, 1, 0, 0, 0), (27, .iconst 5, 1, 5, 0, 0), (28, .invokevirtual 313, 3, 44, 2, 49), (31, .goto 4, 3, 35, 0, 0)],
  [(34, .iconst 0, 1, 0, 0, 0), (35, .iadd, 1, 0, 0, 0), (36, .istore_n f2, 1, 0, 0, 0), (37, .iinc 3 1, 3, 0, 0, 0), (40, .goto (-36), 3, 4, 0, 0), (43, .iload_n f2, 1, 0, 0, 0), (44, .ireturn, 1, 0, 0, 0)]]
/-- ToolUnionModel.isAgreed(I)Z -/
def cd_193 : List (List EEw) := [
  [(0, .aload_n f0, 1, 0, 0, 0), (1, .iload_n f1, 1, 0, 0, 0), (2, .invokevirtual 453, 3, 192, 1, 49), (5, .aload_n f0, 1, 0, 0, 0), (6, .getfield 7, 3, 12, 0, 1), (9, .bipush 103, 2, 103, 0, 0), (11, .iaload, 1, 0, 0, 0), (12, .if_icmp .lt 7, 3, 19, 0, 0), (15, .iconst 1, 1, 1, 0, 0)],
  [(16, .goto 4, 3, 20, 0, 0), (19, .iconst 0, 1, 0, 0, 0), (20, .ireturn, 1, 0, 0, 1)]]
/-- ToolUnionModel.isSwing(II)Z -/
def cd_194 : List (List EEw) := [
  [(0, .iload_n f2, 1, 0, 0, 0), (1, .iload_n f1, 1, 0, 0, 0), (2, .ishr, 1, 0, 0, 0), (3, .iconst 1, 1, 1, 0, 0), (4, .iand, 1, 0, 0, 0), (5, .ifCond .ne 27, 3, 32, 0, 0), (8, .aload_n f0, 1, 0, 0, 0), (9, .iload_n f2, 1, 0, 0, 0), (10, .invokevirtual 456, 3, 193, 1, 49), (13, .ifCond .ne 19, 3, 32, 0, 0)],
  [(16, .aload_n f0, 1, 0, 0, 0), (17, .iload_n f2, 1, 0, 0, 0), (18, .iconst 1, 1, 1, 0, 0), (19, .iload_n f1, 1, 0, 0, 0), (20, .ishl, 1, 0, 0, 0), (21, .ior, 1, 0, 0, 0), (22, .invokevirtual 456, 3, 193, 1, 49), (25, .ifCond .eq 7, 3, 32, 0, 0), (28, .iconst 1, 1, 1, 0, 0), (29, .goto 4, 3, 33, 0, 0)],
  [(32, .iconst 0, 1, 0, 0, 0), (33, .ireturn, 1, 0, 0, 1)]]
/-- ToolUnionModel.swings(I)I -/
def cd_195 : List (List EEw) := [
  [(0, .iconst 0, 1, 0, 0, 0), (1, .istore_n f2, 1, 0, 0, 0), (2, .iconst 0, 1, 0, 0, 0), (3, .istore_n f3, 1, 0, 0, 0), (4, .iload_n f3, 1, 0, 0, 0), (5, .iconst 1, 1, 1, 0, 0), (6, .aload_n f0, 1, 0, 0, 0), (7, .getfield 7, 3, 12, 0, 1), (10, .bipush 96, 2, 96, 0, 0), (12, .iaload, 1, 0, 0, 0), (13, .ishl, 1, 0, 0, 0), (14, .if_icmp .ge 26, 3, 40, 0, 0)],
  [(17, .iload_n f2, 1, 0, 0, 0), (18, .aload_n f0, 1, 0, 0, 0), (19, .iload_n f1, 1, 0, 0, 0), (20, .iload_n f3, 1, 0, 0, 0), (21, .invokevirtual 462, 3, 194, 2, 49), (24, .ifCond .eq 7, 3, 31, 0, 0), (27, .iconst 1, 1, 1, 0, 0), (28, .goto 4, 3, 32, 0, 0), (31, .iconst 0, 1, 0, 0, 0)],
  [(32, .iadd, 1, 0, 0, 0), (33, .istore_n f2, 1, 0, 0, 0), (34, .iinc 3 1, 3, 0, 0, 0), (37, .goto (-33), 3, 4, 0, 0), (40, .iload_n f2, 1, 0, 0, 0), (41, .ireturn, 1, 0, 0, 0)]]
/-- ToolUnionModel.count(I)I -/
def cd_196 : List (List EEw) := [
  [(0, .iconst 0, 1, 0, 0, 0), (1, .istore_n f1, 1, 0, 0, 0), (2, .iconst 0, 1, 0, 0, 0), (3, .istore_n f2, 1, 0, 0, 0), (4, .iload_n f2, 1, 0, 0, 0), (5, .bipush 8, 2, 8, 0, 0), (7, .if_icmp .ge 17, 3, 24, 0, 0), (10, .iload_n f1, 1, 0, 0, 0), (11, .iload_n f0, 1, 0, 0, 0), (12, .iload_n f2, 1, 0, 0, 0), (13, .ishr, 1, 0, 0, 0), (14, .iconst 1, 1, 1, 0, 0), (15, .iand, 1, 0, 0, 0)],
  [(16, .iadd, 1, 0, 0, 0), (17, .istore_n f1, 1, 0, 0, 0), (18, .iinc 2 1, 3, 0, 0, 0), (21, .goto (-17), 3, 4, 0, 0), (24, .iload_n f1, 1, 0, 0, 0), (25, .ireturn, 1, 0, 0, 0)]]
/-- ToolUnionModel.orders1(I)I -/
def cd_197 : List (List EEw) := [
  [(0, .iload_n f0, 1, 0, 0, 0), (1, .iconst 2, 1, 2, 0, 0), (2, .if_icmp .ge 7, 3, 9, 0, 0), (5, .iconst 1, 1, 1, 0, 0), (6, .goto 11, 3, 17, 0, 0), (9, .iload_n f0, 1, 0, 0, 0), (10, .iload_n f0, 1, 0, 0, 0), (11, .iconst 1, 1, 1, 0, 0), (12, .isub, 1, 0, 0, 0), (13, .invokestatic 459, 3, 197, 1, 1)],
  [(16, .imul, 1, 0, 0, 0), (17, .ireturn, 1, 0, 0, 0)]]
/-- ToolUnionModel.power(I)I -/
def cd_198 : List (List EEw) := [
  [(0, .iconst 0, 1, 0, 0, 0), (1, .istore_n f2, 1, 0, 0, 0), (2, .iconst 0, 1, 0, 0, 0), (3, .istore_n f3, 1, 0, 0, 0), (4, .iload_n f3, 1, 0, 0, 0), (5, .iconst 1, 1, 1, 0, 0), (6, .aload_n f0, 1, 0, 0, 0), (7, .getfield 7, 3, 12, 0, 1), (10, .bipush 96, 2, 96, 0, 0), (12, .iaload, 1, 0, 0, 0), (13, .ishl, 1, 0, 0, 0), (14, .if_icmp .ge 50, 3, 64, 0, 0)],
  [(17, .iload_n f2, 1, 0, 0, 0), (18, .aload_n f0, 1, 0, 0, 0), (19, .iload_n f1, 1, 0, 0, 0), (20, .iload_n f3, 1, 0, 0, 0), (21, .invokevirtual 462, 3, 194, 2, 49), (24, .ifCond .eq 31, 3, 55, 0, 0), (27, .iload_n f3, 1, 0, 0, 0), (28, .invokestatic 402, 3, 196, 1, 1), (31, .invokestatic 459, 3, 197, 1, 1)],
  [(34, .aload_n f0, 1, 0, 0, 0), (35, .getfield 7, 3, 12, 0, 1), (38, .bipush 96, 2, 96, 0, 0), (40, .iaload, 1, 0, 0, 0), (41, .iconst 1, 1, 1, 0, 0), (42, .isub, 1, 0, 0, 0), (43, .iload_n f3, 1, 0, 0, 0), (44, .invokestatic 402, 3, 196, 1, 1), (47, .isub, 1, 0, 0, 0)],
  [(48, .invokestatic 459, 3, 197, 1, 1), (51, .imul, 1, 0, 0, 0), (52, .goto 4, 3, 56, 0, 0), (55, .iconst 0, 1, 0, 0, 0), (56, .iadd, 1, 0, 0, 0), (57, .istore_n f2, 1, 0, 0, 0), (58, .iinc 3 1, 3, 0, 0, 0), (61, .goto (-57), 3, 4, 0, 0)],
  [(64, .iload_n f2, 1, 0, 0, 0), (65, .ireturn, 1, 0, 0, 0)]]
/-- ToolUnionModel.bestTool(I)I -/
def cd_199 : List (List EEw) := [
  [(0, .iconst (-1), 1, 4294967295, 0, 0), (1, .istore_n f2, 1, 0, 0, 0), (2, .iconst 0, 1, 0, 0, 0), (3, .istore_n f3, 1, 0, 0, 0), (4, .iload_n f3, 1, 0, 0, 0), (5, .aload_n f0, 1, 0, 0, 0), (6, .getfield 7, 3, 12, 0, 1), (9, .bipush 96, 2, 96, 0, 0), (11, .iaload, 1, 0, 0, 0), (12, .if_icmp .ge 53, 3, 65, 0, 0), (15, .aload_n f0, 1, 0, 0, 0)],
  [(16, .getfield 61, 3, 12, 36, 1), (19, .iload_n f1, 1, 0, 0, 0), (20, .iaload, 1, 0, 0, 0), (21, .iload_n f3, 1, 0, 0, 0), (22, .ishr, 1, 0, 0, 0), (23, .iconst 1, 1, 1, 0, 0), (24, .iand, 1, 0, 0, 0), (25, .ifCond .ne 34, 3, 59, 0, 0), (28, .aload_n f0, 1, 0, 0, 0), (29, .iload_n f3, 1, 0, 0, 0), (30, .iload_n f1, 1, 0, 0, 0), (31, .invokevirtual 361, 3, 87, 2, 49)],
  [(34, .ifCond .eq 25, 3, 59, 0, 0), (37, .iload_n f2, 1, 0, 0, 0), (38, .iconst (-1), 1, 4294967295, 0, 0), (39, .if_icmp .eq 18, 3, 57, 0, 0), (42, .aload_n f0, 1, 0, 0, 0), (43, .iload_n f3, 1, 0, 0, 0), (44, .iconst 3, 1, 3, 0, 0), (45, .invokevirtual 313, 3, 44, 2, 49)],
  [(48, .aload_n f0, 1, 0, 0, 0), (49, .iload_n f2, 1, 0, 0, 0), (50, .iconst 3, 1, 3, 0, 0), (51, .invokevirtual 313, 3, 44, 2, 49), (54, .if_icmp .le 5, 3, 59, 0, 0), (57, .iload_n f3, 1, 0, 0, 0), (58, .istore_n f2, 1, 0, 0, 0), (59, .iinc 3 1, 3, 0, 0, 0), (62, .goto (-58), 3, 4, 0, 0)],
  [(65, .iload_n f2, 1, 0, 0, 0), (66, .ireturn, 1, 0, 0, 0)]]
/-- ToolUnionModel.likeOf(II)I -/
def cd_200 : List (List EEw) := [
  [(0, .aload_n f0, 1, 0, 0, 0), (1, .iload_n f1, 1, 0, 0, 0), (2, .iload_n f2, 1, 0, 0, 0), (3, .invokevirtual 316, 3, 81, 2, 48), (6, .aload_n f0, 1, 0, 0, 0), (7, .bipush 24, 2, 24, 0, 0), (9, .iconst 0, 1, 0, 0, 0), (10, .sipush (-999), 3, 4294966297, 0, 0), (13, .sipush 999, 3, 999, 0, 0)],
  [(16, .invokevirtual 333, 3, 89, 4, 49), (19, .ireturn, 1, 0, 0, 0)]]
/-- ToolUnionModel.isRather(III)Z -/
def cd_201 : List (List EEw) := [
  [(0, .aload_n f0, 1, 0, 0, 0), (1, .iload_n f1, 1, 0, 0, 0), (2, .iload_n f2, 1, 0, 0, 0), (3, .invokevirtual 465, 3, 200, 2, 49), (6, .istore 4, 2, 0, 0, 0), (8, .aload_n f0, 1, 0, 0, 0), (9, .iload_n f1, 1, 0, 0, 0), (10, .iload_n f3, 1, 0, 0, 0), (11, .invokevirtual 465, 3, 200, 2, 49), (14, .istore 5, 2, 0, 0, 0)],
  [(16, .iload 4, 2, 0, 0, 0), (18, .iload 5, 2, 0, 0, 0), (20, .if_icmp .gt 15, 3, 35, 0, 0), (23, .iload 4, 2, 0, 0, 0), (25, .iload 5, 2, 0, 0, 0), (27, .if_icmp .ne 12, 3, 39, 0, 0), (30, .iload_n f2, 1, 0, 0, 0), (31, .iload_n f3, 1, 0, 0, 0)],
  [(32, .if_icmp .ge 7, 3, 39, 0, 0), (35, .iconst 1, 1, 1, 0, 0), (36, .goto 4, 3, 40, 0, 0), (39, .iconst 0, 1, 0, 0, 0), (40, .ireturn, 1, 0, 0, 1)]]
/-- ToolUnionModel.asksFor(I)V -/
def cd_202 : List (List EEw) := [
  [(0, .iload_n f1, 1, 0, 0, 0), (1, .istore_n f2, 1, 0, 0, 0), (2, .iload_n f2, 1, 0, 0, 0), (3, .iconst (-1), 1, 4294967295, 0, 0), (4, .if_icmp .eq 65, 3, 69, 0, 0), (7, .aload_n f0, 1, 0, 0, 0), (8, .iload_n f2, 1, 0, 0, 0), (9, .invokevirtual 468, 3, 199, 1, 49), (12, .istore_n f3, 1, 0, 0, 0), (13, .iload_n f3, 1, 0, 0, 0), (14, .iconst (-1), 1, 4294967295, 0, 0), (15, .if_icmp .ne 4, 3, 19, 0, 0)],
  [(18, .return_, 1, 0, 0, 0), (19, .aload_n f0, 1, 0, 0, 0), (20, .getfield 61, 3, 12, 36, 1), (23, .iload_n f2, 1, 0, 0, 0), (24, .dup2, 1, 0, 0, 0), (25, .iaload, 1, 0, 0, 0), (26, .iconst 1, 1, 1, 0, 0), (27, .iload_n f3, 1, 0, 0, 0), (28, .ishl, 1, 0, 0, 0), (29, .ior, 1, 0, 0, 0), (30, .iastore, 1, 0, 0, 0), (31, .aload_n f0, 1, 0, 0, 0)],
  [(32, .getfield 58, 3, 12, 35, 1), (35, .iload_n f3, 1, 0, 0, 0), (36, .iaload, 1, 0, 0, 0), (37, .istore 4, 2, 0, 0, 0), (39, .iload 4, 2, 0, 0, 0), (41, .iconst (-1), 1, 4294967295, 0, 0), (42, .if_icmp .eq 14, 3, 56, 0, 0), (45, .aload_n f0, 1, 0, 0, 0), (46, .iload_n f3, 1, 0, 0, 0), (47, .iload_n f2, 1, 0, 0, 0)],
  [(48, .iload 4, 2, 0, 0, 0), (50, .invokevirtual 471, 3, 201, 3, 49), (53, .ifCond .eq 13, 3, 66, 0, 0), (56, .aload_n f0, 1, 0, 0, 0), (57, .getfield 58, 3, 12, 35, 1), (60, .iload_n f3, 1, 0, 0, 0), (61, .iload_n f2, 1, 0, 0, 0), (62, .iastore, 1, 0, 0, 0), (63, .iload 4, 2, 0, 0, 0)],
  [(65, .istore_n f2, 1, 0, 0, 0), (66, .goto (-64), 3, 2, 0, 0), (69, .return_, 1, 0, 0, 0)]]
/-- ToolUnionModel.laysMates()V -/
def cd_203 : List (List EEw) := [
  [(0, .iconst 0, 1, 0, 0, 0), (1, .istore_n f1, 1, 0, 0, 0), (2, .iload_n f1, 1, 0, 0, 0), (3, .bipush 8, 2, 8, 0, 0), (5, .if_icmp .ge 16, 3, 21, 0, 0), (8, .aload_n f0, 1, 0, 0, 0), (9, .getfield 58, 3, 12, 35, 1), (12, .iload_n f1, 1, 0, 0, 0), (13, .iconst (-1), 1, 4294967295, 0, 0), (14, .iastore, 1, 0, 0, 0), (15, .iinc 1 1, 3, 0, 0, 0)],
  [(18, .goto (-16), 3, 2, 0, 0), (21, .iconst 0, 1, 0, 0, 0), (22, .istore_n f1, 1, 0, 0, 0), (23, .iload_n f1, 1, 0, 0, 0), (24, .iconst 4, 1, 4, 0, 0), (25, .if_icmp .ge 16, 3, 41, 0, 0), (28, .aload_n f0, 1, 0, 0, 0), (29, .getfield 61, 3, 12, 36, 1)],
  [(32, .iload_n f1, 1, 0, 0, 0), (33, .iconst 0, 1, 0, 0, 0), (34, .iastore, 1, 0, 0, 0), (35, .iinc 1 1, 3, 0, 0, 0), (38, .goto (-15), 3, 23, 0, 0), (41, .iconst 0, 1, 0, 0, 0), (42, .istore_n f1, 1, 0, 0, 0), (43, .iload_n f1, 1, 0, 0, 0), (44, .aload_n f0, 1, 0, 0, 0), (45, .getfield 7, 3, 12, 0, 1)],
  [(48, .bipush 97, 2, 97, 0, 0), (50, .iaload, 1, 0, 0, 0), (51, .if_icmp .ge 14, 3, 65, 0, 0), (54, .aload_n f0, 1, 0, 0, 0), (55, .iload_n f1, 1, 0, 0, 0), (56, .invokevirtual 474, 3, 202, 1, 48), (59, .iinc 1 1, 3, 0, 0, 0), (62, .goto (-19), 3, 43, 0, 0)],
  [(65, .return_, 1, 0, 0, 0)]]
/-- ToolUnionModel.mateOf(I)I -/
def cd_204 : List (List EEw) := [
  [(0, .aload_n f0, 1, 0, 0, 0), (1, .invokevirtual 493, 3, 203, 0, 48), (4, .aload_n f0, 1, 0, 0, 0), (5, .getfield 58, 3, 12, 35, 1), (8, .iload_n f1, 1, 0, 0, 0), (9, .iaload, 1, 0, 0, 0), (10, .ireturn, 1, 0, 0, 0)]]
/-- ToolUnionModel.of(II)I -/
def cd_205 : List (List EEw) := [
  [(0, .aload_n f0, 1, 0, 0, 0), (1, .iload_n f1, 1, 0, 0, 0), (2, .invokevirtual 97, 3, 31, 1, 49), (5, .ifCond .ne 6, 3, 11, 0, 0), (8, .bipush (-2), 2, 4294967294, 0, 0), (10, .ireturn, 1, 0, 0, 0), (11, .iload_n f2, 1, 0, 0, 0), (12, .tableswitch 46 9 11 #[28, 34, 40], 28, 9, 58, 0)],
  [],
  [(40, .aload_n f0, 1, 0, 0, 0), (41, .iload_n f1, 1, 0, 0, 0), (42, .invokevirtual 496, 3, 195, 1, 49), (45, .ireturn, 1, 0, 0, 0), (46, .aload_n f0, 1, 0, 0, 0), (47, .iload_n f1, 1, 0, 0, 0)],
  [(48, .invokevirtual 499, 3, 198, 1, 49), (51, .ireturn, 1, 0, 0, 0), (52, .aload_n f0, 1, 0, 0, 0), (53, .iload_n f1, 1, 0, 0, 0), (54, .invokevirtual 502, 3, 204, 1, 49), (57, .ireturn, 1, 0, 0, 0), (58, .iload_n f2, 1, 0, 0, 0), (59, .iconst 0, 1, 0, 0, 0), (60, .bipush 8, 2, 8, 0, 0), (62, .invokestatic 77, 3, 20, 3, 1)],
  [(65, .ifCond .eq 12, 3, 77, 0, 0), (68, .aload_n f0, 1, 0, 0, 0), (69, .iload_n f1, 1, 0, 0, 0), (70, .iload_n f2, 1, 0, 0, 0), (71, .invokevirtual 313, 3, 44, 2, 49), (74, .goto 5, 3, 79, 0, 0), (77, .bipush (-2), 2, 4294967294, 0, 0), (79, .ireturn, 1, 0, 0, 0)]]
/-- ToolUnion.at(II)I -/
def cd_206 : List (List EEw) := [
  [(0, .aload_n f0, 1, 0, 0, 0), (1, .iload_n f1, 1, 0, 0, 0), (2, .invokevirtual 129, 3, 26, 1, 45), (5, .ifCond .ne 6, 3, 11, 0, 0), (8, .bipush (-2), 2, 4294967294, 0, 0), (10, .ireturn, 1, 0, 0, 0), (11, .iload_n f2, 1, 0, 0, 0), (12, .tableswitch 79 0 2 #[28, 41, 54], 28, 0, 91, 0)],
  [],
  [(40, .aload_n f0, 1, 0, 0, 0), (41, .getfield 10, 3, 11, 0, 1), (44, .getfield 75, 3, 10, 0, 1), (47, .getfield 111, 3, 0, 9, 1)],
  [(50, .iload_n f1, 1, 0, 0, 0), (51, .iaload, 1, 0, 0, 0), (52, .ireturn, 1, 0, 0, 0), (53, .aload_n f0, 1, 0, 0, 0), (54, .getfield 10, 3, 11, 0, 1), (57, .getfield 75, 3, 10, 0, 1), (60, .getfield 114, 3, 0, 10, 1), (63, .iload_n f1, 1, 0, 0, 0)],
  [(64, .iaload, 1, 0, 0, 0), (65, .ireturn, 1, 0, 0, 0), (66, .aload_n f0, 1, 0, 0, 0), (67, .getfield 61, 3, 11, 11, 1), (70, .aload_n f0, 1, 0, 0, 0), (71, .getfield 10, 3, 11, 0, 1), (74, .aload_n f0, 1, 0, 0, 0), (75, .getfield 40, 3, 11, 8, 1), (78, .invokevirtual 259, 3, 190, 2, 16)],
  [(81, .aload_n f0, 1, 0, 0, 0), (82, .getfield 61, 3, 11, 11, 1), (85, .getfield 266, 3, 4, 1, 1), (88, .iload_n f1, 1, 0, 0, 0), (89, .iaload, 1, 0, 0, 0), (90, .ireturn, 1, 0, 0, 0), (91, .bipush (-2), 2, 4294967294, 0, 0), (93, .ireturn, 1, 0, 0, 0)]]
/-- ToolUnionModel.toolOf(I)I -/
def cd_207 : List (List EEw) := [
  [(0, .iconst 0, 1, 0, 0, 0), (1, .istore_n f2, 1, 0, 0, 0), (2, .iload_n f2, 1, 0, 0, 0), (3, .aload_n f0, 1, 0, 0, 0), (4, .getfield 7, 3, 12, 0, 1), (7, .bipush 96, 2, 96, 0, 0), (9, .iaload, 1, 0, 0, 0), (10, .if_icmp .ge 21, 3, 31, 0, 0), (13, .aload_n f0, 1, 0, 0, 0), (14, .getfield 58, 3, 12, 35, 1)],
  [(17, .iload_n f2, 1, 0, 0, 0), (18, .iaload, 1, 0, 0, 0), (19, .iload_n f1, 1, 0, 0, 0), (20, .if_icmp .ne 5, 3, 25, 0, 0), (23, .iload_n f2, 1, 0, 0, 0), (24, .ireturn, 1, 0, 0, 0), (25, .iinc 2 1, 3, 0, 0, 0), (28, .goto (-26), 3, 2, 0, 0), (31, .iconst (-1), 1, 4294967295, 0, 0)],
  [(32, .ireturn, 1, 0, 0, 0)]]
/-- ToolUnionModel.at(II)I -/
def cd_208 : List (List EEw) := [
  [(0, .aload_n f0, 1, 0, 0, 0), (1, .iload_n f1, 1, 0, 0, 0), (2, .invokevirtual 101, 3, 32, 1, 49), (5, .ifCond .eq 12, 3, 17, 0, 0), (8, .iload_n f2, 1, 0, 0, 0), (9, .iconst 0, 1, 0, 0, 0), (10, .iconst 2, 1, 2, 0, 0), (11, .invokestatic 77, 3, 20, 3, 1), (14, .ifCond .ne 6, 3, 20, 0, 0)],
  [(17, .bipush (-2), 2, 4294967294, 0, 0), (19, .ireturn, 1, 0, 0, 0), (20, .iload_n f2, 1, 0, 0, 0), (21, .iconst 2, 1, 2, 0, 0), (22, .if_icmp .ge 10, 3, 32, 0, 0), (25, .aload_n f0, 1, 0, 0, 0), (26, .iload_n f1, 1, 0, 0, 0), (27, .iload_n f2, 1, 0, 0, 0), (28, .invokevirtual 310, 3, 80, 2, 49), (31, .ireturn, 1, 0, 0, 0)],
  [(32, .aload_n f0, 1, 0, 0, 0), (33, .invokevirtual 493, 3, 203, 0, 48), (36, .aload_n f0, 1, 0, 0, 0), (37, .iload_n f1, 1, 0, 0, 0), (38, .invokevirtual 505, 3, 207, 1, 49), (41, .ireturn, 1, 0, 0, 0)]]
/-- ToolUnion$Crew.toolsOf(I)I -/
def cd_209 : List (List EEw) := [
  [(0, .iconst 0, 1, 0, 0, 0), (1, .istore_n f2, 1, 0, 0, 0), (2, .iconst 0, 1, 0, 0, 0), (3, .istore_n f3, 1, 0, 0, 0), (4, .iload_n f3, 1, 0, 0, 0), (5, .aload_n f0, 1, 0, 0, 0), (6, .getfield 37, 3, 0, 0, 0), (9, .if_icmp .ge 34, 3, 43, 0, 0), (12, .iload_n f3, 1, 0, 0, 0), (13, .bipush 8, 2, 8, 0, 0), (15, .if_icmp .ge 28, 3, 43, 0, 0)],
  [(18, .iload_n f1, 1, 0, 0, 0), (19, .aload_n f0, 1, 0, 0, 0), (20, .getfield 15, 3, 0, 4, 1), (23, .iload_n f3, 1, 0, 0, 0), (24, .iaload, 1, 0, 0, 0), (25, .invokestatic 50, 3, 48, 2, 1), (28, .ifCond .eq 9, 3, 37, 0, 0), (31, .iload_n f2, 1, 0, 0, 0)],
  [(32, .iconst 1, 1, 1, 0, 0), (33, .iload_n f3, 1, 0, 0, 0), (34, .ishl, 1, 0, 0, 0), (35, .ior, 1, 0, 0, 0), (36, .istore_n f2, 1, 0, 0, 0), (37, .iinc 3 1, 3, 0, 0, 0), (40, .goto (-36), 3, 4, 0, 0), (43, .iload_n f2, 1, 0, 0, 0), (44, .ireturn, 1, 0, 0, 0)]]
/-- ToolUnion$Judge.countHands(LToolUnion$Yard;I)I -/
def cd_210 : List (List EEw) := [
  [(0, .iconst 0, 1, 0, 0, 0), (1, .istore_n f3, 1, 0, 0, 0), (2, .aload_n f1, 1, 0, 0, 0), (3, .getfield 23, 3, 10, 0, 1), (6, .iconst 1, 1, 1, 0, 0), (7, .iload_n f2, 1, 0, 0, 0), (8, .ishl, 1, 0, 0, 0), (9, .invokevirtual 157, 3, 209, 1, 1), (12, .istore 4, 2, 0, 0, 0), (14, .iconst 0, 1, 0, 0, 0), (15, .istore 5, 2, 0, 0, 0)],
  [(17, .iload 5, 2, 0, 0, 0), (19, .aload_n f1, 1, 0, 0, 0), (20, .getfield 23, 3, 10, 0, 1), (23, .getfield 146, 3, 0, 1, 0), (26, .if_icmp .ge 31, 3, 57, 0, 0), (29, .iload 5, 2, 0, 0, 0), (31, .iconst 4, 1, 4, 0, 0)],
  [(32, .if_icmp .ge 25, 3, 57, 0, 0), (35, .iload_n f3, 1, 0, 0, 0), (36, .aload_n f0, 1, 0, 0, 0), (37, .aload_n f1, 1, 0, 0, 0), (38, .iload 5, 2, 0, 0, 0), (40, .invokevirtual 149, 3, 185, 2, 9), (43, .iload 4, 2, 0, 0, 0), (45, .iand, 1, 0, 0, 0), (46, .invokestatic 161, 3, 182, 1, 1)],
  [(49, .iadd, 1, 0, 0, 0), (50, .istore_n f3, 1, 0, 0, 0), (51, .iinc 5 1, 3, 0, 0, 0), (54, .goto (-37), 3, 17, 0, 0), (57, .iload_n f3, 1, 0, 0, 0), (58, .ireturn, 1, 0, 0, 0)]]
/-- ToolUnion$Judge.toolsInHands(LToolUnion$Yard;)I -/
def cd_211 : List (List EEw) := [
  [(0, .iconst 0, 1, 0, 0, 0), (1, .istore_n f2, 1, 0, 0, 0), (2, .iconst 0, 1, 0, 0, 0), (3, .istore_n f3, 1, 0, 0, 0), (4, .iload_n f3, 1, 0, 0, 0), (5, .aload_n f1, 1, 0, 0, 0), (6, .getfield 23, 3, 10, 0, 1), (9, .getfield 146, 3, 0, 1, 0), (12, .if_icmp .ge 23, 3, 35, 0, 0), (15, .iload_n f3, 1, 0, 0, 0)],
  [(16, .iconst 4, 1, 4, 0, 0), (17, .if_icmp .ge 18, 3, 35, 0, 0), (20, .iload_n f2, 1, 0, 0, 0), (21, .aload_n f0, 1, 0, 0, 0), (22, .aload_n f1, 1, 0, 0, 0), (23, .iload_n f3, 1, 0, 0, 0), (24, .invokevirtual 149, 3, 185, 2, 9), (27, .ior, 1, 0, 0, 0), (28, .istore_n f2, 1, 0, 0, 0), (29, .iinc 3 1, 3, 0, 0, 0)],
  [(32, .goto (-28), 3, 4, 0, 0), (35, .iload_n f2, 1, 0, 0, 0), (36, .ireturn, 1, 0, 0, 0)]]
/-- java/lang/Integer.numberOfTrailingZeros(I)I -/
def cd_212 : List (List EEw) := [
  [(0, .iload_n f0, 1, 0, 0, 0), (1, .iconst (-1), 1, 4294967295, 0, 0), (2, .ixor, 1, 0, 0, 0), (3, .iload_n f0, 1, 0, 0, 0), (4, .iconst 1, 1, 1, 0, 0), (5, .isub, 1, 0, 0, 0), (6, .iand, 1, 0, 0, 0), (7, .istore_n f0, 1, 0, 0, 0), (8, .iload_n f0, 1, 0, 0, 0), (9, .ifCond .gt 8, 3, 17, 0, 0), (12, .iload_n f0, 1, 0, 0, 0), (13, .bipush 32, 2, 32, 0, 0), (15, .iand, 1, 0, 0, 0)],
  [(16, .ireturn, 1, 0, 0, 0), (17, .iconst 1, 1, 1, 0, 0), (18, .istore_n f1, 1, 0, 0, 0), (19, .iload_n f0, 1, 0, 0, 0), (20, .ldc_w 264, 3, 65536, 0, 0), (23, .if_icmp .le 11, 3, 34, 0, 0), (26, .iinc 1 16, 3, 0, 0, 0), (29, .iload_n f0, 1, 0, 0, 0), (30, .bipush 16, 2, 16, 0, 0)],
  [(32, .iushr, 1, 0, 0, 0), (33, .istore_n f0, 1, 0, 0, 0), (34, .iload_n f0, 1, 0, 0, 0), (35, .sipush 256, 3, 256, 0, 0), (38, .if_icmp .le 11, 3, 49, 0, 0), (41, .iinc 1 8, 3, 0, 0, 0), (44, .iload_n f0, 1, 0, 0, 0), (45, .bipush 8, 2, 8, 0, 0), (47, .iushr, 1, 0, 0, 0)],
  [(48, .istore_n f0, 1, 0, 0, 0), (49, .iload_n f0, 1, 0, 0, 0), (50, .bipush 16, 2, 16, 0, 0), (52, .if_icmp .le 10, 3, 62, 0, 0), (55, .iinc 1 4, 3, 0, 0, 0), (58, .iload_n f0, 1, 0, 0, 0), (59, .iconst 4, 1, 4, 0, 0), (60, .iushr, 1, 0, 0, 0), (61, .istore_n f0, 1, 0, 0, 0), (62, .iload_n f0, 1, 0, 0, 0), (63, .iconst 4, 1, 4, 0, 0)],
  [(64, .if_icmp .le 10, 3, 74, 0, 0), (67, .iinc 1 2, 3, 0, 0, 0), (70, .iload_n f0, 1, 0, 0, 0), (71, .iconst 2, 1, 2, 0, 0), (72, .iushr, 1, 0, 0, 0), (73, .istore_n f0, 1, 0, 0, 0), (74, .iload_n f1, 1, 0, 0, 0), (75, .iload_n f0, 1, 0, 0, 0), (76, .iconst 1, 1, 1, 0, 0), (77, .iushr, 1, 0, 0, 0), (78, .iadd, 1, 0, 0, 0), (79, .ireturn, 1, 0, 0, 0)]]
/-- ToolUnion$Judge.firstHand(LToolUnion$Yard;I)I -/
def cd_213 : List (List EEw) := [
  [(0, .aload_n f0, 1, 0, 0, 0), (1, .aload_n f1, 1, 0, 0, 0), (2, .invokevirtual 153, 3, 211, 1, 9), (5, .aload_n f1, 1, 0, 0, 0), (6, .getfield 23, 3, 10, 0, 1), (9, .iconst 1, 1, 1, 0, 0), (10, .iload_n f2, 1, 0, 0, 0), (11, .ishl, 1, 0, 0, 0), (12, .invokevirtual 157, 3, 209, 1, 1), (15, .iand, 1, 0, 0, 0)],
  [(16, .istore_n f3, 1, 0, 0, 0), (17, .iload_n f3, 1, 0, 0, 0), (18, .ifCond .ne 7, 3, 25, 0, 0), (21, .iconst (-1), 1, 4294967295, 0, 0), (22, .goto 7, 3, 29, 0, 0), (25, .iload_n f3, 1, 0, 0, 0), (26, .invokestatic 166, 3, 212, 1, 1), (29, .ireturn, 1, 0, 0, 0)]]
/-- ToolUnion$Judge.firstServed(LToolUnion$Yard;I)I -/
def cd_214 : List (List EEw) := [
  [(0, .iload_n f2, 1, 0, 0, 0), (1, .ifCond .lt 9, 3, 10, 0, 0), (4, .iload_n f2, 1, 0, 0, 0), (5, .bipush 8, 2, 8, 0, 0), (7, .if_icmp .lt 5, 3, 12, 0, 0), (10, .iconst (-1), 1, 4294967295, 0, 0), (11, .ireturn, 1, 0, 0, 0), (12, .iconst 0, 1, 0, 0, 0), (13, .istore_n f3, 1, 0, 0, 0), (14, .iload_n f3, 1, 0, 0, 0), (15, .aload_n f1, 1, 0, 0, 0)],
  [(16, .getfield 23, 3, 10, 0, 1), (19, .getfield 146, 3, 0, 1, 0), (22, .if_icmp .ge 30, 3, 52, 0, 0), (25, .iload_n f3, 1, 0, 0, 0), (26, .iconst 4, 1, 4, 0, 0), (27, .if_icmp .ge 25, 3, 52, 0, 0), (30, .aload_n f0, 1, 0, 0, 0), (31, .aload_n f1, 1, 0, 0, 0)],
  [(32, .aload_n f1, 1, 0, 0, 0), (33, .getfield 139, 3, 10, 1, 1), (36, .iload_n f2, 1, 0, 0, 0), (37, .iload_n f3, 1, 0, 0, 0), (38, .invokevirtual 143, 3, 65, 4, 9), (41, .ifCond .eq 5, 3, 46, 0, 0), (44, .iload_n f3, 1, 0, 0, 0), (45, .ireturn, 1, 0, 0, 0), (46, .iinc 3 1, 3, 0, 0, 0)],
  [(49, .goto (-35), 3, 14, 0, 0), (52, .iconst (-1), 1, 4294967295, 0, 0), (53, .ireturn, 1, 0, 0, 0)]]
/-- ToolUnion.work(II)I -/
def cd_215_0 : List (List EEw) := [
  [(0, .aload_n f0, 1, 0, 0, 0), (1, .getfield 10, 3, 11, 0, 1), (4, .getfield 208, 3, 10, 2, 1), (7, .astore_n f3, 1, 0, 0, 0), (8, .iload_n f1, 1, 0, 0, 0), (9, .ifCond .lt 17, 3, 26, 0, 0), (12, .iload_n f1, 1, 0, 0, 0), (13, .aload_n f3, 1, 0, 0, 0), (14, .getfield 234, 3, 1, 0, 0)],
  [(17, .if_icmp .ge 9, 3, 26, 0, 0), (20, .iload_n f1, 1, 0, 0, 0), (21, .bipush 8, 2, 8, 0, 0), (23, .if_icmp .lt 6, 3, 29, 0, 0), (26, .bipush (-2), 2, 4294967294, 0, 0), (28, .ireturn, 1, 0, 0, 0), (29, .iload_n f2, 1, 0, 0, 0), (30, .tableswitch 191 0 8 #[50, 57, 64, 71, 84, 105, 126, 144, 162], 50, 0, 221, 0)],
  [],
  [],
  [],
  [(80, .aload_n f3, 1, 0, 0, 0), (81, .getfield 269, 3, 1, 1, 1), (84, .iload_n f1, 1, 0, 0, 0), (85, .iaload, 1, 0, 0, 0), (86, .ireturn, 1, 0, 0, 0), (87, .aload_n f3, 1, 0, 0, 0), (88, .getfield 270, 3, 1, 2, 1), (91, .iload_n f1, 1, 0, 0, 0), (92, .iaload, 1, 0, 0, 0), (93, .ireturn, 1, 0, 0, 0), (94, .aload_n f3, 1, 0, 0, 0), (95, .getfield 273, 3, 1, 3, 1)],
  [(98, .iload_n f1, 1, 0, 0, 0), (99, .iaload, 1, 0, 0, 0), (100, .ireturn, 1, 0, 0, 0), (101, .aload_n f0, 1, 0, 0, 0), (102, .getfield 10, 3, 11, 0, 1), (105, .getfield 65, 3, 10, 1, 1), (108, .getfield 276, 3, 5, 4, 1), (111, .iload_n f1, 1, 0, 0, 0)],
  [(112, .iaload, 1, 0, 0, 0), (113, .ireturn, 1, 0, 0, 0), (114, .aload_n f3, 1, 0, 0, 0), (115, .aload_n f0, 1, 0, 0, 0), (116, .getfield 10, 3, 11, 0, 1), (119, .getfield 65, 3, 10, 1, 1), (122, .iload_n f1, 1, 0, 0, 0), (123, .invokevirtual 279, 3, 58, 2, 5), (126, .ifCond .eq 7, 3, 133, 0, 0)],
  [(129, .iconst 1, 1, 1, 0, 0), (130, .goto 4, 3, 134, 0, 0), (133, .iconst 0, 1, 0, 0, 0), (134, .ireturn, 1, 0, 0, 0), (135, .aload_n f3, 1, 0, 0, 0), (136, .aload_n f0, 1, 0, 0, 0), (137, .getfield 10, 3, 11, 0, 1), (140, .getfield 65, 3, 10, 1, 1), (143, .iload_n f1, 1, 0, 0, 0)],
  [(144, .invokevirtual 283, 3, 57, 2, 5), (147, .ifCond .eq 7, 3, 154, 0, 0), (150, .iconst 1, 1, 1, 0, 0), (151, .goto 4, 3, 155, 0, 0), (154, .iconst 0, 1, 0, 0, 0), (155, .ireturn, 1, 0, 0, 0), (156, .aload_n f0, 1, 0, 0, 0), (157, .getfield 40, 3, 11, 8, 1)],
  [(160, .aload_n f0, 1, 0, 0, 0), (161, .getfield 10, 3, 11, 0, 1), (164, .aload_n f3, 1, 0, 0, 0), (165, .getfield 269, 3, 1, 1, 1), (168, .iload_n f1, 1, 0, 0, 0), (169, .iaload, 1, 0, 0, 0), (170, .invokevirtual 286, 3, 210, 2, 9), (173, .ireturn, 1, 0, 0, 0), (174, .aload_n f0, 1, 0, 0, 0), (175, .getfield 40, 3, 11, 8, 1)],
  [(178, .aload_n f0, 1, 0, 0, 0), (179, .getfield 10, 3, 11, 0, 1), (182, .aload_n f3, 1, 0, 0, 0), (183, .getfield 269, 3, 1, 1, 1), (186, .iload_n f1, 1, 0, 0, 0), (187, .iaload, 1, 0, 0, 0), (188, .invokevirtual 290, 3, 213, 2, 9), (191, .ireturn, 1, 0, 0, 0)]]
def cd_215_1 : List (List EEw) := [
  [(192, .aload_n f0, 1, 0, 0, 0), (193, .getfield 40, 3, 11, 8, 1), (196, .aload_n f0, 1, 0, 0, 0), (197, .getfield 10, 3, 11, 0, 1), (200, .aload_n f0, 1, 0, 0, 0), (201, .getfield 40, 3, 11, 8, 1), (204, .aload_n f0, 1, 0, 0, 0), (205, .getfield 10, 3, 11, 0, 1)],
  [(208, .aload_n f3, 1, 0, 0, 0), (209, .getfield 269, 3, 1, 1, 1), (212, .iload_n f1, 1, 0, 0, 0), (213, .iaload, 1, 0, 0, 0), (214, .invokevirtual 290, 3, 213, 2, 9), (217, .invokevirtual 293, 3, 214, 2, 9), (220, .ireturn, 1, 0, 0, 0), (221, .bipush (-2), 2, 4294967294, 0, 0), (223, .ireturn, 1, 0, 0, 0)]]
def cd_215 : List (List EEw) := cd_215_0 ++ (cd_215_1)
/-- ToolUnionModel.isWork(I)Z -/
def cd_216 : List (List EEw) := [
  [(0, .iload_n f1, 1, 0, 0, 0), (1, .iconst 0, 1, 0, 0, 0), (2, .aload_n f0, 1, 0, 0, 0), (3, .getfield 7, 3, 12, 0, 1), (6, .bipush 98, 2, 98, 0, 0), (8, .iaload, 1, 0, 0, 0), (9, .iconst 1, 1, 1, 0, 0), (10, .isub, 1, 0, 0, 0), (11, .invokestatic 77, 3, 20, 3, 1), (14, .ireturn, 1, 0, 0, 1)]]
/-- ToolUnionModel.firstHands(I)I -/
def cd_217 : List (List EEw) := [
  [(0, .iconst 0, 1, 0, 0, 0), (1, .istore_n f2, 1, 0, 0, 0), (2, .iload_n f2, 1, 0, 0, 0), (3, .aload_n f0, 1, 0, 0, 0), (4, .getfield 7, 3, 12, 0, 1), (7, .bipush 96, 2, 96, 0, 0), (9, .iaload, 1, 0, 0, 0), (10, .if_icmp .ge 53, 3, 63, 0, 0), (13, .iconst 0, 1, 0, 0, 0), (14, .istore_n f3, 1, 0, 0, 0), (15, .iload_n f3, 1, 0, 0, 0)],
  [(16, .aload_n f0, 1, 0, 0, 0), (17, .getfield 7, 3, 12, 0, 1), (20, .bipush 97, 2, 97, 0, 0), (22, .iaload, 1, 0, 0, 0), (23, .if_icmp .ge 34, 3, 57, 0, 0), (26, .aload_n f0, 1, 0, 0, 0), (27, .iload_n f2, 1, 0, 0, 0), (28, .iconst 0, 1, 0, 0, 0), (29, .invokevirtual 313, 3, 44, 2, 49)],
  [(32, .iload_n f1, 1, 0, 0, 0), (33, .if_icmp .ne 18, 3, 51, 0, 0), (36, .aload_n f0, 1, 0, 0, 0), (37, .iload_n f2, 1, 0, 0, 0), (38, .iload_n f3, 1, 0, 0, 0), (39, .invokevirtual 361, 3, 87, 2, 49), (42, .ifCond .eq 9, 3, 51, 0, 0), (45, .iconst 4, 1, 4, 0, 0), (46, .iload_n f2, 1, 0, 0, 0), (47, .imul, 1, 0, 0, 0)],
  [(48, .iload_n f3, 1, 0, 0, 0), (49, .iadd, 1, 0, 0, 0), (50, .ireturn, 1, 0, 0, 0), (51, .iinc 3 1, 3, 0, 0, 0), (54, .goto (-39), 3, 15, 0, 0), (57, .iinc 2 1, 3, 0, 0, 0), (60, .goto (-58), 3, 2, 0, 0), (63, .iconst (-1), 1, 4294967295, 0, 0)],
  [(64, .ireturn, 1, 0, 0, 0)]]
/-- ToolUnionModel.handsOf(I)I -/
def cd_218 : List (List EEw) := [
  [(0, .iconst 0, 1, 0, 0, 0), (1, .istore_n f2, 1, 0, 0, 0), (2, .iconst 0, 1, 0, 0, 0), (3, .istore_n f3, 1, 0, 0, 0), (4, .iload_n f3, 1, 0, 0, 0), (5, .aload_n f0, 1, 0, 0, 0), (6, .getfield 7, 3, 12, 0, 1), (9, .bipush 96, 2, 96, 0, 0), (11, .iaload, 1, 0, 0, 0), (12, .if_icmp .ge 58, 3, 70, 0, 0), (15, .iconst 0, 1, 0, 0, 0)],
  [(16, .istore 4, 2, 0, 0, 0), (18, .iload 4, 2, 0, 0, 0), (20, .aload_n f0, 1, 0, 0, 0), (21, .getfield 7, 3, 12, 0, 1), (24, .bipush 97, 2, 97, 0, 0), (26, .iaload, 1, 0, 0, 0), (27, .if_icmp .ge 37, 3, 64, 0, 0), (30, .iload_n f2, 1, 0, 0, 0), (31, .aload_n f0, 1, 0, 0, 0)],
  [(32, .iload_n f3, 1, 0, 0, 0), (33, .iconst 0, 1, 0, 0, 0), (34, .invokevirtual 313, 3, 44, 2, 49), (37, .iload_n f1, 1, 0, 0, 0), (38, .if_icmp .ne 17, 3, 55, 0, 0), (41, .aload_n f0, 1, 0, 0, 0), (42, .iload_n f3, 1, 0, 0, 0), (43, .iload 4, 2, 0, 0, 0), (45, .invokevirtual 361, 3, 87, 2, 49)],
  [(48, .ifCond .eq 7, 3, 55, 0, 0), (51, .iconst 1, 1, 1, 0, 0), (52, .goto 4, 3, 56, 0, 0), (55, .iconst 0, 1, 0, 0, 0), (56, .iadd, 1, 0, 0, 0), (57, .istore_n f2, 1, 0, 0, 0), (58, .iinc 4 1, 3, 0, 0, 0), (61, .goto (-43), 3, 18, 0, 0)],
  [(64, .iinc 3 1, 3, 0, 0, 0), (67, .goto (-63), 3, 4, 0, 0), (70, .iload_n f2, 1, 0, 0, 0), (71, .ireturn, 1, 0, 0, 0)]]
/-- ToolUnionModel.work(II)I -/
def cd_219 : List (List EEw) := [
  [(0, .aload_n f0, 1, 0, 0, 0), (1, .iload_n f1, 1, 0, 0, 0), (2, .invokevirtual 481, 3, 216, 1, 49), (5, .ifCond .ne 6, 3, 11, 0, 0), (8, .bipush (-2), 2, 4294967294, 0, 0), (10, .ireturn, 1, 0, 0, 0), (11, .aload_n f0, 1, 0, 0, 0), (12, .aload_n f0, 1, 0, 0, 0), (13, .iload_n f1, 1, 0, 0, 0), (14, .iconst 0, 1, 0, 0, 0), (15, .invokevirtual 337, 3, 76, 2, 49)],
  [(18, .invokevirtual 508, 3, 217, 1, 49), (21, .istore_n f3, 1, 0, 0, 0), (22, .iload_n f2, 1, 0, 0, 0), (23, .tableswitch 112 3 8 #[37, 47, 61, 75, 86, 99], 37, 3, 135, 0)],
  [],
  [(60, .aload_n f0, 1, 0, 0, 0), (61, .getfield 7, 3, 12, 0, 1)],
  [(64, .bipush 8, 2, 8, 0, 0), (66, .iload_n f1, 1, 0, 0, 0), (67, .iadd, 1, 0, 0, 0), (68, .iaload, 1, 0, 0, 0), (69, .ireturn, 1, 0, 0, 0), (70, .aload_n f0, 1, 0, 0, 0), (71, .iload_n f1, 1, 0, 0, 0), (72, .invokevirtual 358, 3, 79, 1, 49), (75, .ifCond .eq 7, 3, 82, 0, 0), (78, .iconst 1, 1, 1, 0, 0), (79, .goto 4, 3, 83, 0, 0)],
  [(82, .iconst 0, 1, 0, 0, 0), (83, .ireturn, 1, 0, 0, 0), (84, .aload_n f0, 1, 0, 0, 0), (85, .iload_n f1, 1, 0, 0, 0), (86, .invokevirtual 340, 3, 77, 1, 49), (89, .ifCond .eq 7, 3, 96, 0, 0), (92, .iconst 1, 1, 1, 0, 0), (93, .goto 4, 3, 97, 0, 0)],
  [(96, .iconst 0, 1, 0, 0, 0), (97, .ireturn, 1, 0, 0, 0), (98, .aload_n f0, 1, 0, 0, 0), (99, .aload_n f0, 1, 0, 0, 0), (100, .iload_n f1, 1, 0, 0, 0), (101, .iconst 0, 1, 0, 0, 0), (102, .invokevirtual 337, 3, 76, 2, 49), (105, .invokevirtual 417, 3, 218, 1, 49), (108, .ireturn, 1, 0, 0, 0), (109, .iload_n f3, 1, 0, 0, 0), (110, .iconst (-1), 1, 4294967295, 0, 0), (111, .if_icmp .ne 7, 3, 118, 0, 0)],
  [(114, .iconst (-1), 1, 4294967295, 0, 0), (115, .goto 6, 3, 121, 0, 0), (118, .iload_n f3, 1, 0, 0, 0), (119, .iconst 4, 1, 4, 0, 0), (120, .idiv, 1, 0, 0, 0), (121, .ireturn, 1, 0, 0, 0), (122, .iload_n f3, 1, 0, 0, 0), (123, .iconst (-1), 1, 4294967295, 0, 0), (124, .if_icmp .ne 7, 3, 131, 0, 0), (127, .iconst (-1), 1, 4294967295, 0, 0)],
  [(128, .goto 6, 3, 134, 0, 0), (131, .iload_n f3, 1, 0, 0, 0), (132, .iconst 4, 1, 4, 0, 0), (133, .irem, 1, 0, 0, 0), (134, .ireturn, 1, 0, 0, 0), (135, .iload_n f2, 1, 0, 0, 0), (136, .iconst 0, 1, 0, 0, 0), (137, .iconst 2, 1, 2, 0, 0), (138, .invokestatic 77, 3, 20, 3, 1), (141, .ifCond .eq 12, 3, 153, 0, 0)],
  [(144, .aload_n f0, 1, 0, 0, 0), (145, .iload_n f1, 1, 0, 0, 0), (146, .iload_n f2, 1, 0, 0, 0), (147, .invokevirtual 337, 3, 76, 2, 49), (150, .goto 5, 3, 155, 0, 0), (153, .bipush (-2), 2, 4294967294, 0, 0), (155, .ireturn, 1, 0, 0, 0)]]
/-- ToolUnion.serves(II)I -/
def cd_220 : List (List EEw) := [
  [(0, .aload_n f0, 1, 0, 0, 0), (1, .iload_n f1, 1, 0, 0, 0), (2, .invokevirtual 125, 3, 25, 1, 45), (5, .ifCond .eq 11, 3, 16, 0, 0), (8, .aload_n f0, 1, 0, 0, 0), (9, .iload_n f2, 1, 0, 0, 0), (10, .invokevirtual 129, 3, 26, 1, 45), (13, .ifCond .ne 5, 3, 18, 0, 0)],
  [(16, .iconst (-1), 1, 4294967295, 0, 0), (17, .ireturn, 1, 0, 0, 0), (18, .aload_n f0, 1, 0, 0, 0), (19, .getfield 40, 3, 11, 8, 1), (22, .aload_n f0, 1, 0, 0, 0), (23, .getfield 10, 3, 11, 0, 1), (26, .aload_n f0, 1, 0, 0, 0), (27, .getfield 10, 3, 11, 0, 1), (30, .getfield 65, 3, 10, 1, 1)],
  [(33, .iload_n f1, 1, 0, 0, 0), (34, .iload_n f2, 1, 0, 0, 0), (35, .invokevirtual 296, 3, 65, 4, 9), (38, .ifCond .eq 7, 3, 45, 0, 0), (41, .iconst 1, 1, 1, 0, 0), (42, .goto 4, 3, 46, 0, 0), (45, .iconst 0, 1, 0, 0, 0), (46, .ireturn, 1, 0, 0, 0)]]
/-- ToolUnionModel.serves(II)I -/
def cd_221 : List (List EEw) := [
  [(0, .aload_n f0, 1, 0, 0, 0), (1, .iload_n f1, 1, 0, 0, 0), (2, .invokevirtual 97, 3, 31, 1, 49), (5, .ifCond .eq 11, 3, 16, 0, 0), (8, .aload_n f0, 1, 0, 0, 0), (9, .iload_n f2, 1, 0, 0, 0), (10, .invokevirtual 101, 3, 32, 1, 49), (13, .ifCond .ne 7, 3, 20, 0, 0)],
  [(16, .iconst (-1), 1, 4294967295, 0, 0), (17, .goto 17, 3, 34, 0, 0), (20, .aload_n f0, 1, 0, 0, 0), (21, .iload_n f1, 1, 0, 0, 0), (22, .iload_n f2, 1, 0, 0, 0), (23, .invokevirtual 361, 3, 87, 2, 49), (26, .ifCond .eq 7, 3, 33, 0, 0), (29, .iconst 1, 1, 1, 0, 0), (30, .goto 4, 3, 34, 0, 0)],
  [(33, .iconst 0, 1, 0, 0, 0), (34, .ireturn, 1, 0, 0, 0)]]
/-- ToolUnion.tells(III)I -/
def cd_222 : List (List EEw) := [
  [(0, .aload_n f0, 1, 0, 0, 0), (1, .iload_n f1, 1, 0, 0, 0), (2, .invokevirtual 125, 3, 25, 1, 45), (5, .ifCond .eq 19, 3, 24, 0, 0), (8, .aload_n f0, 1, 0, 0, 0), (9, .iload_n f2, 1, 0, 0, 0), (10, .invokevirtual 129, 3, 26, 1, 45), (13, .ifCond .eq 11, 3, 24, 0, 0)],
  [(16, .iload_n f3, 1, 0, 0, 0), (17, .iconst 2, 1, 2, 0, 0), (18, .invokestatic 84, 3, 17, 2, 1), (21, .ifCond .ne 7, 3, 28, 0, 0), (24, .sipush (-1000), 3, 4294966296, 0, 0), (27, .ireturn, 1, 0, 0, 0), (28, .aload_n f0, 1, 0, 0, 0), (29, .getfield 40, 3, 11, 8, 1)],
  [(32, .aload_n f0, 1, 0, 0, 0), (33, .getfield 10, 3, 11, 0, 1), (36, .aload_n f0, 1, 0, 0, 0), (37, .getfield 10, 3, 11, 0, 1), (40, .getfield 65, 3, 10, 1, 1), (43, .iload_n f1, 1, 0, 0, 0), (44, .iload_n f2, 1, 0, 0, 0), (45, .iload_n f3, 1, 0, 0, 0), (46, .invokevirtual 300, 3, 67, 5, 9)],
  [(49, .ireturn, 1, 0, 0, 0)]]
/-- ToolUnionModel.tells(III)I -/
def cd_223 : List (List EEw) := [
  [(0, .aload_n f0, 1, 0, 0, 0), (1, .iload_n f1, 1, 0, 0, 0), (2, .invokevirtual 97, 3, 31, 1, 49), (5, .ifCond .eq 20, 3, 25, 0, 0), (8, .aload_n f0, 1, 0, 0, 0), (9, .iload_n f2, 1, 0, 0, 0), (10, .invokevirtual 101, 3, 32, 1, 49), (13, .ifCond .eq 12, 3, 25, 0, 0)],
  [(16, .iload_n f3, 1, 0, 0, 0), (17, .iconst 0, 1, 0, 0, 0), (18, .iconst 2, 1, 2, 0, 0), (19, .invokestatic 77, 3, 20, 3, 1), (22, .ifCond .ne 7, 3, 29, 0, 0), (25, .sipush (-1000), 3, 4294966296, 0, 0), (28, .ireturn, 1, 0, 0, 0), (29, .iload_n f3, 1, 0, 0, 0), (30, .ifCond .ne 12, 3, 42, 0, 0)],
  [(33, .aload_n f0, 1, 0, 0, 0), (34, .iload_n f1, 1, 0, 0, 0), (35, .iload_n f2, 1, 0, 0, 0), (36, .invokevirtual 349, 3, 90, 2, 49), (39, .goto 23, 3, 62, 0, 0), (42, .iload_n f3, 1, 0, 0, 0), (43, .iconst 1, 1, 1, 0, 0), (44, .if_icmp .ne 12, 3, 56, 0, 0), (47, .aload_n f0, 1, 0, 0, 0)],
  [(48, .iload_n f1, 1, 0, 0, 0), (49, .iload_n f2, 1, 0, 0, 0), (50, .invokevirtual 352, 3, 91, 2, 49), (53, .goto 9, 3, 62, 0, 0), (56, .aload_n f0, 1, 0, 0, 0), (57, .iload_n f1, 1, 0, 0, 0), (58, .iload_n f2, 1, 0, 0, 0), (59, .invokevirtual 465, 3, 200, 2, 49), (62, .ireturn, 1, 0, 0, 0)]]
/-- ToolUnion.book(II)I -/
def cd_224 : List (List EEw) := [
  [(0, .iload_n f1, 1, 0, 0, 0), (1, .ifCond .lt 32, 3, 33, 0, 0), (4, .iload_n f1, 1, 0, 0, 0), (5, .aload_n f0, 1, 0, 0, 0), (6, .getfield 10, 3, 11, 0, 1), (9, .getfield 65, 3, 10, 1, 1), (12, .getfield 304, 3, 5, 9, 0), (15, .if_icmp .ge 18, 3, 33, 0, 0)],
  [(18, .iload_n f1, 1, 0, 0, 0), (19, .sipush 200, 3, 200, 0, 0), (22, .if_icmp .ge 11, 3, 33, 0, 0), (25, .iload_n f2, 1, 0, 0, 0), (26, .iconst 3, 1, 3, 0, 0), (27, .invokestatic 84, 3, 17, 2, 1), (30, .ifCond .ne 5, 3, 35, 0, 0)],
  [(33, .iconst (-1), 1, 4294967295, 0, 0), (34, .ireturn, 1, 0, 0, 0), (35, .aload_n f0, 1, 0, 0, 0), (36, .getfield 10, 3, 11, 0, 1), (39, .getfield 307, 3, 10, 6, 1), (42, .iconst 4, 1, 4, 0, 0), (43, .iload_n f1, 1, 0, 0, 0), (44, .imul, 1, 0, 0, 0), (45, .iload_n f2, 1, 0, 0, 0), (46, .iadd, 1, 0, 0, 0), (47, .iaload, 1, 0, 0, 0)],
  [(48, .ireturn, 1, 0, 0, 0)]]
/-- ToolUnionModel.book(II)I -/
def cd_225 : List (List EEw) := [
  [(0, .iload_n f1, 1, 0, 0, 0), (1, .iconst 0, 1, 0, 0, 0), (2, .aload_n f0, 1, 0, 0, 0), (3, .getfield 7, 3, 12, 0, 1), (6, .iconst 2, 1, 2, 0, 0), (7, .iaload, 1, 0, 0, 0), (8, .iconst 1, 1, 1, 0, 0), (9, .isub, 1, 0, 0, 0), (10, .invokestatic 77, 3, 20, 3, 1), (13, .ifCond .eq 29, 3, 42, 0, 0)],
  [(16, .iload_n f2, 1, 0, 0, 0), (17, .iconst 0, 1, 0, 0, 0), (18, .iconst 3, 1, 3, 0, 0), (19, .invokestatic 77, 3, 20, 3, 1), (22, .ifCond .eq 20, 3, 42, 0, 0), (25, .aload_n f0, 1, 0, 0, 0), (26, .getfield 7, 3, 12, 0, 1), (29, .sipush 2034, 3, 2034, 0, 0)],
  [(32, .iconst 4, 1, 4, 0, 0), (33, .iload_n f1, 1, 0, 0, 0), (34, .imul, 1, 0, 0, 0), (35, .iadd, 1, 0, 0, 0), (36, .iload_n f2, 1, 0, 0, 0), (37, .iadd, 1, 0, 0, 0), (38, .iaload, 1, 0, 0, 0), (39, .goto 4, 3, 43, 0, 0), (42, .iconst (-1), 1, 4294967295, 0, 0), (43, .ireturn, 1, 0, 0, 0)]]
/-- ToolUnion$Hull.kindsLeft(LToolUnion$Moves;)I -/
def cd_226 : List (List EEw) := [
  [(0, .iconst 0, 1, 0, 0, 0), (1, .istore_n f2, 1, 0, 0, 0), (2, .iconst 0, 1, 0, 0, 0), (3, .istore_n f3, 1, 0, 0, 0), (4, .iload_n f3, 1, 0, 0, 0), (5, .aload_n f0, 1, 0, 0, 0), (6, .getfield 33, 3, 1, 0, 0), (9, .if_icmp .ge 35, 3, 44, 0, 0), (12, .iload_n f3, 1, 0, 0, 0), (13, .bipush 8, 2, 8, 0, 0), (15, .if_icmp .ge 29, 3, 44, 0, 0)],
  [(18, .aload_n f0, 1, 0, 0, 0), (19, .aload_n f1, 1, 0, 0, 0), (20, .iload_n f3, 1, 0, 0, 0), (21, .invokevirtual 49, 3, 57, 2, 5), (24, .ifCond .ne 14, 3, 38, 0, 0), (27, .iload_n f2, 1, 0, 0, 0), (28, .iconst 1, 1, 1, 0, 0), (29, .aload_n f0, 1, 0, 0, 0), (30, .getfield 9, 3, 1, 1, 1)],
  [(33, .iload_n f3, 1, 0, 0, 0), (34, .iaload, 1, 0, 0, 0), (35, .ishl, 1, 0, 0, 0), (36, .ior, 1, 0, 0, 0), (37, .istore_n f2, 1, 0, 0, 0), (38, .iinc 3 1, 3, 0, 0, 0), (41, .goto (-37), 3, 4, 0, 0), (44, .iload_n f2, 1, 0, 0, 0), (45, .ireturn, 1, 0, 0, 0)]]
/-- ToolUnion$Judge.kindsInHands(LToolUnion$Yard;)I -/
def cd_227 : List (List EEw) := [
  [(0, .iconst 0, 1, 0, 0, 0), (1, .istore_n f2, 1, 0, 0, 0), (2, .aload_n f0, 1, 0, 0, 0), (3, .aload_n f1, 1, 0, 0, 0), (4, .invokevirtual 153, 3, 211, 1, 9), (7, .istore_n f3, 1, 0, 0, 0), (8, .iconst 0, 1, 0, 0, 0), (9, .istore 4, 2, 0, 0, 0), (11, .iload 4, 2, 0, 0, 0), (13, .bipush 8, 2, 8, 0, 0), (15, .if_icmp .ge 33, 3, 48, 0, 0)],
  [(18, .iload_n f3, 1, 0, 0, 0), (19, .iload 4, 2, 0, 0, 0), (21, .invokestatic 37, 3, 48, 2, 1), (24, .ifCond .eq 18, 3, 42, 0, 0), (27, .iload_n f2, 1, 0, 0, 0), (28, .iconst 1, 1, 1, 0, 0), (29, .aload_n f1, 1, 0, 0, 0), (30, .getfield 23, 3, 10, 0, 1)],
  [(33, .getfield 34, 3, 0, 4, 1), (36, .iload 4, 2, 0, 0, 0), (38, .iaload, 1, 0, 0, 0), (39, .ishl, 1, 0, 0, 0), (40, .ior, 1, 0, 0, 0), (41, .istore_n f2, 1, 0, 0, 0), (42, .iinc 4 1, 3, 0, 0, 0), (45, .goto (-34), 3, 11, 0, 0)],
  [(48, .iload_n f2, 1, 0, 0, 0), (49, .ireturn, 1, 0, 0, 0)]]
/-- ToolUnion$Planner.makeRoom(I)V -/
def cd_228 : List (List EEw) := [
  [(0, .iload_n f1, 1, 0, 0, 0), (1, .ifCond .lt 33, 3, 34, 0, 0), (4, .iload_n f1, 1, 0, 0, 0), (5, .bipush 8, 2, 8, 0, 0), (7, .if_icmp .gt 27, 3, 34, 0, 0), (10, .aload_n f0, 1, 0, 0, 0), (11, .getfield 27, 3, 6, 5, 1), (14, .arraylength, 1, 0, 0, 0), (15, .iconst 1, 1, 1, 0, 0)],
  [(16, .iconst 2, 1, 2, 0, 0), (17, .iload_n f1, 1, 0, 0, 0), (18, .imul, 1, 0, 0, 0), (19, .ishl, 1, 0, 0, 0), (20, .if_icmp .ge 14, 3, 34, 0, 0), (23, .aload_n f0, 1, 0, 0, 0), (24, .iconst 1, 1, 1, 0, 0), (25, .iconst 2, 1, 2, 0, 0), (26, .iload_n f1, 1, 0, 0, 0), (27, .imul, 1, 0, 0, 0), (28, .ishl, 1, 0, 0, 0), (29, .newarray .int, 2, 0, 0, 0), (31, .putfield 27, 3, 6, 5, 1)],
  [(34, .return_, 1, 0, 0, 0)]]
/-- ToolUnion$Hull.worksOf(I)I -/
def cd_229 : List (List EEw) := [
  [(0, .iconst 0, 1, 0, 0, 0), (1, .istore_n f2, 1, 0, 0, 0), (2, .iconst 0, 1, 0, 0, 0), (3, .istore_n f3, 1, 0, 0, 0), (4, .iload_n f3, 1, 0, 0, 0), (5, .aload_n f0, 1, 0, 0, 0), (6, .getfield 33, 3, 1, 0, 0), (9, .if_icmp .ge 34, 3, 43, 0, 0), (12, .iload_n f3, 1, 0, 0, 0), (13, .bipush 8, 2, 8, 0, 0), (15, .if_icmp .ge 28, 3, 43, 0, 0)],
  [(18, .iload_n f1, 1, 0, 0, 0), (19, .aload_n f0, 1, 0, 0, 0), (20, .getfield 9, 3, 1, 1, 1), (23, .iload_n f3, 1, 0, 0, 0), (24, .iaload, 1, 0, 0, 0), (25, .invokestatic 53, 3, 48, 2, 1), (28, .ifCond .eq 9, 3, 37, 0, 0), (31, .iload_n f2, 1, 0, 0, 0)],
  [(32, .iconst 1, 1, 1, 0, 0), (33, .iload_n f3, 1, 0, 0, 0), (34, .ishl, 1, 0, 0, 0), (35, .ior, 1, 0, 0, 0), (36, .istore_n f2, 1, 0, 0, 0), (37, .iinc 3 1, 3, 0, 0, 0), (40, .goto (-36), 3, 4, 0, 0), (43, .iload_n f2, 1, 0, 0, 0), (44, .ireturn, 1, 0, 0, 0)]]
/-- ToolUnion$Planner.couplesAtOnce(I)I -/
def cd_230 : List (List EEw) := [
  [(0, .iconst 4, 1, 4, 0, 0), (1, .istore_n f2, 1, 0, 0, 0), (2, .iconst 1, 1, 1, 0, 0), (3, .istore_n f3, 1, 0, 0, 0), (4, .iload_n f3, 1, 0, 0, 0), (5, .bipush 16, 2, 16, 0, 0), (7, .if_icmp .ge 67, 3, 74, 0, 0), (10, .iconst 0, 1, 0, 0, 0), (11, .istore 4, 2, 0, 0, 0), (13, .iconst 0, 1, 0, 0, 0), (14, .istore 5, 2, 0, 0, 0)],
  [(16, .iload 5, 2, 0, 0, 0), (18, .iconst 4, 1, 4, 0, 0), (19, .if_icmp .ge 32, 3, 51, 0, 0), (22, .iload_n f3, 1, 0, 0, 0), (23, .iload 5, 2, 0, 0, 0), (25, .invokestatic 73, 3, 48, 2, 1), (28, .ifCond .eq 17, 3, 45, 0, 0), (31, .iload 4, 2, 0, 0, 0)],
  [(33, .aload_n f0, 1, 0, 0, 0), (34, .getfield 9, 3, 6, 0, 1), (37, .iload 5, 2, 0, 0, 0), (39, .iaload, 1, 0, 0, 0), (40, .iload_n f1, 1, 0, 0, 0), (41, .iand, 1, 0, 0, 0), (42, .ior, 1, 0, 0, 0), (43, .istore 4, 2, 0, 0, 0), (45, .iinc 5 1, 3, 0, 0, 0)],
  [(48, .goto (-32), 3, 16, 0, 0), (51, .iload_n f2, 1, 0, 0, 0), (52, .iconst 4, 1, 4, 0, 0), (53, .iload_n f3, 1, 0, 0, 0), (54, .invokestatic 77, 3, 182, 1, 1), (57, .isub, 1, 0, 0, 0), (58, .iload 4, 2, 0, 0, 0), (60, .invokestatic 77, 3, 182, 1, 1), (63, .iadd, 1, 0, 0, 0)],
  [(64, .invokestatic 82, 3, 34, 2, 1), (67, .istore_n f2, 1, 0, 0, 0), (68, .iinc 3 1, 3, 0, 0, 0), (71, .goto (-67), 3, 4, 0, 0), (74, .iload_n f2, 1, 0, 0, 0), (75, .ireturn, 1, 0, 0, 0)]]
/-- ToolUnion$Planner.prepare(LToolUnion$Yard;LToolUnion$Judge;)V -/
def cd_231 : List (List EEw) := [
  [(0, .aload_n f0, 1, 0, 0, 0), (1, .aload_n f1, 1, 0, 0, 0), (2, .getfield 30, 3, 10, 2, 1), (5, .getfield 36, 3, 1, 0, 0), (8, .invokevirtual 42, 3, 228, 1, 26), (11, .aload_n f0, 1, 0, 0, 0), (12, .dup, 1, 0, 0, 0), (13, .getfield 46, 3, 6, 6, 0)],
  [(16, .iconst 1, 1, 1, 0, 0), (17, .iadd, 1, 0, 0, 0), (18, .putfield 46, 3, 6, 6, 0), (21, .iconst 0, 1, 0, 0, 0), (22, .istore_n f3, 1, 0, 0, 0), (23, .iload_n f3, 1, 0, 0, 0), (24, .iconst 4, 1, 4, 0, 0), (25, .if_icmp .ge 36, 3, 61, 0, 0), (28, .aload_n f0, 1, 0, 0, 0), (29, .getfield 9, 3, 6, 0, 1)],
  [(32, .iload_n f3, 1, 0, 0, 0), (33, .iload_n f3, 1, 0, 0, 0), (34, .aload_n f1, 1, 0, 0, 0), (35, .getfield 49, 3, 10, 0, 1), (38, .getfield 53, 3, 0, 1, 0), (41, .if_icmp .ge 12, 3, 53, 0, 0), (44, .aload_n f2, 1, 0, 0, 0), (45, .aload_n f1, 1, 0, 0, 0), (46, .iload_n f3, 1, 0, 0, 0), (47, .invokevirtual 58, 3, 185, 2, 9)],
  [(50, .goto 4, 3, 54, 0, 0), (53, .iconst 0, 1, 0, 0, 0), (54, .iastore, 1, 0, 0, 0), (55, .iinc 3 1, 3, 0, 0, 0), (58, .goto (-35), 3, 23, 0, 0), (61, .iconst 0, 1, 0, 0, 0), (62, .istore_n f3, 1, 0, 0, 0), (63, .iload_n f3, 1, 0, 0, 0)],
  [(64, .bipush 16, 2, 16, 0, 0), (66, .if_icmp .ge 41, 3, 107, 0, 0), (69, .aload_n f0, 1, 0, 0, 0), (70, .getfield 18, 3, 6, 2, 1), (73, .iload_n f3, 1, 0, 0, 0), (74, .aload_n f1, 1, 0, 0, 0), (75, .getfield 30, 3, 10, 2, 1), (78, .iload_n f3, 1, 0, 0, 0), (79, .invokevirtual 64, 3, 229, 1, 5)],
  [(82, .iastore, 1, 0, 0, 0), (83, .aload_n f0, 1, 0, 0, 0), (84, .getfield 15, 3, 6, 1, 1), (87, .iload_n f3, 1, 0, 0, 0), (88, .aload_n f0, 1, 0, 0, 0), (89, .aload_n f1, 1, 0, 0, 0), (90, .getfield 49, 3, 10, 0, 1), (93, .iload_n f3, 1, 0, 0, 0), (94, .invokevirtual 67, 3, 209, 1, 1)],
  [(97, .invokevirtual 70, 3, 230, 1, 25), (100, .iastore, 1, 0, 0, 0), (101, .iinc 3 1, 3, 0, 0, 0), (104, .goto (-41), 3, 63, 0, 0), (107, .return_, 1, 0, 0, 0)]]
/-- ToolUnion$Planner.unfinished(LToolUnion$Yard;)I -/
def cd_232 : List (List EEw) := [
  [(0, .iconst 0, 1, 0, 0, 0), (1, .istore_n f2, 1, 0, 0, 0), (2, .iconst 0, 1, 0, 0, 0), (3, .istore_n f3, 1, 0, 0, 0), (4, .iload_n f3, 1, 0, 0, 0), (5, .aload_n f1, 1, 0, 0, 0), (6, .getfield 30, 3, 10, 2, 1), (9, .getfield 36, 3, 1, 0, 0), (12, .if_icmp .ge 43, 3, 55, 0, 0), (15, .iload_n f3, 1, 0, 0, 0)],
  [(16, .bipush 8, 2, 8, 0, 0), (18, .if_icmp .ge 37, 3, 55, 0, 0), (21, .iload_n f2, 1, 0, 0, 0), (22, .aload_n f1, 1, 0, 0, 0), (23, .getfield 30, 3, 10, 2, 1), (26, .getfield 88, 3, 1, 2, 1), (29, .iload_n f3, 1, 0, 0, 0), (30, .iaload, 1, 0, 0, 0), (31, .aload_n f1, 1, 0, 0, 0)],
  [(32, .getfield 91, 3, 10, 1, 1), (35, .getfield 95, 3, 5, 4, 1), (38, .iload_n f3, 1, 0, 0, 0), (39, .iaload, 1, 0, 0, 0), (40, .isub, 1, 0, 0, 0), (41, .iconst 3, 1, 3, 0, 0), (42, .iand, 1, 0, 0, 0), (43, .iconst 2, 1, 2, 0, 0), (44, .iload_n f3, 1, 0, 0, 0), (45, .imul, 1, 0, 0, 0), (46, .ishl, 1, 0, 0, 0), (47, .ior, 1, 0, 0, 0)],
  [(48, .istore_n f2, 1, 0, 0, 0), (49, .iinc 3 1, 3, 0, 0, 0), (52, .goto (-48), 3, 4, 0, 0), (55, .iload_n f2, 1, 0, 0, 0), (56, .ireturn, 1, 0, 0, 0)]]
/-- ToolUnion$Planner.longestAhead(II)I -/
def cd_233 : List (List EEw) := [
  [(0, .iconst 0, 1, 0, 0, 0), (1, .istore_n f3, 1, 0, 0, 0), (2, .iconst 0, 1, 0, 0, 0), (3, .istore 4, 2, 0, 0, 0), (5, .iload 4, 2, 0, 0, 0), (7, .iload_n f2, 1, 0, 0, 0), (8, .if_icmp .ge 30, 3, 38, 0, 0), (11, .iload_n f1, 1, 0, 0, 0), (12, .iload 4, 2, 0, 0, 0), (14, .invokestatic 73, 3, 48, 2, 1)],
  [(17, .ifCond .eq 15, 3, 32, 0, 0), (20, .iload_n f3, 1, 0, 0, 0), (21, .aload_n f0, 1, 0, 0, 0), (22, .getfield 21, 3, 6, 3, 1), (25, .iload 4, 2, 0, 0, 0), (27, .iaload, 1, 0, 0, 0), (28, .invokestatic 133, 3, 38, 2, 1), (31, .istore_n f3, 1, 0, 0, 0)],
  [(32, .iinc 4 1, 3, 0, 0, 0), (35, .goto (-30), 3, 5, 0, 0), (38, .iload_n f3, 1, 0, 0, 0), (39, .ireturn, 1, 0, 0, 0)]]
/-- ToolUnion$Planner.hoursOf(I)I -/
def cd_234 : List (List EEw) := [
  [(0, .iconst 0, 1, 0, 0, 0), (1, .istore_n f2, 1, 0, 0, 0), (2, .iconst 0, 1, 0, 0, 0), (3, .istore_n f3, 1, 0, 0, 0), (4, .iload_n f3, 1, 0, 0, 0), (5, .iconst 4, 1, 4, 0, 0), (6, .if_icmp .ge 26, 3, 32, 0, 0), (9, .iload_n f1, 1, 0, 0, 0), (10, .iload_n f3, 1, 0, 0, 0), (11, .invokestatic 73, 3, 48, 2, 1), (14, .ifCond .eq 12, 3, 26, 0, 0)],
  [(17, .iload_n f2, 1, 0, 0, 0), (18, .aload_n f0, 1, 0, 0, 0), (19, .getfield 24, 3, 6, 4, 1), (22, .iload_n f3, 1, 0, 0, 0), (23, .iaload, 1, 0, 0, 0), (24, .iadd, 1, 0, 0, 0), (25, .istore_n f2, 1, 0, 0, 0), (26, .iinc 3 1, 3, 0, 0, 0), (29, .goto (-25), 3, 4, 0, 0)],
  [(32, .iload_n f2, 1, 0, 0, 0), (33, .ireturn, 1, 0, 0, 0)]]
/-- ToolUnion$Planner.atLeast(LToolUnion$Hull;I)I -/
def cd_235 : List (List EEw) := [
  [(0, .iconst 0, 1, 0, 0, 0), (1, .istore_n f3, 1, 0, 0, 0), (2, .iload_n f3, 1, 0, 0, 0), (3, .iconst 4, 1, 4, 0, 0), (4, .if_icmp .ge 16, 3, 20, 0, 0), (7, .aload_n f0, 1, 0, 0, 0), (8, .getfield 24, 3, 6, 4, 1), (11, .iload_n f3, 1, 0, 0, 0), (12, .iconst 0, 1, 0, 0, 0), (13, .iastore, 1, 0, 0, 0), (14, .iinc 3 1, 3, 0, 0, 0)],
  [(17, .goto (-15), 3, 2, 0, 0), (20, .iconst 0, 1, 0, 0, 0), (21, .istore_n f3, 1, 0, 0, 0), (22, .iconst 0, 1, 0, 0, 0), (23, .istore 4, 2, 0, 0, 0), (25, .iload 4, 2, 0, 0, 0), (27, .aload_n f1, 1, 0, 0, 0), (28, .getfield 36, 3, 1, 0, 0), (31, .if_icmp .ge 80, 3, 111, 0, 0)],
  [(34, .iload 4, 2, 0, 0, 0), (36, .bipush 8, 2, 8, 0, 0), (38, .if_icmp .ge 73, 3, 111, 0, 0), (41, .iload_n f2, 1, 0, 0, 0), (42, .iconst 2, 1, 2, 0, 0), (43, .iload 4, 2, 0, 0, 0), (45, .imul, 1, 0, 0, 0), (46, .ishr, 1, 0, 0, 0), (47, .iconst 3, 1, 3, 0, 0)],
  [(48, .iand, 1, 0, 0, 0), (49, .istore 5, 2, 0, 0, 0), (51, .aload_n f0, 1, 0, 0, 0), (52, .getfield 24, 3, 6, 4, 1), (55, .aload_n f1, 1, 0, 0, 0), (56, .getfield 124, 3, 1, 1, 1), (59, .iload 4, 2, 0, 0, 0), (61, .iaload, 1, 0, 0, 0), (62, .iconst 3, 1, 3, 0, 0), (63, .iand, 1, 0, 0, 0)],
  [(64, .dup2, 1, 0, 0, 0), (65, .iaload, 1, 0, 0, 0), (66, .iload 5, 2, 0, 0, 0), (68, .iadd, 1, 0, 0, 0), (69, .iastore, 1, 0, 0, 0), (70, .aload_n f0, 1, 0, 0, 0), (71, .getfield 21, 3, 6, 3, 1), (74, .iload 4, 2, 0, 0, 0), (76, .iload 5, 2, 0, 0, 0), (78, .aload_n f0, 1, 0, 0, 0), (79, .aload_n f1, 1, 0, 0, 0)],
  [(80, .getfield 127, 3, 1, 3, 1), (83, .iload 4, 2, 0, 0, 0), (85, .iaload, 1, 0, 0, 0), (86, .iload 4, 2, 0, 0, 0), (88, .invokevirtual 130, 3, 233, 2, 25), (91, .iadd, 1, 0, 0, 0), (92, .iastore, 1, 0, 0, 0), (93, .iload_n f3, 1, 0, 0, 0), (94, .aload_n f0, 1, 0, 0, 0), (95, .getfield 21, 3, 6, 3, 1)],
  [(98, .iload 4, 2, 0, 0, 0), (100, .iaload, 1, 0, 0, 0), (101, .invokestatic 133, 3, 38, 2, 1), (104, .istore_n f3, 1, 0, 0, 0), (105, .iinc 4 1, 3, 0, 0, 0), (108, .goto (-83), 3, 25, 0, 0), (111, .iconst 1, 1, 1, 0, 0)],
  [(112, .istore 4, 2, 0, 0, 0), (114, .iload 4, 2, 0, 0, 0), (116, .bipush 16, 2, 16, 0, 0), (118, .if_icmp .ge 46, 3, 164, 0, 0), (121, .aload_n f0, 1, 0, 0, 0), (122, .iload 4, 2, 0, 0, 0), (124, .invokevirtual 136, 3, 234, 1, 25), (127, .istore 5, 2, 0, 0, 0)],
  [(129, .aload_n f0, 1, 0, 0, 0), (130, .getfield 15, 3, 6, 1, 1), (133, .iload 4, 2, 0, 0, 0), (135, .iaload, 1, 0, 0, 0), (136, .istore 6, 2, 0, 0, 0), (138, .iload 6, 2, 0, 0, 0), (140, .ifCond .le 18, 3, 158, 0, 0), (143, .iload_n f3, 1, 0, 0, 0)],
  [(144, .iload 5, 2, 0, 0, 0), (146, .iload 6, 2, 0, 0, 0), (148, .iadd, 1, 0, 0, 0), (149, .iconst 1, 1, 1, 0, 0), (150, .isub, 1, 0, 0, 0), (151, .iload 6, 2, 0, 0, 0), (153, .idiv, 1, 0, 0, 0), (154, .invokestatic 133, 3, 38, 2, 1), (157, .istore_n f3, 1, 0, 0, 0), (158, .iinc 4 1, 3, 0, 0, 0)],
  [(161, .goto (-47), 3, 114, 0, 0), (164, .iload_n f3, 1, 0, 0, 0), (165, .ireturn, 1, 0, 0, 0)]]
/-- ToolUnion$Planner.openOf(LToolUnion$Hull;I)I -/
def cd_236 : List (List EEw) := [
  [(0, .iconst 0, 1, 0, 0, 0), (1, .istore_n f2, 1, 0, 0, 0), (2, .iconst 0, 1, 0, 0, 0), (3, .istore_n f3, 1, 0, 0, 0), (4, .iconst 0, 1, 0, 0, 0), (5, .istore 4, 2, 0, 0, 0), (7, .iload 4, 2, 0, 0, 0), (9, .aload_n f0, 1, 0, 0, 0), (10, .getfield 36, 3, 1, 0, 0), (13, .if_icmp .ge 53, 3, 66, 0, 0)],
  [(16, .iload 4, 2, 0, 0, 0), (18, .bipush 8, 2, 8, 0, 0), (20, .if_icmp .ge 46, 3, 66, 0, 0), (23, .iload_n f1, 1, 0, 0, 0), (24, .iconst 2, 1, 2, 0, 0), (25, .iload 4, 2, 0, 0, 0), (27, .imul, 1, 0, 0, 0), (28, .ishr, 1, 0, 0, 0), (29, .iconst 3, 1, 3, 0, 0), (30, .iand, 1, 0, 0, 0), (31, .ifCond .eq 29, 3, 60, 0, 0)],
  [(34, .aload_n f0, 1, 0, 0, 0), (35, .getfield 127, 3, 1, 3, 1), (38, .iload 4, 2, 0, 0, 0), (40, .iaload, 1, 0, 0, 0), (41, .iload_n f2, 1, 0, 0, 0), (42, .iand, 1, 0, 0, 0), (43, .ifCond .ne 10, 3, 53, 0, 0), (46, .iload_n f3, 1, 0, 0, 0), (47, .iconst 1, 1, 1, 0, 0)],
  [(48, .iload 4, 2, 0, 0, 0), (50, .ishl, 1, 0, 0, 0), (51, .ior, 1, 0, 0, 0), (52, .istore_n f3, 1, 0, 0, 0), (53, .iload_n f2, 1, 0, 0, 0), (54, .iconst 1, 1, 1, 0, 0), (55, .iload 4, 2, 0, 0, 0), (57, .ishl, 1, 0, 0, 0), (58, .ior, 1, 0, 0, 0), (59, .istore_n f2, 1, 0, 0, 0), (60, .iinc 4 1, 3, 0, 0, 0), (63, .goto (-56), 3, 7, 0, 0)],
  [(66, .iload_n f3, 1, 0, 0, 0), (67, .ireturn, 1, 0, 0, 0)]]
/-- ToolUnion$Planner.mostAtOnce(I)I -/
def cd_237 : List (List EEw) := [
  [(0, .iload_n f1, 1, 0, 0, 0), (1, .invokestatic 77, 3, 182, 1, 1), (4, .istore_n f2, 1, 0, 0, 0), (5, .iconst 1, 1, 1, 0, 0), (6, .istore_n f3, 1, 0, 0, 0), (7, .iload_n f3, 1, 0, 0, 0), (8, .bipush 16, 2, 16, 0, 0), (10, .if_icmp .ge 34, 3, 44, 0, 0), (13, .iload_n f2, 1, 0, 0, 0), (14, .aload_n f0, 1, 0, 0, 0), (15, .getfield 15, 3, 6, 1, 1)],
  [(18, .iload_n f3, 1, 0, 0, 0), (19, .iaload, 1, 0, 0, 0), (20, .iload_n f1, 1, 0, 0, 0), (21, .aload_n f0, 1, 0, 0, 0), (22, .getfield 18, 3, 6, 2, 1), (25, .iload_n f3, 1, 0, 0, 0), (26, .iaload, 1, 0, 0, 0), (27, .iconst (-1), 1, 4294967295, 0, 0), (28, .ixor, 1, 0, 0, 0), (29, .iand, 1, 0, 0, 0), (30, .invokestatic 77, 3, 182, 1, 1)],
  [(33, .iadd, 1, 0, 0, 0), (34, .invokestatic 82, 3, 34, 2, 1), (37, .istore_n f2, 1, 0, 0, 0), (38, .iinc 3 1, 3, 0, 0, 0), (41, .goto (-34), 3, 7, 0, 0), (44, .iload_n f2, 1, 0, 0, 0), (45, .ireturn, 1, 0, 0, 0)]]
/-- ToolUnion$Planner.canGoOn(I)Z -/
def cd_238 : List (List EEw) := [
  [(0, .iconst 1, 1, 1, 0, 0), (1, .istore_n f2, 1, 0, 0, 0), (2, .iload_n f2, 1, 0, 0, 0), (3, .bipush 16, 2, 16, 0, 0), (5, .if_icmp .ge 31, 3, 36, 0, 0), (8, .iload_n f1, 1, 0, 0, 0), (9, .aload_n f0, 1, 0, 0, 0), (10, .getfield 18, 3, 6, 2, 1), (13, .iload_n f2, 1, 0, 0, 0), (14, .iaload, 1, 0, 0, 0), (15, .iand, 1, 0, 0, 0)],
  [(16, .invokestatic 77, 3, 182, 1, 1), (19, .aload_n f0, 1, 0, 0, 0), (20, .getfield 15, 3, 6, 1, 1), (23, .iload_n f2, 1, 0, 0, 0), (24, .iaload, 1, 0, 0, 0), (25, .if_icmp .le 5, 3, 30, 0, 0), (28, .iconst 0, 1, 0, 0, 0), (29, .ireturn, 1, 0, 0, 1), (30, .iinc 2 1, 3, 0, 0, 0)],
  [(33, .goto (-31), 3, 2, 0, 0), (36, .iconst 1, 1, 1, 0, 0), (37, .ireturn, 1, 0, 0, 1)]]
/-- ToolUnion$Planner.spread(I)I -/
def cd_239 : List (List EEw) := [
  [(0, .iload_n f0, 1, 0, 0, 0), (1, .iload_n f0, 1, 0, 0, 0), (2, .iconst 4, 1, 4, 0, 0), (3, .ishl, 1, 0, 0, 0), (4, .ior, 1, 0, 0, 0), (5, .sipush 3855, 3, 3855, 0, 0), (8, .iand, 1, 0, 0, 0), (9, .istore_n f1, 1, 0, 0, 0), (10, .iload_n f1, 1, 0, 0, 0), (11, .iload_n f1, 1, 0, 0, 0), (12, .iconst 2, 1, 2, 0, 0), (13, .ishl, 1, 0, 0, 0), (14, .ior, 1, 0, 0, 0), (15, .sipush 13107, 3, 13107, 0, 0)],
  [(18, .iand, 1, 0, 0, 0), (19, .istore_n f1, 1, 0, 0, 0), (20, .iload_n f1, 1, 0, 0, 0), (21, .iload_n f1, 1, 0, 0, 0), (22, .iconst 1, 1, 1, 0, 0), (23, .ishl, 1, 0, 0, 0), (24, .ior, 1, 0, 0, 0), (25, .sipush 21845, 3, 21845, 0, 0), (28, .iand, 1, 0, 0, 0), (29, .ireturn, 1, 0, 0, 0)]]
/-- ToolUnion$Planner.fewestByFirst(LToolUnion$Hull;II)I -/
def cd_240 : List (List EEw) := [
  [(0, .aload_n f0, 1, 0, 0, 0), (1, .aload_n f1, 1, 0, 0, 0), (2, .iload_n f2, 1, 0, 0, 0), (3, .invokevirtual 107, 3, 235, 2, 25), (6, .istore 4, 2, 0, 0, 0), (8, .aload_n f1, 1, 0, 0, 0), (9, .iload_n f2, 1, 0, 0, 0), (10, .invokestatic 111, 3, 236, 2, 1), (13, .istore 5, 2, 0, 0, 0), (15, .aload_n f0, 1, 0, 0, 0)],
  [(16, .iload 5, 2, 0, 0, 0), (18, .invokevirtual 114, 3, 237, 1, 25), (21, .istore 6, 2, 0, 0, 0), (23, .bipush 31, 2, 31, 0, 0), (25, .istore 7, 2, 0, 0, 0), (27, .iload 5, 2, 0, 0, 0), (29, .istore 8, 2, 0, 0, 0), (31, .iload 8, 2, 0, 0, 0)],
  [(33, .ifCond .le 65, 3, 98, 0, 0), (36, .iload 7, 2, 0, 0, 0), (38, .iload 4, 2, 0, 0, 0), (40, .if_icmp .le 58, 3, 98, 0, 0), (43, .iload 8, 2, 0, 0, 0), (45, .invokestatic 77, 3, 182, 1, 1)],
  [(48, .iload 6, 2, 0, 0, 0), (50, .if_icmp .ne 36, 3, 86, 0, 0), (53, .aload_n f0, 1, 0, 0, 0), (54, .iload 8, 2, 0, 0, 0), (56, .invokevirtual 117, 3, 238, 1, 25), (59, .ifCond .eq 27, 3, 86, 0, 0), (62, .iload 7, 2, 0, 0, 0)],
  [(64, .iconst 1, 1, 1, 0, 0), (65, .aload_n f0, 1, 0, 0, 0), (66, .aload_n f1, 1, 0, 0, 0), (67, .iload_n f2, 1, 0, 0, 0), (68, .iload 8, 2, 0, 0, 0), (70, .invokestatic 121, 3, 239, 1, 1), (73, .isub, 1, 0, 0, 0), (74, .iload_n f3, 1, 0, 0, 0), (75, .iconst 1, 1, 1, 0, 0), (76, .iadd, 1, 0, 0, 0), (77, .invokevirtual 100, 3, 241, 3, 25)],
  [(80, .iadd, 1, 0, 0, 0), (81, .invokestatic 82, 3, 34, 2, 1), (84, .istore 7, 2, 0, 0, 0), (86, .iload 8, 2, 0, 0, 0), (88, .iconst 1, 1, 1, 0, 0), (89, .isub, 1, 0, 0, 0), (90, .iload 5, 2, 0, 0, 0), (92, .iand, 1, 0, 0, 0), (93, .istore 8, 2, 0, 0, 0), (95, .goto (-64), 3, 31, 0, 0)],
  [(98, .iload 7, 2, 0, 0, 0), (100, .ireturn, 1, 0, 0, 0)]]
/-- ToolUnion$Planner.fewest(LToolUnion$Hull;II)I -/
def cd_241 : List (List EEw) := [
  [(0, .iload_n f2, 1, 0, 0, 0), (1, .ifCond .ne 5, 3, 6, 0, 0), (4, .iconst 0, 1, 0, 0, 0), (5, .ireturn, 1, 0, 0, 0), (6, .iload_n f2, 1, 0, 0, 0), (7, .ifCond .lt 18, 3, 25, 0, 0), (10, .iload_n f2, 1, 0, 0, 0), (11, .aload_n f0, 1, 0, 0, 0), (12, .getfield 27, 3, 6, 5, 1), (15, .arraylength, 1, 0, 0, 0)],
  [(16, .if_icmp .ge 9, 3, 25, 0, 0), (19, .iload_n f3, 1, 0, 0, 0), (20, .bipush 24, 2, 24, 0, 0), (22, .if_icmp .le 6, 3, 28, 0, 0), (25, .bipush 31, 2, 31, 0, 0), (27, .ireturn, 1, 0, 0, 0), (28, .aload_n f0, 1, 0, 0, 0), (29, .getfield 27, 3, 6, 5, 1)],
  [(32, .iload_n f2, 1, 0, 0, 0), (33, .iaload, 1, 0, 0, 0), (34, .iconst 5, 1, 5, 0, 0), (35, .ishr, 1, 0, 0, 0), (36, .aload_n f0, 1, 0, 0, 0), (37, .getfield 46, 3, 6, 6, 0), (40, .if_icmp .eq 23, 3, 63, 0, 0), (43, .aload_n f0, 1, 0, 0, 0), (44, .getfield 27, 3, 6, 5, 1), (47, .iload_n f2, 1, 0, 0, 0)],
  [(48, .aload_n f0, 1, 0, 0, 0), (49, .getfield 46, 3, 6, 6, 0), (52, .iconst 5, 1, 5, 0, 0), (53, .ishl, 1, 0, 0, 0), (54, .aload_n f0, 1, 0, 0, 0), (55, .aload_n f1, 1, 0, 0, 0), (56, .iload_n f2, 1, 0, 0, 0), (57, .iload_n f3, 1, 0, 0, 0), (58, .invokevirtual 104, 3, 240, 3, 25), (61, .ior, 1, 0, 0, 0), (62, .iastore, 1, 0, 0, 0), (63, .aload_n f0, 1, 0, 0, 0)],
  [(64, .getfield 27, 3, 6, 5, 1), (67, .iload_n f2, 1, 0, 0, 0), (68, .iaload, 1, 0, 0, 0), (69, .bipush 31, 2, 31, 0, 0), (71, .iand, 1, 0, 0, 0), (72, .ireturn, 1, 0, 0, 0)]]
/-- ToolUnion$Planner.hoursFor(LToolUnion$Hull;I)I -/
def cd_242 : List (List EEw) := [
  [(0, .aload_n f0, 1, 0, 0, 0), (1, .aload_n f1, 1, 0, 0, 0), (2, .iload_n f2, 1, 0, 0, 0), (3, .iconst 0, 1, 0, 0, 0), (4, .invokevirtual 100, 3, 241, 3, 25), (7, .ireturn, 1, 0, 0, 0)]]
/-- ToolUnion$Planner.firstSet(LToolUnion$Hull;I)I -/
def cd_243 : List (List EEw) := [
  [(0, .aload_n f0, 1, 0, 0, 0), (1, .aload_n f1, 1, 0, 0, 0), (2, .iload_n f2, 1, 0, 0, 0), (3, .iconst 0, 1, 0, 0, 0), (4, .invokevirtual 100, 3, 241, 3, 25), (7, .iconst 1, 1, 1, 0, 0), (8, .isub, 1, 0, 0, 0), (9, .istore_n f3, 1, 0, 0, 0), (10, .aload_n f1, 1, 0, 0, 0), (11, .iload_n f2, 1, 0, 0, 0), (12, .invokestatic 111, 3, 236, 2, 1), (15, .istore 4, 2, 0, 0, 0)],
  [(17, .iconst 1, 1, 1, 0, 0), (18, .istore 5, 2, 0, 0, 0), (20, .iload 5, 2, 0, 0, 0), (22, .iload 4, 2, 0, 0, 0), (24, .if_icmp .gt 63, 3, 87, 0, 0), (27, .iload 5, 2, 0, 0, 0), (29, .iload 4, 2, 0, 0, 0), (31, .iconst (-1), 1, 4294967295, 0, 0)],
  [(32, .ixor, 1, 0, 0, 0), (33, .iand, 1, 0, 0, 0), (34, .ifCond .ne 47, 3, 81, 0, 0), (37, .aload_n f0, 1, 0, 0, 0), (38, .iload 5, 2, 0, 0, 0), (40, .invokevirtual 117, 3, 238, 1, 25), (43, .ifCond .eq 38, 3, 81, 0, 0), (46, .iload_n f2, 1, 0, 0, 0), (47, .iload 5, 2, 0, 0, 0)],
  [(49, .invokestatic 121, 3, 239, 1, 1), (52, .isub, 1, 0, 0, 0), (53, .istore 6, 2, 0, 0, 0), (55, .aload_n f0, 1, 0, 0, 0), (56, .aload_n f1, 1, 0, 0, 0), (57, .iload 6, 2, 0, 0, 0), (59, .invokevirtual 107, 3, 235, 2, 25), (62, .iload_n f3, 1, 0, 0, 0), (63, .if_icmp .gt 18, 3, 81, 0, 0)],
  [(66, .aload_n f0, 1, 0, 0, 0), (67, .aload_n f1, 1, 0, 0, 0), (68, .iload 6, 2, 0, 0, 0), (70, .iconst 1, 1, 1, 0, 0), (71, .invokevirtual 100, 3, 241, 3, 25), (74, .iload_n f3, 1, 0, 0, 0), (75, .if_icmp .gt 6, 3, 81, 0, 0), (78, .iload 5, 2, 0, 0, 0)],
  [(80, .ireturn, 1, 0, 0, 0), (81, .iinc 5 1, 3, 0, 0, 0), (84, .goto (-64), 3, 20, 0, 0), (87, .iconst 0, 1, 0, 0, 0), (88, .ireturn, 1, 0, 0, 0)]]
/-- ToolUnion.soonest(I)I -/
def cd_244 : List (List EEw) := [
  [(0, .iload_n f1, 1, 0, 0, 0), (1, .iconst 1, 1, 1, 0, 0), (2, .invokestatic 84, 3, 17, 2, 1), (5, .ifCond .ne 5, 3, 10, 0, 0), (8, .iconst (-1), 1, 4294967295, 0, 0), (9, .ireturn, 1, 0, 0, 0), (10, .aload_n f0, 1, 0, 0, 0), (11, .getfield 10, 3, 11, 0, 1), (14, .getfield 208, 3, 10, 2, 1)],
  [(17, .aload_n f0, 1, 0, 0, 0), (18, .getfield 10, 3, 11, 0, 1), (21, .getfield 65, 3, 10, 1, 1), (24, .invokevirtual 310, 3, 226, 1, 5), (27, .istore_n f2, 1, 0, 0, 0), (28, .iload_n f2, 1, 0, 0, 0), (29, .aload_n f0, 1, 0, 0, 0), (30, .getfield 40, 3, 11, 8, 1)],
  [(33, .aload_n f0, 1, 0, 0, 0), (34, .getfield 10, 3, 11, 0, 1), (37, .invokevirtual 314, 3, 227, 1, 9), (40, .iconst (-1), 1, 4294967295, 0, 0), (41, .ixor, 1, 0, 0, 0), (42, .iand, 1, 0, 0, 0), (43, .ifCond .eq 5, 3, 48, 0, 0), (46, .iconst (-1), 1, 4294967295, 0, 0), (47, .ireturn, 1, 0, 0, 0)],
  [(48, .aload_n f0, 1, 0, 0, 0), (49, .getfield 54, 3, 11, 10, 1), (52, .aload_n f0, 1, 0, 0, 0), (53, .getfield 10, 3, 11, 0, 1), (56, .aload_n f0, 1, 0, 0, 0), (57, .getfield 40, 3, 11, 8, 1), (60, .invokevirtual 318, 3, 231, 2, 26), (63, .aload_n f0, 1, 0, 0, 0)],
  [(64, .getfield 54, 3, 11, 10, 1), (67, .aload_n f0, 1, 0, 0, 0), (68, .getfield 10, 3, 11, 0, 1), (71, .invokevirtual 321, 3, 232, 1, 25), (74, .istore_n f3, 1, 0, 0, 0), (75, .iload_n f1, 1, 0, 0, 0), (76, .ifCond .ne 21, 3, 97, 0, 0), (79, .aload_n f0, 1, 0, 0, 0)],
  [(80, .getfield 54, 3, 11, 10, 1), (83, .aload_n f0, 1, 0, 0, 0), (84, .getfield 10, 3, 11, 0, 1), (87, .getfield 208, 3, 10, 2, 1), (90, .iload_n f3, 1, 0, 0, 0), (91, .invokevirtual 324, 3, 242, 2, 25), (94, .goto 18, 3, 112, 0, 0)],
  [(97, .aload_n f0, 1, 0, 0, 0), (98, .getfield 54, 3, 11, 10, 1), (101, .aload_n f0, 1, 0, 0, 0), (102, .getfield 10, 3, 11, 0, 1), (105, .getfield 208, 3, 10, 2, 1), (108, .iload_n f3, 1, 0, 0, 0), (109, .invokevirtual 328, 3, 243, 2, 25)],
  [(112, .ireturn, 1, 0, 0, 0)]]
/-- ToolUnionModel.allWorks()I -/
def cd_245 : List (List EEw) := [
  [(0, .iconst 1, 1, 1, 0, 0), (1, .aload_n f0, 1, 0, 0, 0), (2, .getfield 7, 3, 12, 0, 1), (5, .bipush 98, 2, 98, 0, 0), (7, .iaload, 1, 0, 0, 0), (8, .ishl, 1, 0, 0, 0), (9, .iconst 1, 1, 1, 0, 0), (10, .isub, 1, 0, 0, 0), (11, .ireturn, 1, 0, 0, 0)]]
/-- ToolUnionModel.takesOne(I)Z -/
def cd_246 : List (List EEw) := [
  [(0, .iconst 0, 1, 0, 0, 0), (1, .istore_n f2, 1, 0, 0, 0), (2, .sipush 4095, 3, 4095, 0, 0), (5, .istore_n f3, 1, 0, 0, 0), (6, .iload_n f3, 1, 0, 0, 0), (7, .ifCond .lt 146, 3, 153, 0, 0), (10, .aload_n f0, 1, 0, 0, 0), (11, .getfield 48, 3, 12, 32, 1), (14, .iload_n f3, 1, 0, 0, 0), (15, .baload, 1, 0, 0, 0)],
  [(16, .ifCond .ne 6, 3, 22, 0, 0), (19, .goto 128, 3, 147, 0, 0), (22, .aload_n f0, 1, 0, 0, 0), (23, .getfield 48, 3, 12, 32, 1), (26, .iload_n f3, 1, 0, 0, 0), (27, .iconst 0, 1, 0, 0, 0), (28, .bastore, 1, 0, 0, 0), (29, .iconst 0, 1, 0, 0, 0), (30, .istore 4, 2, 0, 0, 0)],
  [(32, .iload 4, 2, 0, 0, 0), (34, .aload_n f0, 1, 0, 0, 0), (35, .getfield 7, 3, 12, 0, 1), (38, .bipush 96, 2, 96, 0, 0), (40, .iaload, 1, 0, 0, 0), (41, .if_icmp .ge 106, 3, 147, 0, 0), (44, .iload_n f3, 1, 0, 0, 0), (45, .iload 4, 2, 0, 0, 0), (47, .ishr, 1, 0, 0, 0)],
  [(48, .iconst 1, 1, 1, 0, 0), (49, .iand, 1, 0, 0, 0), (50, .iconst 1, 1, 1, 0, 0), (51, .if_icmp .eq 90, 3, 141, 0, 0), (54, .aload_n f0, 1, 0, 0, 0), (55, .iload 4, 2, 0, 0, 0), (57, .iconst 0, 1, 0, 0, 0), (58, .invokevirtual 313, 3, 44, 2, 49), (61, .iload_n f1, 1, 0, 0, 0), (62, .if_icmp .eq 6, 3, 68, 0, 0)],
  [(65, .goto 76, 3, 141, 0, 0), (68, .iconst 0, 1, 0, 0, 0), (69, .istore 5, 2, 0, 0, 0), (71, .iload 5, 2, 0, 0, 0), (73, .aload_n f0, 1, 0, 0, 0), (74, .getfield 7, 3, 12, 0, 1), (77, .bipush 97, 2, 97, 0, 0), (79, .iaload, 1, 0, 0, 0)],
  [(80, .if_icmp .ge 61, 3, 141, 0, 0), (83, .iload_n f3, 1, 0, 0, 0), (84, .bipush 8, 2, 8, 0, 0), (86, .iload 5, 2, 0, 0, 0), (88, .iadd, 1, 0, 0, 0), (89, .ishr, 1, 0, 0, 0), (90, .iconst 1, 1, 1, 0, 0), (91, .iand, 1, 0, 0, 0), (92, .iconst 1, 1, 1, 0, 0), (93, .if_icmp .eq 42, 3, 135, 0, 0)],
  [(96, .aload_n f0, 1, 0, 0, 0), (97, .getfield 51, 3, 12, 33, 1), (100, .iconst 4, 1, 4, 0, 0), (101, .iload 4, 2, 0, 0, 0), (103, .imul, 1, 0, 0, 0), (104, .iload 5, 2, 0, 0, 0), (106, .iadd, 1, 0, 0, 0), (107, .baload, 1, 0, 0, 0), (108, .ifCond .ne 6, 3, 114, 0, 0), (111, .goto 24, 3, 135, 0, 0)],
  [(114, .aload_n f0, 1, 0, 0, 0), (115, .getfield 48, 3, 12, 32, 1), (118, .iload_n f3, 1, 0, 0, 0), (119, .iconst 1, 1, 1, 0, 0), (120, .iload 4, 2, 0, 0, 0), (122, .ishl, 1, 0, 0, 0), (123, .ior, 1, 0, 0, 0), (124, .sipush 256, 3, 256, 0, 0), (127, .iload 5, 2, 0, 0, 0)],
  [(129, .ishl, 1, 0, 0, 0), (130, .ior, 1, 0, 0, 0), (131, .iconst 1, 1, 1, 0, 0), (132, .bastore, 1, 0, 0, 0), (133, .iconst 1, 1, 1, 0, 0), (134, .istore_n f2, 1, 0, 0, 0), (135, .iinc 5 1, 3, 0, 0, 0), (138, .goto (-67), 3, 71, 0, 0), (141, .iinc 4 1, 3, 0, 0, 0)],
  [(144, .goto (-112), 3, 32, 0, 0), (147, .iinc 3 (-1), 3, 0, 0, 0), (150, .goto (-144), 3, 6, 0, 0), (153, .iload_n f2, 1, 0, 0, 0), (154, .ireturn, 1, 0, 0, 1)]]
/-- ToolUnionModel.canTogether(I)Z -/
def cd_247 : List (List EEw) := [
  [(0, .iconst 0, 1, 0, 0, 0), (1, .istore_n f2, 1, 0, 0, 0), (2, .iload_n f2, 1, 0, 0, 0), (3, .sipush 4096, 3, 4096, 0, 0), (6, .if_icmp .ge 24, 3, 30, 0, 0), (9, .aload_n f0, 1, 0, 0, 0), (10, .getfield 48, 3, 12, 32, 1), (13, .iload_n f2, 1, 0, 0, 0), (14, .iload_n f2, 1, 0, 0, 0), (15, .ifCond .ne 7, 3, 22, 0, 0)],
  [(18, .iconst 1, 1, 1, 0, 0), (19, .goto 4, 3, 23, 0, 0), (22, .iconst 0, 1, 0, 0, 0), (23, .bastore, 1, 0, 0, 0), (24, .iinc 2 1, 3, 0, 0, 0), (27, .goto (-25), 3, 2, 0, 0), (30, .iconst 0, 1, 0, 0, 0), (31, .istore_n f2, 1, 0, 0, 0)],
  [(32, .iload_n f2, 1, 0, 0, 0), (33, .aload_n f0, 1, 0, 0, 0), (34, .getfield 7, 3, 12, 0, 1), (37, .bipush 98, 2, 98, 0, 0), (39, .iaload, 1, 0, 0, 0), (40, .if_icmp .ge 33, 3, 73, 0, 0), (43, .iload_n f1, 1, 0, 0, 0), (44, .iload_n f2, 1, 0, 0, 0), (45, .ishr, 1, 0, 0, 0), (46, .iconst 1, 1, 1, 0, 0), (47, .iand, 1, 0, 0, 0)],
  [(48, .iconst 1, 1, 1, 0, 0), (49, .if_icmp .ne 18, 3, 67, 0, 0), (52, .aload_n f0, 1, 0, 0, 0), (53, .aload_n f0, 1, 0, 0, 0), (54, .iload_n f2, 1, 0, 0, 0), (55, .iconst 0, 1, 0, 0, 0), (56, .invokevirtual 337, 3, 76, 2, 49), (59, .invokevirtual 423, 3, 246, 1, 49), (62, .ifCond .ne 5, 3, 67, 0, 0)],
  [(65, .iconst 0, 1, 0, 0, 0), (66, .ireturn, 1, 0, 0, 1), (67, .iinc 2 1, 3, 0, 0, 0), (70, .goto (-38), 3, 32, 0, 0), (73, .iconst 1, 1, 1, 0, 0), (74, .ireturn, 1, 0, 0, 1)]]
/-- ToolUnionModel.laysTogether()V -/
def cd_248 : List (List EEw) := [
  [(0, .iconst 0, 1, 0, 0, 0), (1, .istore_n f1, 1, 0, 0, 0), (2, .iload_n f1, 1, 0, 0, 0), (3, .aload_n f0, 1, 0, 0, 0), (4, .getfield 7, 3, 12, 0, 1), (7, .bipush 96, 2, 96, 0, 0), (9, .iaload, 1, 0, 0, 0), (10, .if_icmp .ge 44, 3, 54, 0, 0), (13, .iconst 0, 1, 0, 0, 0), (14, .istore_n f2, 1, 0, 0, 0), (15, .iload_n f2, 1, 0, 0, 0)],
  [(16, .aload_n f0, 1, 0, 0, 0), (17, .getfield 7, 3, 12, 0, 1), (20, .bipush 97, 2, 97, 0, 0), (22, .iaload, 1, 0, 0, 0), (23, .if_icmp .ge 25, 3, 48, 0, 0), (26, .aload_n f0, 1, 0, 0, 0), (27, .getfield 51, 3, 12, 33, 1), (30, .iconst 4, 1, 4, 0, 0), (31, .iload_n f1, 1, 0, 0, 0)],
  [(32, .imul, 1, 0, 0, 0), (33, .iload_n f2, 1, 0, 0, 0), (34, .iadd, 1, 0, 0, 0), (35, .aload_n f0, 1, 0, 0, 0), (36, .iload_n f1, 1, 0, 0, 0), (37, .iload_n f2, 1, 0, 0, 0), (38, .invokevirtual 361, 3, 87, 2, 49), (41, .bastore, 1, 0, 0, 0), (42, .iinc 2 1, 3, 0, 0, 0), (45, .goto (-30), 3, 15, 0, 0)],
  [(48, .iinc 1 1, 3, 0, 0, 0), (51, .goto (-49), 3, 2, 0, 0), (54, .iconst 0, 1, 0, 0, 0), (55, .istore_n f1, 1, 0, 0, 0), (56, .iload_n f1, 1, 0, 0, 0), (57, .aload_n f0, 1, 0, 0, 0), (58, .invokevirtual 396, 3, 245, 0, 49), (61, .if_icmp .gt 20, 3, 81, 0, 0)],
  [(64, .aload_n f0, 1, 0, 0, 0), (65, .getfield 44, 3, 12, 31, 1), (68, .iload_n f1, 1, 0, 0, 0), (69, .aload_n f0, 1, 0, 0, 0), (70, .iload_n f1, 1, 0, 0, 0), (71, .invokevirtual 426, 3, 247, 1, 49), (74, .bastore, 1, 0, 0, 0), (75, .iinc 1 1, 3, 0, 0, 0), (78, .goto (-22), 3, 56, 0, 0)],
  [(81, .return_, 1, 0, 0, 0)]]
/-- ToolUnionModel.started()I -/
def cd_249 : List (List EEw) := [
  [(0, .iconst 0, 1, 0, 0, 0), (1, .istore_n f1, 1, 0, 0, 0), (2, .iconst 0, 1, 0, 0, 0), (3, .istore_n f2, 1, 0, 0, 0), (4, .iload_n f2, 1, 0, 0, 0), (5, .aload_n f0, 1, 0, 0, 0), (6, .getfield 7, 3, 12, 0, 1), (9, .bipush 98, 2, 98, 0, 0), (11, .iaload, 1, 0, 0, 0), (12, .if_icmp .ge 25, 3, 37, 0, 0), (15, .iload_n f1, 1, 0, 0, 0)],
  [(16, .aload_n f0, 1, 0, 0, 0), (17, .getfield 7, 3, 12, 0, 1), (20, .bipush 8, 2, 8, 0, 0), (22, .iload_n f2, 1, 0, 0, 0), (23, .iadd, 1, 0, 0, 0), (24, .iaload, 1, 0, 0, 0), (25, .iconst 2, 1, 2, 0, 0), (26, .iload_n f2, 1, 0, 0, 0), (27, .imul, 1, 0, 0, 0), (28, .ishl, 1, 0, 0, 0), (29, .ior, 1, 0, 0, 0), (30, .istore_n f1, 1, 0, 0, 0), (31, .iinc 2 1, 3, 0, 0, 0)],
  [(34, .goto (-30), 3, 4, 0, 0), (37, .iload_n f1, 1, 0, 0, 0), (38, .ireturn, 1, 0, 0, 0)]]
/-- ToolUnionModel.ended()I -/
def cd_250 : List (List EEw) := [
  [(0, .iconst 0, 1, 0, 0, 0), (1, .istore_n f1, 1, 0, 0, 0), (2, .iconst 0, 1, 0, 0, 0), (3, .istore_n f2, 1, 0, 0, 0), (4, .iload_n f2, 1, 0, 0, 0), (5, .aload_n f0, 1, 0, 0, 0), (6, .getfield 7, 3, 12, 0, 1), (9, .bipush 98, 2, 98, 0, 0), (11, .iaload, 1, 0, 0, 0), (12, .if_icmp .ge 22, 3, 34, 0, 0), (15, .iload_n f1, 1, 0, 0, 0)],
  [(16, .aload_n f0, 1, 0, 0, 0), (17, .iload_n f2, 1, 0, 0, 0), (18, .iconst 1, 1, 1, 0, 0), (19, .invokevirtual 337, 3, 76, 2, 49), (22, .iconst 2, 1, 2, 0, 0), (23, .iload_n f2, 1, 0, 0, 0), (24, .imul, 1, 0, 0, 0), (25, .ishl, 1, 0, 0, 0), (26, .ior, 1, 0, 0, 0), (27, .istore_n f1, 1, 0, 0, 0), (28, .iinc 2 1, 3, 0, 0, 0), (31, .goto (-27), 3, 4, 0, 0)],
  [(34, .iload_n f1, 1, 0, 0, 0), (35, .ireturn, 1, 0, 0, 0)]]
/-- ToolUnionModel.openIn(I)I -/
def cd_251 : List (List EEw) := [
  [(0, .iconst 0, 1, 0, 0, 0), (1, .istore_n f2, 1, 0, 0, 0), (2, .iconst 0, 1, 0, 0, 0), (3, .istore_n f3, 1, 0, 0, 0), (4, .iload_n f3, 1, 0, 0, 0), (5, .aload_n f0, 1, 0, 0, 0), (6, .getfield 7, 3, 12, 0, 1), (9, .bipush 98, 2, 98, 0, 0), (11, .iaload, 1, 0, 0, 0), (12, .if_icmp .ge 35, 3, 47, 0, 0), (15, .iload_n f2, 1, 0, 0, 0)],
  [(16, .iload_n f1, 1, 0, 0, 0), (17, .iconst 2, 1, 2, 0, 0), (18, .iload_n f3, 1, 0, 0, 0), (19, .imul, 1, 0, 0, 0), (20, .ishr, 1, 0, 0, 0), (21, .iconst 3, 1, 3, 0, 0), (22, .iand, 1, 0, 0, 0), (23, .aload_n f0, 1, 0, 0, 0), (24, .iload_n f3, 1, 0, 0, 0), (25, .iconst 1, 1, 1, 0, 0), (26, .invokevirtual 337, 3, 76, 2, 49), (29, .if_icmp .ne 9, 3, 38, 0, 0)],
  [(32, .iconst 1, 1, 1, 0, 0), (33, .iload_n f3, 1, 0, 0, 0), (34, .ishl, 1, 0, 0, 0), (35, .goto 4, 3, 39, 0, 0), (38, .iconst 0, 1, 0, 0, 0), (39, .ior, 1, 0, 0, 0), (40, .istore_n f2, 1, 0, 0, 0), (41, .iinc 3 1, 3, 0, 0, 0), (44, .goto (-40), 3, 4, 0, 0), (47, .iconst 0, 1, 0, 0, 0)],
  [(48, .istore_n f3, 1, 0, 0, 0), (49, .iconst 0, 1, 0, 0, 0), (50, .istore 4, 2, 0, 0, 0), (52, .iload 4, 2, 0, 0, 0), (54, .aload_n f0, 1, 0, 0, 0), (55, .getfield 7, 3, 12, 0, 1), (58, .bipush 98, 2, 98, 0, 0), (60, .iaload, 1, 0, 0, 0), (61, .if_icmp .ge 43, 3, 104, 0, 0)],
  [(64, .iload_n f3, 1, 0, 0, 0), (65, .iload_n f2, 1, 0, 0, 0), (66, .iload 4, 2, 0, 0, 0), (68, .ishr, 1, 0, 0, 0), (69, .iconst 1, 1, 1, 0, 0), (70, .iand, 1, 0, 0, 0), (71, .ifCond .ne 24, 3, 95, 0, 0), (74, .aload_n f0, 1, 0, 0, 0), (75, .iload 4, 2, 0, 0, 0), (77, .iconst 2, 1, 2, 0, 0), (78, .invokevirtual 337, 3, 76, 2, 49)],
  [(81, .iload_n f2, 1, 0, 0, 0), (82, .iconst (-1), 1, 4294967295, 0, 0), (83, .ixor, 1, 0, 0, 0), (84, .iand, 1, 0, 0, 0), (85, .ifCond .ne 10, 3, 95, 0, 0), (88, .iconst 1, 1, 1, 0, 0), (89, .iload 4, 2, 0, 0, 0), (91, .ishl, 1, 0, 0, 0), (92, .goto 4, 3, 96, 0, 0), (95, .iconst 0, 1, 0, 0, 0)],
  [(96, .ior, 1, 0, 0, 0), (97, .istore_n f3, 1, 0, 0, 0), (98, .iinc 4 1, 3, 0, 0, 0), (101, .goto (-49), 3, 52, 0, 0), (104, .iload_n f3, 1, 0, 0, 0), (105, .ireturn, 1, 0, 0, 0)]]
/-- ToolUnionModel.isFull(II)Z -/
def cd_252 : List (List EEw) := [
  [(0, .iconst 0, 1, 0, 0, 0), (1, .istore_n f3, 1, 0, 0, 0), (2, .iload_n f3, 1, 0, 0, 0), (3, .aload_n f0, 1, 0, 0, 0), (4, .getfield 7, 3, 12, 0, 1), (7, .bipush 98, 2, 98, 0, 0), (9, .iaload, 1, 0, 0, 0), (10, .if_icmp .ge 36, 3, 46, 0, 0), (13, .iload_n f2, 1, 0, 0, 0), (14, .iload_n f1, 1, 0, 0, 0), (15, .iconst (-1), 1, 4294967295, 0, 0)],
  [(16, .ixor, 1, 0, 0, 0), (17, .iand, 1, 0, 0, 0), (18, .iconst 1, 1, 1, 0, 0), (19, .iload_n f3, 1, 0, 0, 0), (20, .ishl, 1, 0, 0, 0), (21, .iand, 1, 0, 0, 0), (22, .ifCond .eq 18, 3, 40, 0, 0), (25, .aload_n f0, 1, 0, 0, 0), (26, .getfield 44, 3, 12, 31, 1), (29, .iload_n f1, 1, 0, 0, 0), (30, .iconst 1, 1, 1, 0, 0), (31, .iload_n f3, 1, 0, 0, 0)],
  [(32, .ishl, 1, 0, 0, 0), (33, .ior, 1, 0, 0, 0), (34, .baload, 1, 0, 0, 0), (35, .ifCond .eq 5, 3, 40, 0, 0), (38, .iconst 0, 1, 0, 0, 0), (39, .ireturn, 1, 0, 0, 1), (40, .iinc 3 1, 3, 0, 0, 0), (43, .goto (-41), 3, 2, 0, 0), (46, .iconst 1, 1, 1, 0, 0), (47, .ireturn, 1, 0, 0, 1)]]
/-- ToolUnionModel.step(II)I -/
def cd_253 : List (List EEw) := [
  [(0, .iload_n f1, 1, 0, 0, 0), (1, .istore_n f3, 1, 0, 0, 0), (2, .iconst 0, 1, 0, 0, 0), (3, .istore 4, 2, 0, 0, 0), (5, .iload 4, 2, 0, 0, 0), (7, .aload_n f0, 1, 0, 0, 0), (8, .getfield 7, 3, 12, 0, 1), (11, .bipush 98, 2, 98, 0, 0), (13, .iaload, 1, 0, 0, 0), (14, .if_icmp .ge 23, 3, 37, 0, 0)],
  [(17, .iload_n f3, 1, 0, 0, 0), (18, .iload_n f2, 1, 0, 0, 0), (19, .iload 4, 2, 0, 0, 0), (21, .ishr, 1, 0, 0, 0), (22, .iconst 1, 1, 1, 0, 0), (23, .iand, 1, 0, 0, 0), (24, .iconst 2, 1, 2, 0, 0), (25, .iload 4, 2, 0, 0, 0), (27, .imul, 1, 0, 0, 0), (28, .ishl, 1, 0, 0, 0), (29, .iadd, 1, 0, 0, 0), (30, .istore_n f3, 1, 0, 0, 0), (31, .iinc 4 1, 3, 0, 0, 0)],
  [(34, .goto (-29), 3, 5, 0, 0), (37, .iload_n f3, 1, 0, 0, 0), (38, .ireturn, 1, 0, 0, 0)]]
/-- ToolUnionModel.farFrom(II)I -/
def cd_254 : List (List EEw) := [
  [(0, .iload_n f1, 1, 0, 0, 0), (1, .iload_n f2, 1, 0, 0, 0), (2, .if_icmp .ne 5, 3, 7, 0, 0), (5, .iconst 0, 1, 0, 0, 0), (6, .ireturn, 1, 0, 0, 0), (7, .aload_n f0, 1, 0, 0, 0), (8, .getfield 55, 3, 12, 34, 1), (11, .iload_n f1, 1, 0, 0, 0), (12, .iaload, 1, 0, 0, 0), (13, .bipush (-2), 2, 4294967294, 0, 0), (15, .if_icmp .eq 10, 3, 25, 0, 0)],
  [(18, .aload_n f0, 1, 0, 0, 0), (19, .getfield 55, 3, 12, 34, 1), (22, .iload_n f1, 1, 0, 0, 0), (23, .iaload, 1, 0, 0, 0), (24, .ireturn, 1, 0, 0, 0), (25, .aload_n f0, 1, 0, 0, 0), (26, .iload_n f1, 1, 0, 0, 0), (27, .invokevirtual 429, 3, 251, 1, 49), (30, .istore_n f3, 1, 0, 0, 0), (31, .iconst (-1), 1, 4294967295, 0, 0)],
  [(32, .istore 4, 2, 0, 0, 0), (34, .iload_n f3, 1, 0, 0, 0), (35, .istore 5, 2, 0, 0, 0), (37, .iload 5, 2, 0, 0, 0), (39, .ifCond .le 78, 3, 117, 0, 0), (42, .aload_n f0, 1, 0, 0, 0), (43, .getfield 44, 3, 12, 31, 1), (46, .iload 5, 2, 0, 0, 0)],
  [(48, .baload, 1, 0, 0, 0), (49, .ifCond .eq 57, 3, 106, 0, 0), (52, .aload_n f0, 1, 0, 0, 0), (53, .iload 5, 2, 0, 0, 0), (55, .iload_n f3, 1, 0, 0, 0), (56, .invokevirtual 432, 3, 252, 2, 49), (59, .ifCond .ne 6, 3, 65, 0, 0), (62, .goto 44, 3, 106, 0, 0)],
  [(65, .aload_n f0, 1, 0, 0, 0), (66, .aload_n f0, 1, 0, 0, 0), (67, .iload_n f1, 1, 0, 0, 0), (68, .iload 5, 2, 0, 0, 0), (70, .invokevirtual 435, 3, 253, 2, 49), (73, .iload_n f2, 1, 0, 0, 0), (74, .invokevirtual 438, 3, 254, 2, 49), (77, .istore 6, 2, 0, 0, 0), (79, .iload 6, 2, 0, 0, 0)],
  [(81, .iconst (-1), 1, 4294967295, 0, 0), (82, .if_icmp .eq 24, 3, 106, 0, 0), (85, .iload 4, 2, 0, 0, 0), (87, .iconst (-1), 1, 4294967295, 0, 0), (88, .if_icmp .eq 12, 3, 100, 0, 0), (91, .iload 6, 2, 0, 0, 0), (93, .iconst 1, 1, 1, 0, 0), (94, .iadd, 1, 0, 0, 0), (95, .iload 4, 2, 0, 0, 0)],
  [(97, .if_icmp .ge 9, 3, 106, 0, 0), (100, .iload 6, 2, 0, 0, 0), (102, .iconst 1, 1, 1, 0, 0), (103, .iadd, 1, 0, 0, 0), (104, .istore 4, 2, 0, 0, 0), (106, .iload 5, 2, 0, 0, 0), (108, .iconst 1, 1, 1, 0, 0), (109, .isub, 1, 0, 0, 0), (110, .iload_n f3, 1, 0, 0, 0), (111, .iand, 1, 0, 0, 0)],
  [(112, .istore 5, 2, 0, 0, 0), (114, .goto (-77), 3, 37, 0, 0), (117, .aload_n f0, 1, 0, 0, 0), (118, .getfield 55, 3, 12, 34, 1), (121, .iload_n f1, 1, 0, 0, 0), (122, .iload 4, 2, 0, 0, 0), (124, .iastore, 1, 0, 0, 0), (125, .iload 4, 2, 0, 0, 0), (127, .ireturn, 1, 0, 0, 0)]]
/-- ToolUnionModel.firstSet(I)I -/
def cd_255 : List (List EEw) := [
  [(0, .aload_n f0, 1, 0, 0, 0), (1, .aload_n f0, 1, 0, 0, 0), (2, .invokevirtual 441, 3, 249, 0, 49), (5, .invokevirtual 429, 3, 251, 1, 49), (8, .istore_n f2, 1, 0, 0, 0), (9, .iconst 1, 1, 1, 0, 0), (10, .istore_n f3, 1, 0, 0, 0), (11, .iload_n f3, 1, 0, 0, 0), (12, .iload_n f2, 1, 0, 0, 0), (13, .if_icmp .gt 51, 3, 64, 0, 0)],
  [(16, .iload_n f3, 1, 0, 0, 0), (17, .iload_n f2, 1, 0, 0, 0), (18, .iconst (-1), 1, 4294967295, 0, 0), (19, .ixor, 1, 0, 0, 0), (20, .iand, 1, 0, 0, 0), (21, .ifCond .ne 37, 3, 58, 0, 0), (24, .aload_n f0, 1, 0, 0, 0), (25, .getfield 44, 3, 12, 31, 1), (28, .iload_n f3, 1, 0, 0, 0), (29, .baload, 1, 0, 0, 0), (30, .ifCond .eq 28, 3, 58, 0, 0)],
  [(33, .aload_n f0, 1, 0, 0, 0), (34, .aload_n f0, 1, 0, 0, 0), (35, .aload_n f0, 1, 0, 0, 0), (36, .invokevirtual 441, 3, 249, 0, 49), (39, .iload_n f3, 1, 0, 0, 0), (40, .invokevirtual 435, 3, 253, 2, 49), (43, .aload_n f0, 1, 0, 0, 0), (44, .invokevirtual 444, 3, 250, 0, 49), (47, .invokevirtual 438, 3, 254, 2, 49)],
  [(50, .iload_n f1, 1, 0, 0, 0), (51, .iconst 1, 1, 1, 0, 0), (52, .isub, 1, 0, 0, 0), (53, .if_icmp .ne 5, 3, 58, 0, 0), (56, .iload_n f3, 1, 0, 0, 0), (57, .ireturn, 1, 0, 0, 0), (58, .iinc 3 1, 3, 0, 0, 0), (61, .goto (-50), 3, 11, 0, 0)],
  [(64, .iconst 0, 1, 0, 0, 0), (65, .ireturn, 1, 0, 0, 0)]]
/-- ToolUnionModel.soonest(I)I -/
def cd_256 : List (List EEw) := [
  [(0, .iload_n f1, 1, 0, 0, 0), (1, .iconst 0, 1, 0, 0, 0), (2, .iconst 1, 1, 1, 0, 0), (3, .invokestatic 77, 3, 20, 3, 1), (6, .ifCond .ne 5, 3, 11, 0, 0), (9, .iconst (-1), 1, 4294967295, 0, 0), (10, .ireturn, 1, 0, 0, 0), (11, .aload_n f0, 1, 0, 0, 0), (12, .invokevirtual 447, 3, 248, 0, 48), (15, .iconst 0, 1, 0, 0, 0)],
  [(16, .istore_n f2, 1, 0, 0, 0), (17, .iload_n f2, 1, 0, 0, 0), (18, .ldc 54, 2, 65536, 0, 0), (20, .if_icmp .ge 17, 3, 37, 0, 0), (23, .aload_n f0, 1, 0, 0, 0), (24, .getfield 55, 3, 12, 34, 1), (27, .iload_n f2, 1, 0, 0, 0), (28, .bipush (-2), 2, 4294967294, 0, 0), (30, .iastore, 1, 0, 0, 0), (31, .iinc 2 1, 3, 0, 0, 0)],
  [(34, .goto (-17), 3, 17, 0, 0), (37, .aload_n f0, 1, 0, 0, 0), (38, .aload_n f0, 1, 0, 0, 0), (39, .invokevirtual 441, 3, 249, 0, 49), (42, .aload_n f0, 1, 0, 0, 0), (43, .invokevirtual 444, 3, 250, 0, 49), (46, .invokevirtual 438, 3, 254, 2, 49)],
  [(49, .istore_n f2, 1, 0, 0, 0), (50, .iload_n f1, 1, 0, 0, 0), (51, .ifCond .eq 8, 3, 59, 0, 0), (54, .iload_n f2, 1, 0, 0, 0), (55, .iconst (-1), 1, 4294967295, 0, 0), (56, .if_icmp .ne 7, 3, 63, 0, 0), (59, .iload_n f2, 1, 0, 0, 0), (60, .goto 16, 3, 76, 0, 0), (63, .iload_n f2, 1, 0, 0, 0)],
  [(64, .ifCond .ne 7, 3, 71, 0, 0), (67, .iconst 0, 1, 0, 0, 0), (68, .goto 8, 3, 76, 0, 0), (71, .aload_n f0, 1, 0, 0, 0), (72, .iload_n f2, 1, 0, 0, 0), (73, .invokevirtual 450, 3, 255, 1, 49), (76, .ireturn, 1, 0, 0, 0)]]
/-- ToolUnion.isLess(II)Z -/
def cd_257 : List (List EEw) := [
  [(0, .iload_n f0, 1, 0, 0, 0), (1, .invokestatic 341, 3, 182, 1, 1), (4, .istore_n f2, 1, 0, 0, 0), (5, .iload_n f1, 1, 0, 0, 0), (6, .invokestatic 341, 3, 182, 1, 1), (9, .istore_n f3, 1, 0, 0, 0), (10, .iload_n f2, 1, 0, 0, 0), (11, .iload_n f3, 1, 0, 0, 0), (12, .if_icmp .lt 13, 3, 25, 0, 0), (15, .iload_n f2, 1, 0, 0, 0)],
  [(16, .iload_n f3, 1, 0, 0, 0), (17, .if_icmp .ne 12, 3, 29, 0, 0), (20, .iload_n f0, 1, 0, 0, 0), (21, .iload_n f1, 1, 0, 0, 0), (22, .if_icmp .ge 7, 3, 29, 0, 0), (25, .iconst 1, 1, 1, 0, 0), (26, .goto 4, 3, 30, 0, 0), (29, .iconst 0, 1, 0, 0, 0), (30, .ireturn, 1, 0, 0, 1)]]
/-- ToolUnion.fewestToStop(II)I -/
def cd_258 : List (List EEw) := [
  [(0, .iconst (-1), 1, 4294967295, 0, 0), (1, .istore_n f3, 1, 0, 0, 0), (2, .iconst 0, 1, 0, 0, 0), (3, .istore 4, 2, 0, 0, 0), (5, .iload 4, 2, 0, 0, 0), (7, .iconst 4, 1, 4, 0, 0), (8, .if_icmp .ge 53, 3, 61, 0, 0), (11, .iload_n f1, 1, 0, 0, 0), (12, .iload 4, 2, 0, 0, 0), (14, .invokestatic 157, 3, 48, 2, 1)],
  [(17, .ifCond .eq 38, 3, 55, 0, 0), (20, .iload_n f2, 1, 0, 0, 0), (21, .aload_n f0, 1, 0, 0, 0), (22, .getfield 10, 3, 11, 0, 1), (25, .getfield 75, 3, 10, 0, 1), (28, .iconst 1, 1, 1, 0, 0), (29, .iload 4, 2, 0, 0, 0), (31, .ishl, 1, 0, 0, 0)],
  [(32, .invokevirtual 347, 3, 209, 1, 1), (35, .iand, 1, 0, 0, 0), (36, .istore 5, 2, 0, 0, 0), (38, .iload_n f3, 1, 0, 0, 0), (39, .iconst (-1), 1, 4294967295, 0, 0), (40, .if_icmp .eq 12, 3, 52, 0, 0), (43, .iload 5, 2, 0, 0, 0), (45, .iload_n f3, 1, 0, 0, 0), (46, .invokestatic 350, 3, 257, 2, 1)],
  [(49, .ifCond .eq 6, 3, 55, 0, 0), (52, .iload 5, 2, 0, 0, 0), (54, .istore_n f3, 1, 0, 0, 0), (55, .iinc 4 1, 3, 0, 0, 0), (58, .goto (-53), 3, 5, 0, 0), (61, .iload_n f3, 1, 0, 0, 0), (62, .ireturn, 1, 0, 0, 0)]]
/-- java/lang/Integer.lowestOneBit(I)I -/
def cd_259 : List (List EEw) := [
  [(0, .iload_n f0, 1, 0, 0, 0), (1, .iload_n f0, 1, 0, 0, 0), (2, .ineg, 1, 0, 0, 0), (3, .iand, 1, 0, 0, 0), (4, .ireturn, 1, 0, 0, 0)]]
/-- ToolUnion.fewestToKeep(II)I -/
def cd_260 : List (List EEw) := [
  [(0, .iconst 0, 1, 0, 0, 0), (1, .istore_n f3, 1, 0, 0, 0), (2, .iconst 0, 1, 0, 0, 0), (3, .istore 4, 2, 0, 0, 0), (5, .iload 4, 2, 0, 0, 0), (7, .iconst 4, 1, 4, 0, 0), (8, .if_icmp .ge 51, 3, 59, 0, 0), (11, .iload_n f1, 1, 0, 0, 0), (12, .iload 4, 2, 0, 0, 0), (14, .invokestatic 157, 3, 48, 2, 1)],
  [(17, .ifCond .eq 36, 3, 53, 0, 0), (20, .iload_n f2, 1, 0, 0, 0), (21, .aload_n f0, 1, 0, 0, 0), (22, .getfield 10, 3, 11, 0, 1), (25, .getfield 75, 3, 10, 0, 1), (28, .iconst 1, 1, 1, 0, 0), (29, .iload 4, 2, 0, 0, 0), (31, .ishl, 1, 0, 0, 0)],
  [(32, .invokevirtual 347, 3, 209, 1, 1), (35, .iand, 1, 0, 0, 0), (36, .istore 5, 2, 0, 0, 0), (38, .iload 5, 2, 0, 0, 0), (40, .ifCond .ne 5, 3, 45, 0, 0), (43, .iconst (-1), 1, 4294967295, 0, 0), (44, .ireturn, 1, 0, 0, 0), (45, .iload_n f3, 1, 0, 0, 0), (46, .iload 5, 2, 0, 0, 0)],
  [(48, .invokestatic 353, 3, 259, 1, 1), (51, .ior, 1, 0, 0, 0), (52, .istore_n f3, 1, 0, 0, 0), (53, .iinc 4 1, 3, 0, 0, 0), (56, .goto (-51), 3, 5, 0, 0), (59, .iload_n f3, 1, 0, 0, 0), (60, .ireturn, 1, 0, 0, 0)]]
/-- ToolUnion.few(I)I -/
def cd_261 : List (List EEw) := [
  [(0, .iload_n f1, 1, 0, 0, 0), (1, .iconst 3, 1, 3, 0, 0), (2, .invokestatic 84, 3, 17, 2, 1), (5, .ifCond .ne 5, 3, 10, 0, 0), (8, .iconst (-1), 1, 4294967295, 0, 0), (9, .ireturn, 1, 0, 0, 0), (10, .aload_n f0, 1, 0, 0, 0), (11, .getfield 10, 3, 11, 0, 1), (14, .getfield 208, 3, 10, 2, 1)],
  [(17, .aload_n f0, 1, 0, 0, 0), (18, .getfield 10, 3, 11, 0, 1), (21, .getfield 65, 3, 10, 1, 1), (24, .invokevirtual 310, 3, 226, 1, 5), (27, .istore_n f2, 1, 0, 0, 0), (28, .aload_n f0, 1, 0, 0, 0), (29, .getfield 40, 3, 11, 8, 1)],
  [(32, .aload_n f0, 1, 0, 0, 0), (33, .getfield 10, 3, 11, 0, 1), (36, .invokevirtual 331, 3, 211, 1, 9), (39, .istore_n f3, 1, 0, 0, 0), (40, .iload_n f1, 1, 0, 0, 0), (41, .iconst 2, 1, 2, 0, 0), (42, .if_icmp .ge 12, 3, 54, 0, 0), (45, .aload_n f0, 1, 0, 0, 0), (46, .iload_n f2, 1, 0, 0, 0), (47, .iload_n f3, 1, 0, 0, 0)],
  [(48, .invokevirtual 334, 3, 258, 2, 45), (51, .goto 9, 3, 60, 0, 0), (54, .aload_n f0, 1, 0, 0, 0), (55, .iload_n f2, 1, 0, 0, 0), (56, .iload_n f3, 1, 0, 0, 0), (57, .invokevirtual 338, 3, 260, 2, 45), (60, .istore 4, 2, 0, 0, 0), (62, .iload 4, 2, 0, 0, 0)],
  [(64, .iconst (-1), 1, 4294967295, 0, 0), (65, .if_icmp .eq 10, 3, 75, 0, 0), (68, .iload_n f1, 1, 0, 0, 0), (69, .iconst 1, 1, 1, 0, 0), (70, .iand, 1, 0, 0, 0), (71, .iconst 1, 1, 1, 0, 0), (72, .if_icmp .ne 8, 3, 80, 0, 0), (75, .iload 4, 2, 0, 0, 0), (77, .goto 8, 3, 85, 0, 0)],
  [(80, .iload 4, 2, 0, 0, 0), (82, .invokestatic 341, 3, 182, 1, 1), (85, .ireturn, 1, 0, 0, 0)]]
/-- ToolUnionModel.toolsFor(I)I -/
def cd_262 : List (List EEw) := [
  [(0, .iconst 0, 1, 0, 0, 0), (1, .istore_n f2, 1, 0, 0, 0), (2, .iconst 0, 1, 0, 0, 0), (3, .istore_n f3, 1, 0, 0, 0), (4, .iload_n f3, 1, 0, 0, 0), (5, .aload_n f0, 1, 0, 0, 0), (6, .getfield 7, 3, 12, 0, 1), (9, .bipush 96, 2, 96, 0, 0), (11, .iaload, 1, 0, 0, 0), (12, .if_icmp .ge 56, 3, 68, 0, 0), (15, .iconst 0, 1, 0, 0, 0)],
  [(16, .istore 4, 2, 0, 0, 0), (18, .iload 4, 2, 0, 0, 0), (20, .aload_n f0, 1, 0, 0, 0), (21, .getfield 7, 3, 12, 0, 1), (24, .bipush 97, 2, 97, 0, 0), (26, .iaload, 1, 0, 0, 0), (27, .if_icmp .ge 35, 3, 62, 0, 0), (30, .aload_n f0, 1, 0, 0, 0), (31, .iload_n f3, 1, 0, 0, 0)],
  [(32, .iconst 0, 1, 0, 0, 0), (33, .invokevirtual 313, 3, 44, 2, 49), (36, .iload_n f1, 1, 0, 0, 0), (37, .if_icmp .ne 19, 3, 56, 0, 0), (40, .aload_n f0, 1, 0, 0, 0), (41, .iload_n f3, 1, 0, 0, 0), (42, .iload 4, 2, 0, 0, 0), (44, .invokevirtual 361, 3, 87, 2, 49), (47, .ifCond .eq 9, 3, 56, 0, 0)],
  [(50, .iload_n f2, 1, 0, 0, 0), (51, .iconst 1, 1, 1, 0, 0), (52, .iload_n f3, 1, 0, 0, 0), (53, .ishl, 1, 0, 0, 0), (54, .ior, 1, 0, 0, 0), (55, .istore_n f2, 1, 0, 0, 0), (56, .iinc 4 1, 3, 0, 0, 0), (59, .goto (-41), 3, 18, 0, 0), (62, .iinc 3 1, 3, 0, 0, 0)],
  [(65, .goto (-61), 3, 4, 0, 0), (68, .iload_n f2, 1, 0, 0, 0), (69, .ireturn, 1, 0, 0, 0)]]
/-- ToolUnionModel.stopSet()I -/
def cd_263 : List (List EEw) := [
  [(0, .iconst (-1), 1, 4294967295, 0, 0), (1, .istore_n f1, 1, 0, 0, 0), (2, .iconst 0, 1, 0, 0, 0), (3, .istore_n f2, 1, 0, 0, 0), (4, .iload_n f2, 1, 0, 0, 0), (5, .aload_n f0, 1, 0, 0, 0), (6, .getfield 7, 3, 12, 0, 1), (9, .bipush 98, 2, 98, 0, 0), (11, .iaload, 1, 0, 0, 0), (12, .if_icmp .ge 65, 3, 77, 0, 0), (15, .aload_n f0, 1, 0, 0, 0)],
  [(16, .iload_n f2, 1, 0, 0, 0), (17, .invokevirtual 340, 3, 77, 1, 49), (20, .ifCond .eq 6, 3, 26, 0, 0), (23, .goto 48, 3, 71, 0, 0), (26, .aload_n f0, 1, 0, 0, 0), (27, .aload_n f0, 1, 0, 0, 0), (28, .iload_n f2, 1, 0, 0, 0), (29, .iconst 0, 1, 0, 0, 0), (30, .invokevirtual 337, 3, 76, 2, 49)],
  [(33, .invokevirtual 399, 3, 262, 1, 49), (36, .istore_n f3, 1, 0, 0, 0), (37, .iload_n f1, 1, 0, 0, 0), (38, .iconst (-1), 1, 4294967295, 0, 0), (39, .if_icmp .eq 30, 3, 69, 0, 0), (42, .iload_n f3, 1, 0, 0, 0), (43, .invokestatic 402, 3, 196, 1, 1), (46, .iload_n f1, 1, 0, 0, 0), (47, .invokestatic 402, 3, 196, 1, 1)],
  [(50, .if_icmp .lt 19, 3, 69, 0, 0), (53, .iload_n f3, 1, 0, 0, 0), (54, .invokestatic 402, 3, 196, 1, 1), (57, .iload_n f1, 1, 0, 0, 0), (58, .invokestatic 402, 3, 196, 1, 1), (61, .if_icmp .ne 10, 3, 71, 0, 0)],
  [(64, .iload_n f3, 1, 0, 0, 0), (65, .iload_n f1, 1, 0, 0, 0), (66, .if_icmp .ge 5, 3, 71, 0, 0), (69, .iload_n f3, 1, 0, 0, 0), (70, .istore_n f1, 1, 0, 0, 0), (71, .iinc 2 1, 3, 0, 0, 0), (74, .goto (-70), 3, 4, 0, 0), (77, .iload_n f1, 1, 0, 0, 0), (78, .ireturn, 1, 0, 0, 0)]]
/-- ToolUnionModel.haveAll(I)Z -/
def cd_264 : List (List EEw) := [
  [(0, .iconst 0, 1, 0, 0, 0), (1, .istore_n f2, 1, 0, 0, 0), (2, .iload_n f2, 1, 0, 0, 0), (3, .aload_n f0, 1, 0, 0, 0), (4, .getfield 7, 3, 12, 0, 1), (7, .bipush 98, 2, 98, 0, 0), (9, .iaload, 1, 0, 0, 0), (10, .if_icmp .ge 34, 3, 44, 0, 0), (13, .aload_n f0, 1, 0, 0, 0), (14, .iload_n f2, 1, 0, 0, 0), (15, .invokevirtual 340, 3, 77, 1, 49)],
  [(18, .ifCond .ne 20, 3, 38, 0, 0), (21, .aload_n f0, 1, 0, 0, 0), (22, .aload_n f0, 1, 0, 0, 0), (23, .iload_n f2, 1, 0, 0, 0), (24, .iconst 0, 1, 0, 0, 0), (25, .invokevirtual 337, 3, 76, 2, 49), (28, .invokevirtual 399, 3, 262, 1, 49), (31, .iload_n f1, 1, 0, 0, 0)],
  [(32, .iand, 1, 0, 0, 0), (33, .ifCond .ne 5, 3, 38, 0, 0), (36, .iconst 0, 1, 0, 0, 0), (37, .ireturn, 1, 0, 0, 1), (38, .iinc 2 1, 3, 0, 0, 0), (41, .goto (-39), 3, 2, 0, 0), (44, .iconst 1, 1, 1, 0, 0), (45, .ireturn, 1, 0, 0, 1)]]
/-- ToolUnionModel.keepSet()I -/
def cd_265 : List (List EEw) := [
  [(0, .iconst (-1), 1, 4294967295, 0, 0), (1, .istore_n f1, 1, 0, 0, 0), (2, .iconst 0, 1, 0, 0, 0), (3, .istore_n f2, 1, 0, 0, 0), (4, .iload_n f2, 1, 0, 0, 0), (5, .iconst 1, 1, 1, 0, 0), (6, .aload_n f0, 1, 0, 0, 0), (7, .getfield 7, 3, 12, 0, 1), (10, .bipush 96, 2, 96, 0, 0), (12, .iaload, 1, 0, 0, 0), (13, .ishl, 1, 0, 0, 0), (14, .if_icmp .ge 35, 3, 49, 0, 0)],
  [(17, .iload_n f1, 1, 0, 0, 0), (18, .iconst (-1), 1, 4294967295, 0, 0), (19, .if_icmp .eq 14, 3, 33, 0, 0), (22, .iload_n f2, 1, 0, 0, 0), (23, .invokestatic 402, 3, 196, 1, 1), (26, .iload_n f1, 1, 0, 0, 0), (27, .invokestatic 402, 3, 196, 1, 1), (30, .if_icmp .ge 13, 3, 43, 0, 0)],
  [(33, .aload_n f0, 1, 0, 0, 0), (34, .iload_n f2, 1, 0, 0, 0), (35, .invokevirtual 405, 3, 264, 1, 49), (38, .ifCond .eq 5, 3, 43, 0, 0), (41, .iload_n f2, 1, 0, 0, 0), (42, .istore_n f1, 1, 0, 0, 0), (43, .iinc 2 1, 3, 0, 0, 0), (46, .goto (-42), 3, 4, 0, 0)],
  [(49, .iload_n f1, 1, 0, 0, 0), (50, .ireturn, 1, 0, 0, 0)]]
/-- ToolUnionModel.few(I)I -/
def cd_266 : List (List EEw) := [
  [(0, .iload_n f1, 1, 0, 0, 0), (1, .iconst 0, 1, 0, 0, 0), (2, .iconst 3, 1, 3, 0, 0), (3, .invokestatic 77, 3, 20, 3, 1), (6, .ifCond .ne 5, 3, 11, 0, 0), (9, .iconst (-1), 1, 4294967295, 0, 0), (10, .ireturn, 1, 0, 0, 0), (11, .iload_n f1, 1, 0, 0, 0), (12, .iconst 2, 1, 2, 0, 0), (13, .if_icmp .ge 10, 3, 23, 0, 0)],
  [(16, .aload_n f0, 1, 0, 0, 0), (17, .invokevirtual 408, 3, 263, 0, 49), (20, .goto 7, 3, 27, 0, 0), (23, .aload_n f0, 1, 0, 0, 0), (24, .invokevirtual 411, 3, 265, 0, 49), (27, .istore_n f2, 1, 0, 0, 0), (28, .iload_n f2, 1, 0, 0, 0), (29, .iconst (-1), 1, 4294967295, 0, 0), (30, .if_icmp .eq 10, 3, 40, 0, 0)],
  [(33, .iload_n f1, 1, 0, 0, 0), (34, .iconst 2, 1, 2, 0, 0), (35, .irem, 1, 0, 0, 0), (36, .iconst 1, 1, 1, 0, 0), (37, .if_icmp .ne 7, 3, 44, 0, 0), (40, .iload_n f2, 1, 0, 0, 0), (41, .goto 7, 3, 48, 0, 0), (44, .iload_n f2, 1, 0, 0, 0), (45, .invokestatic 402, 3, 196, 1, 1)],
  [(48, .ireturn, 1, 0, 0, 0)]]
/-- ToolUnion$Judge.isWillingForAny(LToolUnion$Yard;I)Z -/
def cd_267 : List (List EEw) := [
  [(0, .iconst 0, 1, 0, 0, 0), (1, .istore_n f3, 1, 0, 0, 0), (2, .iload_n f3, 1, 0, 0, 0), (3, .aload_n f1, 1, 0, 0, 0), (4, .getfield 23, 3, 10, 0, 1), (7, .getfield 146, 3, 0, 1, 0), (10, .if_icmp .ge 30, 3, 40, 0, 0), (13, .iload_n f3, 1, 0, 0, 0), (14, .iconst 4, 1, 4, 0, 0), (15, .if_icmp .ge 25, 3, 40, 0, 0)],
  [(18, .aload_n f0, 1, 0, 0, 0), (19, .aload_n f1, 1, 0, 0, 0), (20, .aload_n f1, 1, 0, 0, 0), (21, .getfield 139, 3, 10, 1, 1), (24, .iload_n f2, 1, 0, 0, 0), (25, .iload_n f3, 1, 0, 0, 0), (26, .invokevirtual 41, 3, 64, 4, 9), (29, .ifCond .eq 5, 3, 34, 0, 0)],
  [(32, .iconst 1, 1, 1, 0, 0), (33, .ireturn, 1, 0, 0, 1), (34, .iinc 3 1, 3, 0, 0, 0), (37, .goto (-35), 3, 2, 0, 0), (40, .iconst 0, 1, 0, 0, 0), (41, .ireturn, 1, 0, 0, 1)]]
/-- ToolUnion$Judge.leastBranchWilling(LToolUnion$Yard;I)I -/
def cd_268 : List (List EEw) := [
  [(0, .aload_n f1, 1, 0, 0, 0), (1, .getfield 23, 3, 10, 0, 1), (4, .iconst 1, 1, 1, 0, 0), (5, .iload_n f2, 1, 0, 0, 0), (6, .ishl, 1, 0, 0, 0), (7, .invokevirtual 157, 3, 209, 1, 1), (10, .istore_n f3, 1, 0, 0, 0), (11, .iconst (-1), 1, 4294967295, 0, 0), (12, .istore 4, 2, 0, 0, 0), (14, .iconst 0, 1, 0, 0, 0), (15, .istore 5, 2, 0, 0, 0)],
  [(17, .iload 5, 2, 0, 0, 0), (19, .bipush 8, 2, 8, 0, 0), (21, .if_icmp .ge 61, 3, 82, 0, 0), (24, .iload_n f3, 1, 0, 0, 0), (25, .iload 5, 2, 0, 0, 0), (27, .invokestatic 37, 3, 48, 2, 1), (30, .ifCond .eq 46, 3, 76, 0, 0)],
  [(33, .aload_n f0, 1, 0, 0, 0), (34, .aload_n f1, 1, 0, 0, 0), (35, .iload 5, 2, 0, 0, 0), (37, .invokevirtual 169, 3, 267, 2, 9), (40, .ifCond .eq 36, 3, 76, 0, 0), (43, .iload 4, 2, 0, 0, 0), (45, .iconst (-1), 1, 4294967295, 0, 0), (46, .if_icmp .eq 18, 3, 64, 0, 0)],
  [(49, .aload_n f1, 1, 0, 0, 0), (50, .getfield 23, 3, 10, 0, 1), (53, .getfield 29, 3, 0, 5, 1), (56, .iload 5, 2, 0, 0, 0), (58, .iaload, 1, 0, 0, 0), (59, .iload 4, 2, 0, 0, 0), (61, .if_icmp .ge 15, 3, 76, 0, 0)],
  [(64, .aload_n f1, 1, 0, 0, 0), (65, .getfield 23, 3, 10, 0, 1), (68, .getfield 29, 3, 0, 5, 1), (71, .iload 5, 2, 0, 0, 0), (73, .iaload, 1, 0, 0, 0), (74, .istore 4, 2, 0, 0, 0), (76, .iinc 5 1, 3, 0, 0, 0), (79, .goto (-62), 3, 17, 0, 0)],
  [(82, .iload 4, 2, 0, 0, 0), (84, .ireturn, 1, 0, 0, 0)]]
/-- ToolUnion.changes(I)I -/
def cd_269 : List (List EEw) := [
  [(0, .iload_n f1, 1, 0, 0, 0), (1, .ifCond .eq 17, 3, 18, 0, 0), (4, .iload_n f1, 1, 0, 0, 0), (5, .bipush 10, 2, 10, 0, 0), (7, .if_icmp .lt 9, 3, 16, 0, 0), (10, .iload_n f1, 1, 0, 0, 0), (11, .bipush 14, 2, 14, 0, 0), (13, .if_icmp .lt 5, 3, 18, 0, 0)],
  [(16, .iconst (-1), 1, 4294967295, 0, 0), (17, .ireturn, 1, 0, 0, 0), (18, .aload_n f0, 1, 0, 0, 0), (19, .getfield 10, 3, 11, 0, 1), (22, .getfield 208, 3, 10, 2, 1), (25, .aload_n f0, 1, 0, 0, 0), (26, .getfield 10, 3, 11, 0, 1), (29, .getfield 65, 3, 10, 1, 1)],
  [(32, .invokevirtual 310, 3, 226, 1, 5), (35, .aload_n f0, 1, 0, 0, 0), (36, .getfield 40, 3, 11, 8, 1), (39, .aload_n f0, 1, 0, 0, 0), (40, .getfield 10, 3, 11, 0, 1), (43, .invokevirtual 314, 3, 227, 1, 9), (46, .iconst (-1), 1, 4294967295, 0, 0), (47, .ixor, 1, 0, 0, 0)],
  [(48, .iand, 1, 0, 0, 0), (49, .istore_n f2, 1, 0, 0, 0), (50, .iconst 0, 1, 0, 0, 0), (51, .istore_n f3, 1, 0, 0, 0), (52, .iload_n f3, 1, 0, 0, 0), (53, .iconst 4, 1, 4, 0, 0), (54, .if_icmp .ge 35, 3, 89, 0, 0), (57, .iload_n f2, 1, 0, 0, 0), (58, .iload_n f3, 1, 0, 0, 0), (59, .invokestatic 157, 3, 48, 2, 1), (62, .ifCond .eq 21, 3, 83, 0, 0)],
  [(65, .aload_n f0, 1, 0, 0, 0), (66, .getfield 40, 3, 11, 8, 1), (69, .aload_n f0, 1, 0, 0, 0), (70, .getfield 10, 3, 11, 0, 1), (73, .iload_n f3, 1, 0, 0, 0), (74, .invokevirtual 356, 3, 268, 2, 9), (77, .iconst (-1), 1, 4294967295, 0, 0), (78, .if_icmp .ne 5, 3, 83, 0, 0)],
  [(81, .iconst (-1), 1, 4294967295, 0, 0), (82, .ireturn, 1, 0, 0, 0), (83, .iinc 3 1, 3, 0, 0, 0), (86, .goto (-34), 3, 52, 0, 0), (89, .iload_n f1, 1, 0, 0, 0), (90, .ifCond .ne 8, 3, 98, 0, 0), (93, .iload_n f2, 1, 0, 0, 0), (94, .invokestatic 341, 3, 182, 1, 1)],
  [(97, .ireturn, 1, 0, 0, 0), (98, .iload_n f2, 1, 0, 0, 0), (99, .iload_n f1, 1, 0, 0, 0), (100, .bipush 10, 2, 10, 0, 0), (102, .isub, 1, 0, 0, 0), (103, .invokestatic 157, 3, 48, 2, 1), (106, .ifCond .eq 21, 3, 127, 0, 0), (109, .aload_n f0, 1, 0, 0, 0), (110, .getfield 40, 3, 11, 8, 1)],
  [(113, .aload_n f0, 1, 0, 0, 0), (114, .getfield 10, 3, 11, 0, 1), (117, .iload_n f1, 1, 0, 0, 0), (118, .bipush 10, 2, 10, 0, 0), (120, .isub, 1, 0, 0, 0), (121, .invokevirtual 356, 3, 268, 2, 9), (124, .goto 4, 3, 128, 0, 0), (127, .iconst (-1), 1, 4294967295, 0, 0)],
  [(128, .ireturn, 1, 0, 0, 0)]]
/-- ToolUnionModel.isWanted(I)Z -/
def cd_270 : List (List EEw) := [
  [(0, .iconst 0, 1, 0, 0, 0), (1, .istore_n f2, 1, 0, 0, 0), (2, .iload_n f2, 1, 0, 0, 0), (3, .aload_n f0, 1, 0, 0, 0), (4, .getfield 7, 3, 12, 0, 1), (7, .bipush 98, 2, 98, 0, 0), (9, .iaload, 1, 0, 0, 0), (10, .if_icmp .ge 29, 3, 39, 0, 0), (13, .aload_n f0, 1, 0, 0, 0), (14, .iload_n f2, 1, 0, 0, 0), (15, .invokevirtual 340, 3, 77, 1, 49)],
  [(18, .ifCond .ne 15, 3, 33, 0, 0), (21, .aload_n f0, 1, 0, 0, 0), (22, .iload_n f2, 1, 0, 0, 0), (23, .iconst 0, 1, 0, 0, 0), (24, .invokevirtual 337, 3, 76, 2, 49), (27, .iload_n f1, 1, 0, 0, 0), (28, .if_icmp .ne 5, 3, 33, 0, 0), (31, .iconst 1, 1, 1, 0, 0)],
  [(32, .ireturn, 1, 0, 0, 1), (33, .iinc 2 1, 3, 0, 0, 0), (36, .goto (-34), 3, 2, 0, 0), (39, .iconst 0, 1, 0, 0, 0), (40, .ireturn, 1, 0, 0, 1)]]
/-- ToolUnionModel.branchFor(I)I -/
def cd_271 : List (List EEw) := [
  [(0, .iconst (-1), 1, 4294967295, 0, 0), (1, .istore_n f2, 1, 0, 0, 0), (2, .iconst 0, 1, 0, 0, 0), (3, .istore_n f3, 1, 0, 0, 0), (4, .iload_n f3, 1, 0, 0, 0), (5, .aload_n f0, 1, 0, 0, 0), (6, .getfield 7, 3, 12, 0, 1), (9, .bipush 96, 2, 96, 0, 0), (11, .iaload, 1, 0, 0, 0), (12, .if_icmp .ge 75, 3, 87, 0, 0), (15, .aload_n f0, 1, 0, 0, 0)],
  [(16, .iload_n f3, 1, 0, 0, 0), (17, .iconst 0, 1, 0, 0, 0), (18, .invokevirtual 313, 3, 44, 2, 49), (21, .iload_n f1, 1, 0, 0, 0), (22, .if_icmp .ne 59, 3, 81, 0, 0), (25, .iload_n f2, 1, 0, 0, 0), (26, .iconst (-1), 1, 4294967295, 0, 0), (27, .if_icmp .eq 16, 3, 43, 0, 0), (30, .aload_n f0, 1, 0, 0, 0), (31, .iload_n f3, 1, 0, 0, 0)],
  [(32, .iconst 1, 1, 1, 0, 0), (33, .invokevirtual 313, 3, 44, 2, 49), (36, .iload_n f2, 1, 0, 0, 0), (37, .if_icmp .lt 6, 3, 43, 0, 0), (40, .goto 41, 3, 81, 0, 0), (43, .iconst 0, 1, 0, 0, 0), (44, .istore 4, 2, 0, 0, 0), (46, .iload 4, 2, 0, 0, 0)],
  [(48, .aload_n f0, 1, 0, 0, 0), (49, .getfield 7, 3, 12, 0, 1), (52, .bipush 97, 2, 97, 0, 0), (54, .iaload, 1, 0, 0, 0), (55, .if_icmp .ge 26, 3, 81, 0, 0), (58, .aload_n f0, 1, 0, 0, 0), (59, .iload_n f3, 1, 0, 0, 0), (60, .iload 4, 2, 0, 0, 0), (62, .invokevirtual 327, 3, 86, 2, 49)],
  [(65, .ifCond .eq 10, 3, 75, 0, 0), (68, .aload_n f0, 1, 0, 0, 0), (69, .iload_n f3, 1, 0, 0, 0), (70, .iconst 1, 1, 1, 0, 0), (71, .invokevirtual 313, 3, 44, 2, 49), (74, .istore_n f2, 1, 0, 0, 0), (75, .iinc 4 1, 3, 0, 0, 0), (78, .goto (-32), 3, 46, 0, 0)],
  [(81, .iinc 3 1, 3, 0, 0, 0), (84, .goto (-80), 3, 4, 0, 0), (87, .iload_n f2, 1, 0, 0, 0), (88, .ireturn, 1, 0, 0, 0)]]
/-- ToolUnionModel.changes(I)I -/
def cd_272 : List (List EEw) := [
  [(0, .iload_n f1, 1, 0, 0, 0), (1, .ifCond .eq 16, 3, 17, 0, 0), (4, .iload_n f1, 1, 0, 0, 0), (5, .bipush 10, 2, 10, 0, 0), (7, .bipush 13, 2, 13, 0, 0), (9, .invokestatic 77, 3, 20, 3, 1), (12, .ifCond .ne 5, 3, 17, 0, 0), (15, .iconst (-1), 1, 4294967295, 0, 0)],
  [(16, .ireturn, 1, 0, 0, 0), (17, .iconst 0, 1, 0, 0, 0), (18, .istore_n f2, 1, 0, 0, 0), (19, .iconst (-1), 1, 4294967295, 0, 0), (20, .istore_n f3, 1, 0, 0, 0), (21, .iconst 0, 1, 0, 0, 0), (22, .istore 4, 2, 0, 0, 0), (24, .iload 4, 2, 0, 0, 0), (26, .iconst 4, 1, 4, 0, 0), (27, .if_icmp .ge 65, 3, 92, 0, 0), (30, .aload_n f0, 1, 0, 0, 0), (31, .iload 4, 2, 0, 0, 0)],
  [(33, .invokevirtual 414, 3, 270, 1, 49), (36, .ifCond .eq 50, 3, 86, 0, 0), (39, .aload_n f0, 1, 0, 0, 0), (40, .iload 4, 2, 0, 0, 0), (42, .invokevirtual 417, 3, 218, 1, 49), (45, .ifCond .le 6, 3, 51, 0, 0)],
  [(48, .goto 38, 3, 86, 0, 0), (51, .aload_n f0, 1, 0, 0, 0), (52, .iload 4, 2, 0, 0, 0), (54, .invokevirtual 420, 3, 271, 1, 49), (57, .iconst (-1), 1, 4294967295, 0, 0), (58, .if_icmp .ne 5, 3, 63, 0, 0), (61, .iconst (-1), 1, 4294967295, 0, 0), (62, .ireturn, 1, 0, 0, 0), (63, .iload_n f1, 1, 0, 0, 0)],
  [(64, .bipush 10, 2, 10, 0, 0), (66, .iload 4, 2, 0, 0, 0), (68, .iadd, 1, 0, 0, 0), (69, .if_icmp .ne 12, 3, 81, 0, 0), (72, .aload_n f0, 1, 0, 0, 0), (73, .iload 4, 2, 0, 0, 0), (75, .invokevirtual 420, 3, 271, 1, 49), (78, .goto 4, 3, 82, 0, 0)],
  [(81, .iload_n f3, 1, 0, 0, 0), (82, .istore_n f3, 1, 0, 0, 0), (83, .iinc 2 1, 3, 0, 0, 0), (86, .iinc 4 1, 3, 0, 0, 0), (89, .goto (-65), 3, 24, 0, 0), (92, .iload_n f1, 1, 0, 0, 0), (93, .ifCond .ne 7, 3, 100, 0, 0)],
  [(96, .iload_n f2, 1, 0, 0, 0), (97, .goto 4, 3, 101, 0, 0), (100, .iload_n f3, 1, 0, 0, 0), (101, .ireturn, 1, 0, 0, 0)]]
/-- ToolUnion.vote(I)I -/
def cd_273 : List (List EEw) := [
  [(0, .iload_n f1, 1, 0, 0, 0), (1, .ifCond .lt 19, 3, 20, 0, 0), (4, .iload_n f1, 1, 0, 0, 0), (5, .iconst 1, 1, 1, 0, 0), (6, .aload_n f0, 1, 0, 0, 0), (7, .getfield 10, 3, 11, 0, 1), (10, .getfield 75, 3, 10, 0, 1), (13, .getfield 79, 3, 0, 0, 0)],
  [(16, .ishl, 1, 0, 0, 0), (17, .if_icmp .lt 5, 3, 22, 0, 0), (20, .iconst (-1), 1, 4294967295, 0, 0), (21, .ireturn, 1, 0, 0, 0), (22, .aload_n f0, 1, 0, 0, 0), (23, .getfield 10, 3, 11, 0, 1), (26, .getfield 75, 3, 10, 0, 1), (29, .iload_n f1, 1, 0, 0, 0), (30, .invokevirtual 359, 3, 181, 1, 1)],
  [(33, .ifCond .eq 7, 3, 40, 0, 0), (36, .iconst 1, 1, 1, 0, 0), (37, .goto 4, 3, 41, 0, 0), (40, .iconst 0, 1, 0, 0, 0), (41, .ireturn, 1, 0, 0, 0)]]
/-- ToolUnionModel.vote(I)I -/
def cd_274 : List (List EEw) := [
  [(0, .iload_n f1, 1, 0, 0, 0), (1, .iconst 0, 1, 0, 0, 0), (2, .iconst 1, 1, 1, 0, 0), (3, .aload_n f0, 1, 0, 0, 0), (4, .getfield 7, 3, 12, 0, 1), (7, .bipush 96, 2, 96, 0, 0), (9, .iaload, 1, 0, 0, 0), (10, .ishl, 1, 0, 0, 0), (11, .iconst 1, 1, 1, 0, 0), (12, .isub, 1, 0, 0, 0), (13, .invokestatic 77, 3, 20, 3, 1)],
  [(16, .ifCond .ne 7, 3, 23, 0, 0), (19, .iconst (-1), 1, 4294967295, 0, 0), (20, .goto 16, 3, 36, 0, 0), (23, .aload_n f0, 1, 0, 0, 0), (24, .iload_n f1, 1, 0, 0, 0), (25, .invokevirtual 456, 3, 193, 1, 49), (28, .ifCond .eq 7, 3, 35, 0, 0), (31, .iconst 1, 1, 1, 0, 0)],
  [(32, .goto 4, 3, 36, 0, 0), (35, .iconst 0, 1, 0, 0, 0), (36, .ireturn, 1, 0, 0, 0)]]
/-- ToolUnion.lasts(II)I -/
def cd_275 : List (List EEw) := [
  [(0, .aload_n f0, 1, 0, 0, 0), (1, .iload_n f1, 1, 0, 0, 0), (2, .invokevirtual 125, 3, 25, 1, 45), (5, .ifCond .eq 11, 3, 16, 0, 0), (8, .aload_n f0, 1, 0, 0, 0), (9, .iload_n f2, 1, 0, 0, 0), (10, .invokevirtual 129, 3, 26, 1, 45), (13, .ifCond .ne 5, 3, 18, 0, 0)],
  [(16, .iconst (-1), 1, 4294967295, 0, 0), (17, .ireturn, 1, 0, 0, 0), (18, .aload_n f0, 1, 0, 0, 0), (19, .getfield 22, 3, 11, 3, 1), (22, .aload_n f0, 1, 0, 0, 0), (23, .getfield 10, 3, 11, 0, 1), (26, .getfield 65, 3, 10, 1, 1), (29, .invokevirtual 362, 3, 36, 1, 20)],
  [(32, .iconst 0, 1, 0, 0, 0), (33, .istore_n f3, 1, 0, 0, 0), (34, .iload_n f3, 1, 0, 0, 0), (35, .bipush 99, 2, 99, 0, 0), (37, .if_icmp .gt 40, 3, 77, 0, 0), (40, .aload_n f0, 1, 0, 0, 0), (41, .getfield 22, 3, 11, 3, 1), (44, .getfield 132, 3, 5, 0, 1), (47, .iload_n f1, 1, 0, 0, 0)],
  [(48, .iaload, 1, 0, 0, 0), (49, .ifCond .ne 5, 3, 54, 0, 0), (52, .iload_n f3, 1, 0, 0, 0), (53, .ireturn, 1, 0, 0, 0), (54, .aload_n f0, 1, 0, 0, 0), (55, .getfield 40, 3, 11, 8, 1), (58, .aload_n f0, 1, 0, 0, 0), (59, .getfield 10, 3, 11, 0, 1), (62, .aload_n f0, 1, 0, 0, 0), (63, .getfield 22, 3, 11, 3, 1)],
  [(66, .iload_n f1, 1, 0, 0, 0), (67, .iload_n f2, 1, 0, 0, 0), (68, .invokevirtual 365, 3, 68, 4, 8), (71, .iinc 3 1, 3, 0, 0, 0), (74, .goto (-40), 3, 34, 0, 0), (77, .iconst (-1), 1, 4294967295, 0, 0), (78, .ireturn, 1, 0, 0, 0)]]
/-- ToolUnionModel.laysAside()V -/
def cd_276 : List (List EEw) := [
  [(0, .iconst 0, 1, 0, 0, 0), (1, .istore_n f1, 1, 0, 0, 0), (2, .iload_n f1, 1, 0, 0, 0), (3, .bipush 96, 2, 96, 0, 0), (5, .if_icmp .ge 21, 3, 26, 0, 0), (8, .aload_n f0, 1, 0, 0, 0), (9, .getfield 19, 3, 12, 3, 1), (12, .iload_n f1, 1, 0, 0, 0), (13, .aload_n f0, 1, 0, 0, 0), (14, .getfield 7, 3, 12, 0, 1)],
  [(17, .iload_n f1, 1, 0, 0, 0), (18, .iaload, 1, 0, 0, 0), (19, .iastore, 1, 0, 0, 0), (20, .iinc 1 1, 3, 0, 0, 0), (23, .goto (-21), 3, 2, 0, 0), (26, .return_, 1, 0, 0, 0)]]
/-- ToolUnionModel.putsBack()V -/
def cd_277 : List (List EEw) := [
  [(0, .iconst 0, 1, 0, 0, 0), (1, .istore_n f1, 1, 0, 0, 0), (2, .iload_n f1, 1, 0, 0, 0), (3, .bipush 96, 2, 96, 0, 0), (5, .if_icmp .ge 21, 3, 26, 0, 0), (8, .aload_n f0, 1, 0, 0, 0), (9, .getfield 7, 3, 12, 0, 1), (12, .iload_n f1, 1, 0, 0, 0), (13, .aload_n f0, 1, 0, 0, 0), (14, .getfield 19, 3, 12, 3, 1)],
  [(17, .iload_n f1, 1, 0, 0, 0), (18, .iaload, 1, 0, 0, 0), (19, .iastore, 1, 0, 0, 0), (20, .iinc 1 1, 3, 0, 0, 0), (23, .goto (-21), 3, 2, 0, 0), (26, .return_, 1, 0, 0, 0)]]
/-- ToolUnionModel.lasts(II)I -/
def cd_278 : List (List EEw) := [
  [(0, .aload_n f0, 1, 0, 0, 0), (1, .iload_n f1, 1, 0, 0, 0), (2, .invokevirtual 97, 3, 31, 1, 49), (5, .ifCond .eq 11, 3, 16, 0, 0), (8, .aload_n f0, 1, 0, 0, 0), (9, .iload_n f2, 1, 0, 0, 0), (10, .invokevirtual 101, 3, 32, 1, 49), (13, .ifCond .ne 5, 3, 18, 0, 0)],
  [(16, .iconst (-1), 1, 4294967295, 0, 0), (17, .ireturn, 1, 0, 0, 0), (18, .aload_n f0, 1, 0, 0, 0), (19, .invokevirtual 390, 3, 276, 0, 48), (22, .iconst 0, 1, 0, 0, 0), (23, .istore_n f3, 1, 0, 0, 0), (24, .iload_n f3, 1, 0, 0, 0), (25, .bipush 99, 2, 99, 0, 0), (27, .if_icmp .ge 24, 3, 51, 0, 0), (30, .aload_n f0, 1, 0, 0, 0), (31, .iload_n f1, 1, 0, 0, 0)],
  [(32, .iconst 3, 1, 3, 0, 0), (33, .invokevirtual 313, 3, 44, 2, 49), (36, .ifCond .le 15, 3, 51, 0, 0), (39, .aload_n f0, 1, 0, 0, 0), (40, .iload_n f1, 1, 0, 0, 0), (41, .iload_n f2, 1, 0, 0, 0), (42, .invokevirtual 364, 3, 92, 2, 48), (45, .iinc 3 1, 3, 0, 0, 0)],
  [(48, .goto (-24), 3, 24, 0, 0), (51, .aload_n f0, 1, 0, 0, 0), (52, .iload_n f1, 1, 0, 0, 0), (53, .iconst 3, 1, 3, 0, 0), (54, .invokevirtual 313, 3, 44, 2, 49), (57, .ifCond .ne 7, 3, 64, 0, 0), (60, .iconst 1, 1, 1, 0, 0), (61, .goto 4, 3, 65, 0, 0)],
  [(64, .iconst 0, 1, 0, 0, 0), (65, .istore 4, 2, 0, 0, 0), (67, .aload_n f0, 1, 0, 0, 0), (68, .invokevirtual 393, 3, 277, 0, 48), (71, .iload 4, 2, 0, 0, 0), (73, .ifCond .eq 7, 3, 80, 0, 0), (76, .iload_n f3, 1, 0, 0, 0), (77, .goto 4, 3, 81, 0, 0)],
  [(80, .iconst (-1), 1, 4294967295, 0, 0), (81, .ireturn, 1, 0, 0, 0)]]
/-- ToolUnion.think(I)V -/
def cd_279 : List (List EEw) := [
  [(0, .aload_n f0, 1, 0, 0, 0), (1, .getfield 22, 3, 11, 3, 1), (4, .aload_n f0, 1, 0, 0, 0), (5, .getfield 10, 3, 11, 0, 1), (8, .getfield 65, 3, 10, 1, 1), (11, .invokevirtual 362, 3, 36, 1, 20), (14, .aload_n f0, 1, 0, 0, 0), (15, .getfield 47, 3, 11, 9, 1)],
  [(18, .invokevirtual 170, 3, 55, 0, 36), (21, .iconst 0, 1, 0, 0, 0), (22, .istore_n f2, 1, 0, 0, 0), (23, .iload_n f2, 1, 0, 0, 0), (24, .iload_n f1, 1, 0, 0, 0), (25, .if_icmp .ge 29, 3, 54, 0, 0), (28, .aload_n f0, 1, 0, 0, 0), (29, .getfield 47, 3, 11, 9, 1)],
  [(32, .aload_n f0, 1, 0, 0, 0), (33, .getfield 10, 3, 11, 0, 1), (36, .aload_n f0, 1, 0, 0, 0), (37, .getfield 22, 3, 11, 3, 1), (40, .aload_n f0, 1, 0, 0, 0), (41, .getfield 40, 3, 11, 8, 1), (44, .iconst 0, 1, 0, 0, 0), (45, .invokevirtual 172, 3, 74, 4, 36)],
  [(48, .iinc 2 1, 3, 0, 0, 0), (51, .goto (-28), 3, 23, 0, 0), (54, .return_, 1, 0, 0, 0)]]
/-- ToolUnion.runs(II)I -/
def cd_280 : List (List EEw) := [
  [(0, .iload_n f1, 1, 0, 0, 0), (1, .iconst 1, 1, 1, 0, 0), (2, .if_icmp .lt 17, 3, 19, 0, 0), (5, .iload_n f1, 1, 0, 0, 0), (6, .bipush 99, 2, 99, 0, 0), (8, .if_icmp .gt 11, 3, 19, 0, 0), (11, .iload_n f2, 1, 0, 0, 0), (12, .iconst 3, 1, 3, 0, 0), (13, .invokestatic 84, 3, 17, 2, 1)],
  [(16, .ifCond .ne 5, 3, 21, 0, 0), (19, .iconst (-1), 1, 4294967295, 0, 0), (20, .ireturn, 1, 0, 0, 0), (21, .aload_n f0, 1, 0, 0, 0), (22, .iload_n f1, 1, 0, 0, 0), (23, .invokevirtual 369, 3, 279, 1, 44), (26, .iload_n f2, 1, 0, 0, 0), (27, .tableswitch 49 0 2 #[25, 33, 41], 25, 0, 76, 0)],
  [],
  [(52, .aload_n f0, 1, 0, 0, 0), (53, .getfield 47, 3, 11, 9, 1), (56, .getfield 372, 3, 9, 0, 0), (59, .ireturn, 1, 0, 0, 0), (60, .aload_n f0, 1, 0, 0, 0), (61, .getfield 47, 3, 11, 9, 1)],
  [(64, .getfield 176, 3, 9, 1, 0), (67, .ireturn, 1, 0, 0, 0), (68, .aload_n f0, 1, 0, 0, 0), (69, .getfield 47, 3, 11, 9, 1), (72, .getfield 375, 3, 9, 2, 0), (75, .ireturn, 1, 0, 0, 0), (76, .aload_n f0, 1, 0, 0, 0), (77, .getfield 47, 3, 11, 9, 1)],
  [(80, .getfield 378, 3, 9, 3, 0), (83, .ireturn, 1, 0, 0, 0)]]
/-- ToolUnionModel.runs(II)I -/
def cd_281 : List (List EEw) := [
  [(0, .iload_n f1, 1, 0, 0, 0), (1, .iconst 1, 1, 1, 0, 0), (2, .bipush 99, 2, 99, 0, 0), (4, .invokestatic 77, 3, 20, 3, 1), (7, .ifCond .eq 12, 3, 19, 0, 0), (10, .iload_n f2, 1, 0, 0, 0), (11, .iconst 0, 1, 0, 0, 0), (12, .iconst 3, 1, 3, 0, 0), (13, .invokestatic 77, 3, 20, 3, 1)],
  [(16, .ifCond .ne 5, 3, 21, 0, 0), (19, .iconst (-1), 1, 4294967295, 0, 0), (20, .ireturn, 1, 0, 0, 0), (21, .aload_n f0, 1, 0, 0, 0), (22, .invokevirtual 390, 3, 276, 0, 48), (25, .aload_n f0, 1, 0, 0, 0), (26, .iconst (-1), 1, 4294967295, 0, 0), (27, .putfield 377, 3, 12, 27, 0), (30, .aload_n f0, 1, 0, 0, 0), (31, .iconst (-1), 1, 4294967295, 0, 0)],
  [(32, .putfield 380, 3, 12, 28, 0), (35, .aload_n f0, 1, 0, 0, 0), (36, .iconst 0, 1, 0, 0, 0), (37, .putfield 367, 3, 12, 29, 0), (40, .iconst 0, 1, 0, 0, 0), (41, .istore_n f3, 1, 0, 0, 0), (42, .iconst 0, 1, 0, 0, 0), (43, .istore 4, 2, 0, 0, 0), (45, .iload 4, 2, 0, 0, 0), (47, .iload_n f1, 1, 0, 0, 0)],
  [(48, .if_icmp .ge 17, 3, 65, 0, 0), (51, .iload_n f3, 1, 0, 0, 0), (52, .aload_n f0, 1, 0, 0, 0), (53, .iconst 0, 1, 0, 0, 0), (54, .invokevirtual 386, 3, 96, 1, 49), (57, .iadd, 1, 0, 0, 0), (58, .istore_n f3, 1, 0, 0, 0), (59, .iinc 4 1, 3, 0, 0, 0), (62, .goto (-17), 3, 45, 0, 0)],
  [(65, .aload_n f0, 1, 0, 0, 0), (66, .invokevirtual 393, 3, 277, 0, 48), (69, .iload_n f2, 1, 0, 0, 0), (70, .tableswitch 38 0 2 #[26, 31, 33], 26, 0, 108, 0)],
  [],
  [(96, .aload_n f0, 1, 0, 0, 0), (97, .getfield 367, 3, 12, 29, 0), (100, .ireturn, 1, 0, 0, 0), (101, .iload_n f3, 1, 0, 0, 0), (102, .ireturn, 1, 0, 0, 0), (103, .aload_n f0, 1, 0, 0, 0), (104, .getfield 380, 3, 12, 28, 0), (107, .ireturn, 1, 0, 0, 0), (108, .aload_n f0, 1, 0, 0, 0), (109, .getfield 377, 3, 12, 27, 0)],
  [(112, .ireturn, 1, 0, 0, 0)]]
/-- ToolUnion.idle(I)I -/
def cd_282 : List (List EEw) := [
  [(0, .iload_n f1, 1, 0, 0, 0), (1, .iconst 1, 1, 1, 0, 0), (2, .if_icmp .lt 9, 3, 11, 0, 0), (5, .iload_n f1, 1, 0, 0, 0), (6, .bipush 99, 2, 99, 0, 0), (8, .if_icmp .le 5, 3, 13, 0, 0), (11, .iconst (-1), 1, 4294967295, 0, 0), (12, .ireturn, 1, 0, 0, 0), (13, .aload_n f0, 1, 0, 0, 0), (14, .iload_n f1, 1, 0, 0, 0), (15, .invokevirtual 369, 3, 279, 1, 44)],
  [(18, .aload_n f0, 1, 0, 0, 0), (19, .getfield 10, 3, 11, 0, 1), (22, .getfield 75, 3, 10, 0, 1), (25, .invokevirtual 381, 3, 180, 0, 1), (28, .aload_n f0, 1, 0, 0, 0), (29, .getfield 47, 3, 11, 9, 1)],
  [(32, .getfield 384, 3, 9, 4, 0), (35, .iconst (-1), 1, 4294967295, 0, 0), (36, .ixor, 1, 0, 0, 0), (37, .iand, 1, 0, 0, 0), (38, .ireturn, 1, 0, 0, 0)]]
/-- ToolUnionModel.idle(I)I -/
def cd_283 : List (List EEw) := [
  [(0, .iload_n f1, 1, 0, 0, 0), (1, .iconst 1, 1, 1, 0, 0), (2, .bipush 99, 2, 99, 0, 0), (4, .invokestatic 77, 3, 20, 3, 1), (7, .ifCond .ne 5, 3, 12, 0, 0), (10, .iconst (-1), 1, 4294967295, 0, 0), (11, .ireturn, 1, 0, 0, 0), (12, .aload_n f0, 1, 0, 0, 0), (13, .invokevirtual 390, 3, 276, 0, 48)],
  [(16, .iconst 0, 1, 0, 0, 0), (17, .istore_n f2, 1, 0, 0, 0), (18, .iload_n f2, 1, 0, 0, 0), (19, .iload_n f1, 1, 0, 0, 0), (20, .if_icmp .ge 15, 3, 35, 0, 0), (23, .aload_n f0, 1, 0, 0, 0), (24, .iconst 0, 1, 0, 0, 0), (25, .invokevirtual 386, 3, 96, 1, 49), (28, .pop, 1, 0, 0, 0), (29, .iinc 2 1, 3, 0, 0, 0)],
  [(32, .goto (-14), 3, 18, 0, 0), (35, .iconst 0, 1, 0, 0, 0), (36, .istore_n f2, 1, 0, 0, 0), (37, .iconst 0, 1, 0, 0, 0), (38, .istore_n f3, 1, 0, 0, 0), (39, .iload_n f3, 1, 0, 0, 0), (40, .aload_n f0, 1, 0, 0, 0), (41, .getfield 7, 3, 12, 0, 1), (44, .bipush 96, 2, 96, 0, 0), (46, .iaload, 1, 0, 0, 0), (47, .if_icmp .ge 44, 3, 91, 0, 0)],
  [(50, .iload_n f2, 1, 0, 0, 0), (51, .aload_n f0, 1, 0, 0, 0), (52, .iload_n f3, 1, 0, 0, 0), (53, .bipush 8, 2, 8, 0, 0), (55, .invokevirtual 313, 3, 44, 2, 49), (58, .aload_n f0, 1, 0, 0, 0), (59, .getfield 19, 3, 12, 3, 1), (62, .bipush 16, 2, 16, 0, 0)],
  [(64, .bipush 10, 2, 10, 0, 0), (66, .iload_n f3, 1, 0, 0, 0), (67, .imul, 1, 0, 0, 0), (68, .iadd, 1, 0, 0, 0), (69, .bipush 8, 2, 8, 0, 0), (71, .iadd, 1, 0, 0, 0), (72, .iaload, 1, 0, 0, 0), (73, .if_icmp .ne 9, 3, 82, 0, 0), (76, .iconst 1, 1, 1, 0, 0), (77, .iload_n f3, 1, 0, 0, 0), (78, .ishl, 1, 0, 0, 0), (79, .goto 4, 3, 83, 0, 0)],
  [(82, .iconst 0, 1, 0, 0, 0), (83, .ior, 1, 0, 0, 0), (84, .istore_n f2, 1, 0, 0, 0), (85, .iinc 3 1, 3, 0, 0, 0), (88, .goto (-49), 3, 39, 0, 0), (91, .aload_n f0, 1, 0, 0, 0), (92, .invokevirtual 393, 3, 277, 0, 48), (95, .iload_n f2, 1, 0, 0, 0)],
  [(96, .ireturn, 1, 0, 0, 0)]]
/-- ToolUnion.dull(II)I -/
def cd_284 : List (List EEw) := [
  [(0, .aload_n f0, 1, 0, 0, 0), (1, .iload_n f1, 1, 0, 0, 0), (2, .invokevirtual 125, 3, 25, 1, 45), (5, .ifCond .eq 13, 3, 18, 0, 0), (8, .iload_n f2, 1, 0, 0, 0), (9, .ifCond .lt 9, 3, 18, 0, 0), (12, .iload_n f2, 1, 0, 0, 0), (13, .bipush 99, 2, 99, 0, 0), (15, .if_icmp .le 5, 3, 20, 0, 0)],
  [(18, .iconst (-1), 1, 4294967295, 0, 0), (19, .ireturn, 1, 0, 0, 0), (20, .aload_n f0, 1, 0, 0, 0), (21, .iconst 0, 1, 0, 0, 0), (22, .invokevirtual 369, 3, 279, 1, 44), (25, .iconst 0, 1, 0, 0, 0), (26, .istore_n f3, 1, 0, 0, 0), (27, .iload_n f3, 1, 0, 0, 0), (28, .iload_n f2, 1, 0, 0, 0), (29, .if_icmp .gt 43, 3, 72, 0, 0)],
  [(32, .aload_n f0, 1, 0, 0, 0), (33, .getfield 22, 3, 11, 3, 1), (36, .getfield 132, 3, 5, 0, 1), (39, .iload_n f1, 1, 0, 0, 0), (40, .iaload, 1, 0, 0, 0), (41, .ifCond .ne 5, 3, 46, 0, 0), (44, .iload_n f3, 1, 0, 0, 0), (45, .ireturn, 1, 0, 0, 0), (46, .aload_n f0, 1, 0, 0, 0), (47, .getfield 47, 3, 11, 9, 1)],
  [(50, .aload_n f0, 1, 0, 0, 0), (51, .getfield 10, 3, 11, 0, 1), (54, .aload_n f0, 1, 0, 0, 0), (55, .getfield 22, 3, 11, 3, 1), (58, .aload_n f0, 1, 0, 0, 0), (59, .getfield 40, 3, 11, 8, 1), (62, .iconst 0, 1, 0, 0, 0), (63, .invokevirtual 172, 3, 74, 4, 36)],
  [(66, .iinc 3 1, 3, 0, 0, 0), (69, .goto (-42), 3, 27, 0, 0), (72, .iconst (-1), 1, 4294967295, 0, 0), (73, .ireturn, 1, 0, 0, 0)]]
/-- ToolUnionModel.dull(II)I -/
def cd_285 : List (List EEw) := [
  [(0, .aload_n f0, 1, 0, 0, 0), (1, .iload_n f1, 1, 0, 0, 0), (2, .invokevirtual 97, 3, 31, 1, 49), (5, .ifCond .eq 13, 3, 18, 0, 0), (8, .iload_n f2, 1, 0, 0, 0), (9, .iconst 0, 1, 0, 0, 0), (10, .bipush 99, 2, 99, 0, 0), (12, .invokestatic 77, 3, 20, 3, 1), (15, .ifCond .ne 5, 3, 20, 0, 0)],
  [(18, .iconst (-1), 1, 4294967295, 0, 0), (19, .ireturn, 1, 0, 0, 0), (20, .aload_n f0, 1, 0, 0, 0), (21, .invokevirtual 390, 3, 276, 0, 48), (24, .iconst 0, 1, 0, 0, 0), (25, .istore_n f3, 1, 0, 0, 0), (26, .iload_n f3, 1, 0, 0, 0), (27, .iload_n f2, 1, 0, 0, 0), (28, .if_icmp .ge 24, 3, 52, 0, 0), (31, .aload_n f0, 1, 0, 0, 0)],
  [(32, .iload_n f1, 1, 0, 0, 0), (33, .iconst 3, 1, 3, 0, 0), (34, .invokevirtual 313, 3, 44, 2, 49), (37, .ifCond .le 15, 3, 52, 0, 0), (40, .aload_n f0, 1, 0, 0, 0), (41, .iconst 0, 1, 0, 0, 0), (42, .invokevirtual 386, 3, 96, 1, 49), (45, .pop, 1, 0, 0, 0), (46, .iinc 3 1, 3, 0, 0, 0)],
  [(49, .goto (-23), 3, 26, 0, 0), (52, .aload_n f0, 1, 0, 0, 0), (53, .iload_n f1, 1, 0, 0, 0), (54, .iconst 3, 1, 3, 0, 0), (55, .invokevirtual 313, 3, 44, 2, 49), (58, .ifCond .ne 7, 3, 65, 0, 0), (61, .iconst 1, 1, 1, 0, 0), (62, .goto 4, 3, 66, 0, 0)],
  [(65, .iconst 0, 1, 0, 0, 0), (66, .istore 4, 2, 0, 0, 0), (68, .aload_n f0, 1, 0, 0, 0), (69, .invokevirtual 393, 3, 277, 0, 48), (72, .iload 4, 2, 0, 0, 0), (74, .ifCond .eq 7, 3, 81, 0, 0), (77, .iload_n f3, 1, 0, 0, 0), (78, .goto 4, 3, 82, 0, 0)],
  [(81, .iconst (-1), 1, 4294967295, 0, 0), (82, .ireturn, 1, 0, 0, 0)]]
/-- ToolUnion$Mates.mostLoved(LToolUnion$Yard;LToolUnion$Judge;)I -/
def cd_286 : List (List EEw) := [
  [(0, .iconst 0, 1, 0, 0, 0), (1, .istore_n f3, 1, 0, 0, 0), (2, .iload_n f3, 1, 0, 0, 0), (3, .bipush 8, 2, 8, 0, 0), (5, .if_icmp .ge 16, 3, 21, 0, 0), (8, .aload_n f0, 1, 0, 0, 0), (9, .getfield 21, 3, 4, 3, 1), (12, .iload_n f3, 1, 0, 0, 0), (13, .iconst 0, 1, 0, 0, 0), (14, .iastore, 1, 0, 0, 0), (15, .iinc 3 1, 3, 0, 0, 0)],
  [(18, .goto (-16), 3, 2, 0, 0), (21, .iconst 0, 1, 0, 0, 0), (22, .istore_n f3, 1, 0, 0, 0), (23, .iload_n f3, 1, 0, 0, 0), (24, .aload_n f1, 1, 0, 0, 0), (25, .getfield 24, 3, 10, 0, 1), (28, .getfield 30, 3, 0, 1, 0), (31, .if_icmp .ge 46, 3, 77, 0, 0)],
  [(34, .iload_n f3, 1, 0, 0, 0), (35, .iconst 4, 1, 4, 0, 0), (36, .if_icmp .ge 41, 3, 77, 0, 0), (39, .aload_n f1, 1, 0, 0, 0), (40, .getfield 50, 3, 10, 1, 1), (43, .aload_n f2, 1, 0, 0, 0), (44, .aload_n f1, 1, 0, 0, 0), (45, .iload_n f3, 1, 0, 0, 0), (46, .invokevirtual 36, 3, 185, 2, 9)],
  [(49, .invokestatic 54, 3, 187, 2, 1), (52, .istore 4, 2, 0, 0, 0), (54, .iload 4, 2, 0, 0, 0), (56, .iconst (-1), 1, 4294967295, 0, 0), (57, .if_icmp .eq 14, 3, 71, 0, 0), (60, .aload_n f0, 1, 0, 0, 0), (61, .getfield 21, 3, 4, 3, 1)],
  [(64, .iload 4, 2, 0, 0, 0), (66, .dup2, 1, 0, 0, 0), (67, .iaload, 1, 0, 0, 0), (68, .iconst 1, 1, 1, 0, 0), (69, .iadd, 1, 0, 0, 0), (70, .iastore, 1, 0, 0, 0), (71, .iinc 3 1, 3, 0, 0, 0), (74, .goto (-51), 3, 23, 0, 0), (77, .iconst (-1), 1, 4294967295, 0, 0), (78, .istore_n f3, 1, 0, 0, 0), (79, .iconst 0, 1, 0, 0, 0)],
  [(80, .istore 4, 2, 0, 0, 0), (82, .iload 4, 2, 0, 0, 0), (84, .bipush 8, 2, 8, 0, 0), (86, .if_icmp .ge 43, 3, 129, 0, 0), (89, .aload_n f0, 1, 0, 0, 0), (90, .getfield 21, 3, 4, 3, 1), (93, .iload 4, 2, 0, 0, 0), (95, .iaload, 1, 0, 0, 0)],
  [(96, .ifCond .le 27, 3, 123, 0, 0), (99, .iload_n f3, 1, 0, 0, 0), (100, .iconst (-1), 1, 4294967295, 0, 0), (101, .if_icmp .eq 19, 3, 120, 0, 0), (104, .aload_n f0, 1, 0, 0, 0), (105, .getfield 21, 3, 4, 3, 1), (108, .iload 4, 2, 0, 0, 0), (110, .iaload, 1, 0, 0, 0), (111, .aload_n f0, 1, 0, 0, 0)],
  [(112, .getfield 21, 3, 4, 3, 1), (115, .iload_n f3, 1, 0, 0, 0), (116, .iaload, 1, 0, 0, 0), (117, .if_icmp .le 6, 3, 123, 0, 0), (120, .iload 4, 2, 0, 0, 0), (122, .istore_n f3, 1, 0, 0, 0), (123, .iinc 4 1, 3, 0, 0, 0), (126, .goto (-44), 3, 82, 0, 0)],
  [(129, .iload_n f3, 1, 0, 0, 0), (130, .ireturn, 1, 0, 0, 0)]]
/-- ToolUnion.loved()I -/
def cd_287 : List (List EEw) := [
  [(0, .aload_n f0, 1, 0, 0, 0), (1, .getfield 61, 3, 11, 11, 1), (4, .aload_n f0, 1, 0, 0, 0), (5, .getfield 10, 3, 11, 0, 1), (8, .aload_n f0, 1, 0, 0, 0), (9, .getfield 40, 3, 11, 8, 1), (12, .invokevirtual 387, 3, 286, 2, 17), (15, .ireturn, 1, 0, 0, 0)]]
/-- ToolUnionModel.loversOf(I)I -/
def cd_288 : List (List EEw) := [
  [(0, .iconst 0, 1, 0, 0, 0), (1, .istore_n f2, 1, 0, 0, 0), (2, .iconst 0, 1, 0, 0, 0), (3, .istore_n f3, 1, 0, 0, 0), (4, .iload_n f3, 1, 0, 0, 0), (5, .aload_n f0, 1, 0, 0, 0), (6, .getfield 7, 3, 12, 0, 1), (9, .bipush 97, 2, 97, 0, 0), (11, .iaload, 1, 0, 0, 0), (12, .if_icmp .ge 26, 3, 38, 0, 0), (15, .iload_n f2, 1, 0, 0, 0)],
  [(16, .aload_n f0, 1, 0, 0, 0), (17, .iload_n f3, 1, 0, 0, 0), (18, .invokevirtual 468, 3, 199, 1, 49), (21, .iload_n f1, 1, 0, 0, 0), (22, .if_icmp .ne 7, 3, 29, 0, 0), (25, .iconst 1, 1, 1, 0, 0), (26, .goto 4, 3, 30, 0, 0), (29, .iconst 0, 1, 0, 0, 0), (30, .iadd, 1, 0, 0, 0), (31, .istore_n f2, 1, 0, 0, 0)],
  [(32, .iinc 3 1, 3, 0, 0, 0), (35, .goto (-31), 3, 4, 0, 0), (38, .iload_n f2, 1, 0, 0, 0), (39, .ireturn, 1, 0, 0, 0)]]
/-- ToolUnionModel.loved()I -/
def cd_289 : List (List EEw) := [
  [(0, .iconst 0, 1, 0, 0, 0), (1, .istore_n f1, 1, 0, 0, 0), (2, .iload_n f1, 1, 0, 0, 0), (3, .iconst 4, 1, 4, 0, 0), (4, .if_icmp .ge 16, 3, 20, 0, 0), (7, .aload_n f0, 1, 0, 0, 0), (8, .getfield 61, 3, 12, 36, 1), (11, .iload_n f1, 1, 0, 0, 0), (12, .iconst 0, 1, 0, 0, 0), (13, .iastore, 1, 0, 0, 0), (14, .iinc 1 1, 3, 0, 0, 0)],
  [(17, .goto (-15), 3, 2, 0, 0), (20, .iconst (-1), 1, 4294967295, 0, 0), (21, .istore_n f1, 1, 0, 0, 0), (22, .iconst 0, 1, 0, 0, 0), (23, .istore_n f2, 1, 0, 0, 0), (24, .iconst 0, 1, 0, 0, 0), (25, .istore_n f3, 1, 0, 0, 0), (26, .iload_n f3, 1, 0, 0, 0), (27, .aload_n f0, 1, 0, 0, 0), (28, .getfield 7, 3, 12, 0, 1), (31, .bipush 96, 2, 96, 0, 0)],
  [(33, .iaload, 1, 0, 0, 0), (34, .if_icmp .ge 30, 3, 64, 0, 0), (37, .aload_n f0, 1, 0, 0, 0), (38, .iload_n f3, 1, 0, 0, 0), (39, .invokevirtual 478, 3, 288, 1, 49), (42, .istore 4, 2, 0, 0, 0), (44, .iload 4, 2, 0, 0, 0), (46, .iload_n f2, 1, 0, 0, 0), (47, .if_icmp .gt 6, 3, 53, 0, 0)],
  [(50, .goto 8, 3, 58, 0, 0), (53, .iload 4, 2, 0, 0, 0), (55, .istore_n f2, 1, 0, 0, 0), (56, .iload_n f3, 1, 0, 0, 0), (57, .istore_n f1, 1, 0, 0, 0), (58, .iinc 3 1, 3, 0, 0, 0), (61, .goto (-35), 3, 26, 0, 0)],
  [(64, .iload_n f1, 1, 0, 0, 0), (65, .ireturn, 1, 0, 0, 0)]]
/-- ToolUnion.ready()I -/
def cd_290 : List (List EEw) := [
  [(0, .aload_n f0, 1, 0, 0, 0), (1, .iconst 0, 1, 0, 0, 0), (2, .invokevirtual 369, 3, 279, 1, 44), (5, .iconst 0, 1, 0, 0, 0), (6, .istore_n f1, 1, 0, 0, 0), (7, .iload_n f1, 1, 0, 0, 0), (8, .bipush 99, 2, 99, 0, 0), (10, .if_icmp .gt 54, 3, 64, 0, 0), (13, .aload_n f0, 1, 0, 0, 0), (14, .getfield 10, 3, 11, 0, 1)],
  [(17, .getfield 208, 3, 10, 2, 1), (20, .aload_n f0, 1, 0, 0, 0), (21, .getfield 22, 3, 11, 3, 1), (24, .invokevirtual 310, 3, 226, 1, 5), (27, .ifCond .ne 11, 3, 38, 0, 0), (30, .aload_n f0, 1, 0, 0, 0), (31, .getfield 22, 3, 11, 3, 1)],
  [(34, .getfield 167, 3, 5, 6, 0), (37, .ireturn, 1, 0, 0, 0), (38, .aload_n f0, 1, 0, 0, 0), (39, .getfield 47, 3, 11, 9, 1), (42, .aload_n f0, 1, 0, 0, 0), (43, .getfield 10, 3, 11, 0, 1), (46, .aload_n f0, 1, 0, 0, 0), (47, .getfield 22, 3, 11, 3, 1)],
  [(50, .aload_n f0, 1, 0, 0, 0), (51, .getfield 40, 3, 11, 8, 1), (54, .iconst 0, 1, 0, 0, 0), (55, .invokevirtual 172, 3, 74, 4, 36), (58, .iinc 1 1, 3, 0, 0, 0), (61, .goto (-54), 3, 7, 0, 0)],
  [(64, .iconst (-1), 1, 4294967295, 0, 0), (65, .ireturn, 1, 0, 0, 0)]]
/-- ToolUnionModel.ready()I -/
def cd_291 : List (List EEw) := [
  [(0, .aload_n f0, 1, 0, 0, 0), (1, .invokevirtual 390, 3, 276, 0, 48), (4, .iconst (-1), 1, 4294967295, 0, 0), (5, .istore_n f1, 1, 0, 0, 0), (6, .iconst 0, 1, 0, 0, 0), (7, .istore_n f2, 1, 0, 0, 0), (8, .iload_n f2, 1, 0, 0, 0), (9, .bipush 99, 2, 99, 0, 0), (11, .if_icmp .gt 41, 3, 52, 0, 0), (14, .iload_n f1, 1, 0, 0, 0), (15, .iconst (-1), 1, 4294967295, 0, 0)],
  [(16, .if_icmp .ne 36, 3, 52, 0, 0), (19, .aload_n f0, 1, 0, 0, 0), (20, .invokevirtual 343, 3, 78, 0, 49), (23, .aload_n f0, 1, 0, 0, 0), (24, .invokevirtual 396, 3, 245, 0, 49), (27, .if_icmp .ne 13, 3, 40, 0, 0), (30, .aload_n f0, 1, 0, 0, 0), (31, .getfield 7, 3, 12, 0, 1)],
  [(34, .iconst 0, 1, 0, 0, 0), (35, .iaload, 1, 0, 0, 0), (36, .istore_n f1, 1, 0, 0, 0), (37, .goto 9, 3, 46, 0, 0), (40, .aload_n f0, 1, 0, 0, 0), (41, .iconst 0, 1, 0, 0, 0), (42, .invokevirtual 386, 3, 96, 1, 49), (45, .pop, 1, 0, 0, 0), (46, .iinc 2 1, 3, 0, 0, 0)],
  [(49, .goto (-41), 3, 8, 0, 0), (52, .aload_n f0, 1, 0, 0, 0), (53, .invokevirtual 393, 3, 277, 0, 48), (56, .iload_n f1, 1, 0, 0, 0), (57, .ireturn, 1, 0, 0, 0)]]
/-- ToolUnion.seen(II)I -/
def cd_292 : List (List EEw) := [
  [(0, .aload_n f0, 1, 0, 0, 0), (1, .getfield 10, 3, 11, 0, 1), (4, .getfield 208, 3, 10, 2, 1), (7, .astore_n f3, 1, 0, 0, 0), (8, .iload_n f1, 1, 0, 0, 0), (9, .iconst (-1), 1, 4294967295, 0, 0), (10, .if_icmp .ne 10, 3, 20, 0, 0), (13, .aload_n f3, 1, 0, 0, 0), (14, .iconst 0, 1, 0, 0, 0), (15, .putfield 219, 3, 1, 4, 0)],
  [(18, .iconst 0, 1, 0, 0, 0), (19, .ireturn, 1, 0, 0, 0), (20, .iload_n f1, 1, 0, 0, 0), (21, .ifCond .lt 37, 3, 58, 0, 0), (24, .iload_n f1, 1, 0, 0, 0), (25, .aload_n f3, 1, 0, 0, 0), (26, .getfield 234, 3, 1, 0, 0), (29, .if_icmp .ge 29, 3, 58, 0, 0)],
  [(32, .iload_n f2, 1, 0, 0, 0), (33, .ifCond .lt 25, 3, 58, 0, 0), (36, .iload_n f2, 1, 0, 0, 0), (37, .aload_n f3, 1, 0, 0, 0), (38, .getfield 234, 3, 1, 0, 0), (41, .if_icmp .ge 17, 3, 58, 0, 0), (44, .iload_n f1, 1, 0, 0, 0), (45, .iload_n f2, 1, 0, 0, 0), (46, .if_icmp .eq 12, 3, 58, 0, 0)],
  [(49, .aload_n f3, 1, 0, 0, 0), (50, .getfield 219, 3, 1, 4, 0), (53, .bipush 12, 2, 12, 0, 0), (55, .if_icmp .lt 5, 3, 60, 0, 0), (58, .iconst (-1), 1, 4294967295, 0, 0), (59, .ireturn, 1, 0, 0, 0), (60, .aload_n f3, 1, 0, 0, 0), (61, .getfield 391, 3, 1, 5, 1)],
  [(64, .aload_n f3, 1, 0, 0, 0), (65, .getfield 219, 3, 1, 4, 0), (68, .iload_n f1, 1, 0, 0, 0), (69, .iastore, 1, 0, 0, 0), (70, .aload_n f3, 1, 0, 0, 0), (71, .getfield 394, 3, 1, 6, 1), (74, .aload_n f3, 1, 0, 0, 0), (75, .getfield 219, 3, 1, 4, 0), (78, .iload_n f2, 1, 0, 0, 0), (79, .iastore, 1, 0, 0, 0)],
  [(80, .aload_n f3, 1, 0, 0, 0), (81, .dup, 1, 0, 0, 0), (82, .getfield 219, 3, 1, 4, 0), (85, .iconst 1, 1, 1, 0, 0), (86, .iadd, 1, 0, 0, 0), (87, .putfield 219, 3, 1, 4, 0), (90, .aload_n f3, 1, 0, 0, 0), (91, .getfield 219, 3, 1, 4, 0), (94, .ireturn, 1, 0, 0, 0)]]
/-- ToolUnionModel.seen(II)I -/
def cd_293 : List (List EEw) := [
  [(0, .iload_n f1, 1, 0, 0, 0), (1, .iconst (-1), 1, 4294967295, 0, 0), (2, .if_icmp .ne 13, 3, 15, 0, 0), (5, .aload_n f0, 1, 0, 0, 0), (6, .getfield 7, 3, 12, 0, 1), (9, .bipush 104, 2, 104, 0, 0), (11, .iconst 0, 1, 0, 0, 0), (12, .iastore, 1, 0, 0, 0), (13, .iconst 0, 1, 0, 0, 0), (14, .ireturn, 1, 0, 0, 0), (15, .aload_n f0, 1, 0, 0, 0)],
  [(16, .iload_n f1, 1, 0, 0, 0), (17, .invokevirtual 481, 3, 216, 1, 49), (20, .ifCond .eq 28, 3, 48, 0, 0), (23, .aload_n f0, 1, 0, 0, 0), (24, .iload_n f2, 1, 0, 0, 0), (25, .invokevirtual 481, 3, 216, 1, 49), (28, .ifCond .eq 20, 3, 48, 0, 0), (31, .iload_n f1, 1, 0, 0, 0)],
  [(32, .iload_n f2, 1, 0, 0, 0), (33, .if_icmp .eq 15, 3, 48, 0, 0), (36, .aload_n f0, 1, 0, 0, 0), (37, .getfield 7, 3, 12, 0, 1), (40, .bipush 104, 2, 104, 0, 0), (42, .iaload, 1, 0, 0, 0), (43, .bipush 12, 2, 12, 0, 0), (45, .if_icmp .ne 5, 3, 50, 0, 0)],
  [(48, .iconst (-1), 1, 4294967295, 0, 0), (49, .ireturn, 1, 0, 0, 0), (50, .aload_n f0, 1, 0, 0, 0), (51, .getfield 7, 3, 12, 0, 1), (54, .bipush 105, 2, 105, 0, 0), (56, .iconst 2, 1, 2, 0, 0), (57, .aload_n f0, 1, 0, 0, 0), (58, .getfield 7, 3, 12, 0, 1), (61, .bipush 104, 2, 104, 0, 0), (63, .iaload, 1, 0, 0, 0)],
  [(64, .imul, 1, 0, 0, 0), (65, .iadd, 1, 0, 0, 0), (66, .iload_n f1, 1, 0, 0, 0), (67, .iastore, 1, 0, 0, 0), (68, .aload_n f0, 1, 0, 0, 0), (69, .getfield 7, 3, 12, 0, 1), (72, .bipush 105, 2, 105, 0, 0), (74, .iconst 2, 1, 2, 0, 0), (75, .aload_n f0, 1, 0, 0, 0), (76, .getfield 7, 3, 12, 0, 1), (79, .bipush 104, 2, 104, 0, 0)],
  [(81, .iaload, 1, 0, 0, 0), (82, .imul, 1, 0, 0, 0), (83, .iadd, 1, 0, 0, 0), (84, .iconst 1, 1, 1, 0, 0), (85, .iadd, 1, 0, 0, 0), (86, .iload_n f2, 1, 0, 0, 0), (87, .iastore, 1, 0, 0, 0), (88, .aload_n f0, 1, 0, 0, 0), (89, .getfield 7, 3, 12, 0, 1), (92, .bipush 104, 2, 104, 0, 0), (94, .dup2, 1, 0, 0, 0), (95, .iaload, 1, 0, 0, 0)],
  [(96, .iconst 1, 1, 1, 0, 0), (97, .iadd, 1, 0, 0, 0), (98, .iastore, 1, 0, 0, 0), (99, .aload_n f0, 1, 0, 0, 0), (100, .getfield 7, 3, 12, 0, 1), (103, .bipush 104, 2, 104, 0, 0), (105, .iaload, 1, 0, 0, 0), (106, .ireturn, 1, 0, 0, 0)]]
/-- ToolUnion$Hull.aheadOf(I)I -/
def cd_294 : List (List EEw) := [
  [(0, .aload_n f0, 1, 0, 0, 0), (1, .getfield 18, 3, 1, 3, 1), (4, .iload_n f1, 1, 0, 0, 0), (5, .iaload, 1, 0, 0, 0), (6, .istore_n f2, 1, 0, 0, 0), (7, .iconst 0, 1, 0, 0, 0), (8, .istore_n f3, 1, 0, 0, 0), (9, .iload_n f3, 1, 0, 0, 0), (10, .aload_n f0, 1, 0, 0, 0), (11, .getfield 41, 3, 1, 4, 0), (14, .if_icmp .ge 36, 3, 50, 0, 0)],
  [(17, .iload_n f3, 1, 0, 0, 0), (18, .bipush 12, 2, 12, 0, 0), (20, .if_icmp .ge 30, 3, 50, 0, 0), (23, .aload_n f0, 1, 0, 0, 0), (24, .getfield 24, 3, 1, 6, 1), (27, .iload_n f3, 1, 0, 0, 0), (28, .iaload, 1, 0, 0, 0), (29, .iload_n f1, 1, 0, 0, 0), (30, .if_icmp .ne 14, 3, 44, 0, 0)],
  [(33, .iload_n f2, 1, 0, 0, 0), (34, .iconst 1, 1, 1, 0, 0), (35, .aload_n f0, 1, 0, 0, 0), (36, .getfield 21, 3, 1, 5, 1), (39, .iload_n f3, 1, 0, 0, 0), (40, .iaload, 1, 0, 0, 0), (41, .ishl, 1, 0, 0, 0), (42, .ior, 1, 0, 0, 0), (43, .istore_n f2, 1, 0, 0, 0), (44, .iinc 3 1, 3, 0, 0, 0), (47, .goto (-38), 3, 9, 0, 0)],
  [(50, .iload_n f2, 1, 0, 0, 0), (51, .ireturn, 1, 0, 0, 0)]]
/-- ToolUnion$Hull.waysTo(I)I -/
def cd_295 : List (List EEw) := [
  [(0, .iconst 0, 1, 0, 0, 0), (1, .istore_n f2, 1, 0, 0, 0), (2, .iconst 0, 1, 0, 0, 0), (3, .istore_n f3, 1, 0, 0, 0), (4, .iload_n f3, 1, 0, 0, 0), (5, .bipush 8, 2, 8, 0, 0), (7, .if_icmp .ge 52, 3, 59, 0, 0), (10, .iload_n f1, 1, 0, 0, 0), (11, .iconst 1, 1, 1, 0, 0), (12, .iload_n f3, 1, 0, 0, 0), (13, .ishl, 1, 0, 0, 0), (14, .iconst (-1), 1, 4294967295, 0, 0), (15, .ixor, 1, 0, 0, 0)],
  [(16, .iand, 1, 0, 0, 0), (17, .istore 4, 2, 0, 0, 0), (19, .iload 4, 2, 0, 0, 0), (21, .iload_n f1, 1, 0, 0, 0), (22, .if_icmp .eq 31, 3, 53, 0, 0), (25, .aload_n f0, 1, 0, 0, 0), (26, .getfield 27, 3, 1, 7, 1), (29, .iload_n f3, 1, 0, 0, 0), (30, .iaload, 1, 0, 0, 0), (31, .iload 4, 2, 0, 0, 0)],
  [(33, .iconst (-1), 1, 4294967295, 0, 0), (34, .ixor, 1, 0, 0, 0), (35, .iand, 1, 0, 0, 0), (36, .ifCond .ne 17, 3, 53, 0, 0), (39, .iload_n f2, 1, 0, 0, 0), (40, .aload_n f0, 1, 0, 0, 0), (41, .getfield 30, 3, 1, 8, 1), (44, .iload 4, 2, 0, 0, 0), (46, .sipush 255, 3, 255, 0, 0)],
  [(49, .iand, 1, 0, 0, 0), (50, .iaload, 1, 0, 0, 0), (51, .iadd, 1, 0, 0, 0), (52, .istore_n f2, 1, 0, 0, 0), (53, .iinc 3 1, 3, 0, 0, 0), (56, .goto (-52), 3, 4, 0, 0), (59, .iload_n f2, 1, 0, 0, 0), (60, .ireturn, 1, 0, 0, 0)]]
/-- ToolUnion$Hull.countOrders()I -/
def cd_296 : List (List EEw) := [
  [(0, .iconst 0, 1, 0, 0, 0), (1, .istore_n f1, 1, 0, 0, 0), (2, .iload_n f1, 1, 0, 0, 0), (3, .bipush 8, 2, 8, 0, 0), (5, .if_icmp .ge 20, 3, 25, 0, 0), (8, .aload_n f0, 1, 0, 0, 0), (9, .getfield 27, 3, 1, 7, 1), (12, .iload_n f1, 1, 0, 0, 0), (13, .aload_n f0, 1, 0, 0, 0), (14, .iload_n f1, 1, 0, 0, 0), (15, .invokevirtual 57, 3, 294, 1, 5)],
  [(18, .iastore, 1, 0, 0, 0), (19, .iinc 1 1, 3, 0, 0, 0), (22, .goto (-20), 3, 2, 0, 0), (25, .iconst 1, 1, 1, 0, 0), (26, .aload_n f0, 1, 0, 0, 0), (27, .getfield 33, 3, 1, 0, 0), (30, .ishl, 1, 0, 0, 0), (31, .iconst 1, 1, 1, 0, 0)],
  [(32, .isub, 1, 0, 0, 0), (33, .istore_n f1, 1, 0, 0, 0), (34, .aload_n f0, 1, 0, 0, 0), (35, .getfield 30, 3, 1, 8, 1), (38, .iconst 0, 1, 0, 0, 0), (39, .iconst 1, 1, 1, 0, 0), (40, .iastore, 1, 0, 0, 0), (41, .iconst 1, 1, 1, 0, 0), (42, .istore_n f2, 1, 0, 0, 0), (43, .iload_n f2, 1, 0, 0, 0), (44, .iload_n f1, 1, 0, 0, 0), (45, .if_icmp .gt 27, 3, 72, 0, 0)],
  [(48, .iload_n f2, 1, 0, 0, 0), (49, .sipush 256, 3, 256, 0, 0), (52, .if_icmp .ge 20, 3, 72, 0, 0), (55, .aload_n f0, 1, 0, 0, 0), (56, .getfield 30, 3, 1, 8, 1), (59, .iload_n f2, 1, 0, 0, 0), (60, .aload_n f0, 1, 0, 0, 0), (61, .iload_n f2, 1, 0, 0, 0), (62, .invokevirtual 61, 3, 295, 1, 5)],
  [(65, .iastore, 1, 0, 0, 0), (66, .iinc 2 1, 3, 0, 0, 0), (69, .goto (-26), 3, 43, 0, 0), (72, .aload_n f0, 1, 0, 0, 0), (73, .getfield 30, 3, 1, 8, 1), (76, .iload_n f1, 1, 0, 0, 0), (77, .sipush 255, 3, 255, 0, 0)],
  [(80, .iand, 1, 0, 0, 0), (81, .iaload, 1, 0, 0, 0), (82, .ireturn, 1, 0, 0, 0)]]
/-- ToolUnion$Hull.leastAfter(I)I -/
def cd_297 : List (List EEw) := [
  [(0, .iconst 0, 1, 0, 0, 0), (1, .istore_n f2, 1, 0, 0, 0), (2, .iload_n f2, 1, 0, 0, 0), (3, .aload_n f0, 1, 0, 0, 0), (4, .getfield 33, 3, 1, 0, 0), (7, .if_icmp .ge 37, 3, 44, 0, 0), (10, .iload_n f2, 1, 0, 0, 0), (11, .bipush 8, 2, 8, 0, 0), (13, .if_icmp .ge 31, 3, 44, 0, 0)],
  [(16, .iload_n f1, 1, 0, 0, 0), (17, .iload_n f2, 1, 0, 0, 0), (18, .invokestatic 53, 3, 48, 2, 1), (21, .ifCond .ne 17, 3, 38, 0, 0), (24, .aload_n f0, 1, 0, 0, 0), (25, .iload_n f2, 1, 0, 0, 0), (26, .invokevirtual 57, 3, 294, 1, 5), (29, .iload_n f1, 1, 0, 0, 0), (30, .iconst (-1), 1, 4294967295, 0, 0), (31, .ixor, 1, 0, 0, 0)],
  [(32, .iand, 1, 0, 0, 0), (33, .ifCond .ne 5, 3, 38, 0, 0), (36, .iload_n f2, 1, 0, 0, 0), (37, .ireturn, 1, 0, 0, 0), (38, .iinc 2 1, 3, 0, 0, 0), (41, .goto (-39), 3, 2, 0, 0), (44, .iconst (-1), 1, 4294967295, 0, 0), (45, .ireturn, 1, 0, 0, 0)]]
/-- ToolUnion$Hull.inFirstOrder(I)I -/
def cd_298 : List (List EEw) := [
  [(0, .iconst 0, 1, 0, 0, 0), (1, .istore_n f2, 1, 0, 0, 0), (2, .iconst (-1), 1, 4294967295, 0, 0), (3, .istore_n f3, 1, 0, 0, 0), (4, .iconst 0, 1, 0, 0, 0), (5, .istore 4, 2, 0, 0, 0), (7, .iload 4, 2, 0, 0, 0), (9, .iload_n f1, 1, 0, 0, 0), (10, .if_icmp .gt 35, 3, 45, 0, 0), (13, .iload 4, 2, 0, 0, 0), (15, .bipush 8, 2, 8, 0, 0)],
  [(17, .if_icmp .ge 28, 3, 45, 0, 0), (20, .aload_n f0, 1, 0, 0, 0), (21, .iload_n f2, 1, 0, 0, 0), (22, .invokevirtual 64, 3, 297, 1, 5), (25, .istore_n f3, 1, 0, 0, 0), (26, .iload_n f3, 1, 0, 0, 0), (27, .iconst (-1), 1, 4294967295, 0, 0), (28, .if_icmp .ne 5, 3, 33, 0, 0), (31, .iconst (-1), 1, 4294967295, 0, 0)],
  [(32, .ireturn, 1, 0, 0, 0), (33, .iload_n f2, 1, 0, 0, 0), (34, .iconst 1, 1, 1, 0, 0), (35, .iload_n f3, 1, 0, 0, 0), (36, .ishl, 1, 0, 0, 0), (37, .ior, 1, 0, 0, 0), (38, .istore_n f2, 1, 0, 0, 0), (39, .iinc 4 1, 3, 0, 0, 0), (42, .goto (-35), 3, 7, 0, 0), (45, .iload_n f3, 1, 0, 0, 0), (46, .ireturn, 1, 0, 0, 0)]]
/-- ToolUnion.orders(I)I -/
def cd_299 : List (List EEw) := [
  [(0, .iload_n f1, 1, 0, 0, 0), (1, .ifCond .ne 14, 3, 15, 0, 0), (4, .aload_n f0, 1, 0, 0, 0), (5, .getfield 10, 3, 11, 0, 1), (8, .getfield 208, 3, 10, 2, 1), (11, .invokevirtual 397, 3, 296, 0, 5), (14, .ireturn, 1, 0, 0, 0), (15, .iload_n f1, 1, 0, 0, 0)],
  [(16, .bipush 10, 2, 10, 0, 0), (18, .if_icmp .lt 33, 3, 51, 0, 0), (21, .iload_n f1, 1, 0, 0, 0), (22, .bipush 10, 2, 10, 0, 0), (24, .aload_n f0, 1, 0, 0, 0), (25, .getfield 10, 3, 11, 0, 1), (28, .getfield 208, 3, 10, 2, 1), (31, .getfield 234, 3, 1, 0, 0)],
  [(34, .iadd, 1, 0, 0, 0), (35, .if_icmp .ge 16, 3, 51, 0, 0), (38, .aload_n f0, 1, 0, 0, 0), (39, .getfield 10, 3, 11, 0, 1), (42, .getfield 208, 3, 10, 2, 1), (45, .invokevirtual 397, 3, 296, 0, 5)],
  [(48, .ifCond .ne 5, 3, 53, 0, 0), (51, .iconst (-1), 1, 4294967295, 0, 0), (52, .ireturn, 1, 0, 0, 0), (53, .aload_n f0, 1, 0, 0, 0), (54, .getfield 10, 3, 11, 0, 1), (57, .getfield 208, 3, 10, 2, 1), (60, .iload_n f1, 1, 0, 0, 0), (61, .bipush 10, 2, 10, 0, 0), (63, .isub, 1, 0, 0, 0)],
  [(64, .invokevirtual 400, 3, 298, 1, 5), (67, .ireturn, 1, 0, 0, 0)]]
/-- ToolUnionModel.canCome(II)Z -/
def cd_300 : List (List EEw) := [
  [(0, .iload_n f2, 1, 0, 0, 0), (1, .iload_n f1, 1, 0, 0, 0), (2, .ishr, 1, 0, 0, 0), (3, .iconst 1, 1, 1, 0, 0), (4, .iand, 1, 0, 0, 0), (5, .ifCond .ne 20, 3, 25, 0, 0), (8, .aload_n f0, 1, 0, 0, 0), (9, .getfield 64, 3, 12, 37, 1), (12, .iload_n f1, 1, 0, 0, 0), (13, .iaload, 1, 0, 0, 0), (14, .iload_n f2, 1, 0, 0, 0), (15, .iconst (-1), 1, 4294967295, 0, 0)],
  [(16, .ixor, 1, 0, 0, 0), (17, .iand, 1, 0, 0, 0), (18, .ifCond .ne 7, 3, 25, 0, 0), (21, .iconst 1, 1, 1, 0, 0), (22, .goto 4, 3, 26, 0, 0), (25, .iconst 0, 1, 0, 0, 0), (26, .ireturn, 1, 0, 0, 1)]]
/-- ToolUnionModel.laysOrders()V -/
def cd_301 : List (List EEw) := [
  [(0, .iconst 0, 1, 0, 0, 0), (1, .istore_n f1, 1, 0, 0, 0), (2, .iload_n f1, 1, 0, 0, 0), (3, .aload_n f0, 1, 0, 0, 0), (4, .getfield 7, 3, 12, 0, 1), (7, .bipush 98, 2, 98, 0, 0), (9, .iaload, 1, 0, 0, 0), (10, .if_icmp .ge 21, 3, 31, 0, 0), (13, .aload_n f0, 1, 0, 0, 0), (14, .getfield 64, 3, 12, 37, 1)],
  [(17, .iload_n f1, 1, 0, 0, 0), (18, .aload_n f0, 1, 0, 0, 0), (19, .iload_n f1, 1, 0, 0, 0), (20, .iconst 2, 1, 2, 0, 0), (21, .invokevirtual 337, 3, 76, 2, 49), (24, .iastore, 1, 0, 0, 0), (25, .iinc 1 1, 3, 0, 0, 0), (28, .goto (-26), 3, 2, 0, 0), (31, .iconst 0, 1, 0, 0, 0)],
  [(32, .istore_n f1, 1, 0, 0, 0), (33, .iload_n f1, 1, 0, 0, 0), (34, .aload_n f0, 1, 0, 0, 0), (35, .getfield 7, 3, 12, 0, 1), (38, .bipush 104, 2, 104, 0, 0), (40, .iaload, 1, 0, 0, 0), (41, .if_icmp .ge 43, 3, 84, 0, 0), (44, .aload_n f0, 1, 0, 0, 0), (45, .getfield 64, 3, 12, 37, 1)],
  [(48, .aload_n f0, 1, 0, 0, 0), (49, .getfield 7, 3, 12, 0, 1), (52, .bipush 105, 2, 105, 0, 0), (54, .iconst 2, 1, 2, 0, 0), (55, .iload_n f1, 1, 0, 0, 0), (56, .imul, 1, 0, 0, 0), (57, .iadd, 1, 0, 0, 0), (58, .iconst 1, 1, 1, 0, 0), (59, .iadd, 1, 0, 0, 0), (60, .iaload, 1, 0, 0, 0), (61, .dup2, 1, 0, 0, 0), (62, .iaload, 1, 0, 0, 0), (63, .iconst 1, 1, 1, 0, 0)],
  [(64, .aload_n f0, 1, 0, 0, 0), (65, .getfield 7, 3, 12, 0, 1), (68, .bipush 105, 2, 105, 0, 0), (70, .iconst 2, 1, 2, 0, 0), (71, .iload_n f1, 1, 0, 0, 0), (72, .imul, 1, 0, 0, 0), (73, .iadd, 1, 0, 0, 0), (74, .iaload, 1, 0, 0, 0), (75, .ishl, 1, 0, 0, 0), (76, .ior, 1, 0, 0, 0), (77, .iastore, 1, 0, 0, 0), (78, .iinc 1 1, 3, 0, 0, 0)],
  [(81, .goto (-48), 3, 33, 0, 0), (84, .aload_n f0, 1, 0, 0, 0), (85, .invokevirtual 396, 3, 245, 0, 49), (88, .istore_n f1, 1, 0, 0, 0), (89, .iload_n f1, 1, 0, 0, 0), (90, .ifCond .lt 79, 3, 169, 0, 0), (93, .aload_n f0, 1, 0, 0, 0), (94, .getfield 67, 3, 12, 38, 1)],
  [(97, .iload_n f1, 1, 0, 0, 0), (98, .iload_n f1, 1, 0, 0, 0), (99, .aload_n f0, 1, 0, 0, 0), (100, .invokevirtual 396, 3, 245, 0, 49), (103, .if_icmp .ne 7, 3, 110, 0, 0), (106, .iconst 1, 1, 1, 0, 0), (107, .goto 4, 3, 111, 0, 0), (110, .iconst 0, 1, 0, 0, 0), (111, .iastore, 1, 0, 0, 0)],
  [(112, .iconst 0, 1, 0, 0, 0), (113, .istore_n f2, 1, 0, 0, 0), (114, .iload_n f2, 1, 0, 0, 0), (115, .aload_n f0, 1, 0, 0, 0), (116, .getfield 7, 3, 12, 0, 1), (119, .bipush 98, 2, 98, 0, 0), (121, .iaload, 1, 0, 0, 0), (122, .if_icmp .ge 41, 3, 163, 0, 0), (125, .aload_n f0, 1, 0, 0, 0), (126, .getfield 67, 3, 12, 38, 1)],
  [(129, .iload_n f1, 1, 0, 0, 0), (130, .dup2, 1, 0, 0, 0), (131, .iaload, 1, 0, 0, 0), (132, .aload_n f0, 1, 0, 0, 0), (133, .iload_n f2, 1, 0, 0, 0), (134, .iload_n f1, 1, 0, 0, 0), (135, .invokevirtual 484, 3, 300, 2, 49), (138, .ifCond .eq 16, 3, 154, 0, 0), (141, .aload_n f0, 1, 0, 0, 0), (142, .getfield 67, 3, 12, 38, 1)],
  [(145, .iload_n f1, 1, 0, 0, 0), (146, .iconst 1, 1, 1, 0, 0), (147, .iload_n f2, 1, 0, 0, 0), (148, .ishl, 1, 0, 0, 0), (149, .ior, 1, 0, 0, 0), (150, .iaload, 1, 0, 0, 0), (151, .goto 4, 3, 155, 0, 0), (154, .iconst 0, 1, 0, 0, 0), (155, .iadd, 1, 0, 0, 0), (156, .iastore, 1, 0, 0, 0), (157, .iinc 2 1, 3, 0, 0, 0)],
  [(160, .goto (-46), 3, 114, 0, 0), (163, .iinc 1 (-1), 3, 0, 0, 0), (166, .goto (-77), 3, 89, 0, 0), (169, .return_, 1, 0, 0, 0)]]
/-- ToolUnionModel.nextOf(I)I -/
def cd_302 : List (List EEw) := [
  [(0, .iconst 0, 1, 0, 0, 0), (1, .istore_n f2, 1, 0, 0, 0), (2, .aload_n f0, 1, 0, 0, 0), (3, .iload_n f2, 1, 0, 0, 0), (4, .iload_n f1, 1, 0, 0, 0), (5, .invokevirtual 484, 3, 300, 2, 49), (8, .ifCond .eq 16, 3, 24, 0, 0), (11, .aload_n f0, 1, 0, 0, 0), (12, .getfield 67, 3, 12, 38, 1), (15, .iload_n f1, 1, 0, 0, 0)],
  [(16, .iconst 1, 1, 1, 0, 0), (17, .iload_n f2, 1, 0, 0, 0), (18, .ishl, 1, 0, 0, 0), (19, .ior, 1, 0, 0, 0), (20, .iaload, 1, 0, 0, 0), (21, .ifCond .ne 9, 3, 30, 0, 0), (24, .iinc 2 1, 3, 0, 0, 0), (27, .goto (-25), 3, 2, 0, 0), (30, .iload_n f2, 1, 0, 0, 0), (31, .ireturn, 1, 0, 0, 0)]]
/-- ToolUnionModel.orders(I)I -/
def cd_303 : List (List EEw) := [
  [(0, .iload_n f1, 1, 0, 0, 0), (1, .ifCond .eq 24, 3, 25, 0, 0), (4, .iload_n f1, 1, 0, 0, 0), (5, .bipush 10, 2, 10, 0, 0), (7, .bipush 9, 2, 9, 0, 0), (9, .aload_n f0, 1, 0, 0, 0), (10, .getfield 7, 3, 12, 0, 1), (13, .bipush 98, 2, 98, 0, 0), (15, .iaload, 1, 0, 0, 0)],
  [(16, .iadd, 1, 0, 0, 0), (17, .invokestatic 77, 3, 20, 3, 1), (20, .ifCond .ne 5, 3, 25, 0, 0), (23, .iconst (-1), 1, 4294967295, 0, 0), (24, .ireturn, 1, 0, 0, 0), (25, .aload_n f0, 1, 0, 0, 0), (26, .invokevirtual 487, 3, 301, 0, 48), (29, .iload_n f1, 1, 0, 0, 0), (30, .ifCond .ne 10, 3, 40, 0, 0)],
  [(33, .aload_n f0, 1, 0, 0, 0), (34, .getfield 67, 3, 12, 38, 1), (37, .iconst 0, 1, 0, 0, 0), (38, .iaload, 1, 0, 0, 0), (39, .ireturn, 1, 0, 0, 0), (40, .aload_n f0, 1, 0, 0, 0), (41, .getfield 67, 3, 12, 38, 1), (44, .iconst 0, 1, 0, 0, 0), (45, .iaload, 1, 0, 0, 0), (46, .ifCond .ne 5, 3, 51, 0, 0)],
  [(49, .iconst (-1), 1, 4294967295, 0, 0), (50, .ireturn, 1, 0, 0, 0), (51, .iconst 0, 1, 0, 0, 0), (52, .istore_n f2, 1, 0, 0, 0), (53, .iconst (-1), 1, 4294967295, 0, 0), (54, .istore_n f3, 1, 0, 0, 0), (55, .bipush 10, 2, 10, 0, 0), (57, .istore 4, 2, 0, 0, 0), (59, .iload 4, 2, 0, 0, 0), (61, .iload_n f1, 1, 0, 0, 0), (62, .if_icmp .gt 21, 3, 83, 0, 0)],
  [(65, .aload_n f0, 1, 0, 0, 0), (66, .iload_n f2, 1, 0, 0, 0), (67, .invokevirtual 490, 3, 302, 1, 49), (70, .istore_n f3, 1, 0, 0, 0), (71, .iload_n f2, 1, 0, 0, 0), (72, .iconst 1, 1, 1, 0, 0), (73, .iload_n f3, 1, 0, 0, 0), (74, .ishl, 1, 0, 0, 0), (75, .ior, 1, 0, 0, 0), (76, .istore_n f2, 1, 0, 0, 0), (77, .iinc 4 1, 3, 0, 0, 0)],
  [(80, .goto (-21), 3, 59, 0, 0), (83, .iload_n f3, 1, 0, 0, 0), (84, .ireturn, 1, 0, 0, 0)]]
/-- ToolUnion.undo()Z -/
def cd_304 : List (List EEw) := [
  [(0, .aload_n f0, 1, 0, 0, 0), (1, .getfield 403, 3, 11, 5, 0), (4, .ifCond .ne 5, 3, 9, 0, 0), (7, .iconst 0, 1, 0, 0, 0), (8, .ireturn, 1, 0, 0, 1), (9, .aload_n f0, 1, 0, 0, 0), (10, .aload_n f0, 1, 0, 0, 0), (11, .getfield 406, 3, 11, 6, 0), (14, .bipush 6, 2, 6, 0, 0)],
  [(16, .iadd, 1, 0, 0, 0), (17, .iconst 1, 1, 1, 0, 0), (18, .isub, 1, 0, 0, 0), (19, .bipush 6, 2, 6, 0, 0), (21, .irem, 1, 0, 0, 0), (22, .putfield 406, 3, 11, 6, 0), (25, .aload_n f0, 1, 0, 0, 0), (26, .dup, 1, 0, 0, 0), (27, .getfield 403, 3, 11, 5, 0), (30, .iconst 1, 1, 1, 0, 0), (31, .isub, 1, 0, 0, 0)],
  [(32, .putfield 403, 3, 11, 5, 0), (35, .aload_n f0, 1, 0, 0, 0), (36, .getfield 10, 3, 11, 0, 1), (39, .getfield 65, 3, 10, 1, 1), (42, .aload_n f0, 1, 0, 0, 0), (43, .getfield 26, 3, 11, 4, 1), (46, .aload_n f0, 1, 0, 0, 0), (47, .getfield 406, 3, 11, 6, 0)],
  [(50, .aaload, 1, 0, 0, 0), (51, .invokevirtual 362, 3, 36, 1, 20), (54, .iconst 1, 1, 1, 0, 0), (55, .ireturn, 1, 0, 0, 1)]]
/-- ToolUnionModel.undo()Z -/
def cd_305 : List (List EEw) := [
  [(0, .aload_n f0, 1, 0, 0, 0), (1, .getfield 81, 3, 12, 4, 0), (4, .ifCond .ne 5, 3, 9, 0, 0), (7, .iconst 0, 1, 0, 0, 0), (8, .ireturn, 1, 0, 0, 1), (9, .aload_n f0, 1, 0, 0, 0), (10, .dup, 1, 0, 0, 0), (11, .getfield 81, 3, 12, 4, 0), (14, .iconst 1, 1, 1, 0, 0), (15, .isub, 1, 0, 0, 0)],
  [(16, .putfield 81, 3, 12, 4, 0), (19, .iconst 0, 1, 0, 0, 0), (20, .istore_n f1, 1, 0, 0, 0), (21, .iload_n f1, 1, 0, 0, 0), (22, .bipush 96, 2, 96, 0, 0), (24, .if_icmp .ge 29, 3, 53, 0, 0), (27, .aload_n f0, 1, 0, 0, 0), (28, .getfield 7, 3, 12, 0, 1), (31, .iload_n f1, 1, 0, 0, 0)],
  [(32, .aload_n f0, 1, 0, 0, 0), (33, .getfield 16, 3, 12, 2, 1), (36, .bipush 96, 2, 96, 0, 0), (38, .aload_n f0, 1, 0, 0, 0), (39, .getfield 81, 3, 12, 4, 0), (42, .imul, 1, 0, 0, 0), (43, .iload_n f1, 1, 0, 0, 0), (44, .iadd, 1, 0, 0, 0), (45, .iaload, 1, 0, 0, 0), (46, .iastore, 1, 0, 0, 0), (47, .iinc 1 1, 3, 0, 0, 0)],
  [(50, .goto (-29), 3, 21, 0, 0), (53, .iconst 1, 1, 1, 0, 0), (54, .ireturn, 1, 0, 0, 1)]]
/-- ToolUnion$Crew.copy(LToolUnion$Crew;)V -/
def cd_306 : List (List EEw) := [
  [(0, .aload_n f0, 1, 0, 0, 0), (1, .aload_n f1, 1, 0, 0, 0), (2, .getfield 37, 3, 0, 0, 0), (5, .putfield 37, 3, 0, 0, 0), (8, .aload_n f0, 1, 0, 0, 0), (9, .aload_n f1, 1, 0, 0, 0), (10, .getfield 40, 3, 0, 1, 0), (13, .putfield 40, 3, 0, 1, 0)],
  [(16, .aload_n f0, 1, 0, 0, 0), (17, .aload_n f1, 1, 0, 0, 0), (18, .getfield 43, 3, 0, 2, 0), (21, .putfield 43, 3, 0, 2, 0), (24, .aload_n f0, 1, 0, 0, 0), (25, .aload_n f1, 1, 0, 0, 0), (26, .getfield 9, 3, 0, 3, 0), (29, .putfield 9, 3, 0, 3, 0)],
  [(32, .aload_n f1, 1, 0, 0, 0), (33, .getfield 15, 3, 0, 4, 1), (36, .aload_n f0, 1, 0, 0, 0), (37, .getfield 15, 3, 0, 4, 1), (40, .invokestatic 46, 3, 35, 2, 0), (43, .aload_n f1, 1, 0, 0, 0), (44, .getfield 19, 3, 0, 5, 1), (47, .aload_n f0, 1, 0, 0, 0)],
  [(48, .getfield 19, 3, 0, 5, 1), (51, .invokestatic 46, 3, 35, 2, 0), (54, .aload_n f1, 1, 0, 0, 0), (55, .getfield 22, 3, 0, 6, 1), (58, .aload_n f0, 1, 0, 0, 0), (59, .getfield 22, 3, 0, 6, 1), (62, .invokestatic 46, 3, 35, 2, 0)],
  [(65, .aload_n f1, 1, 0, 0, 0), (66, .getfield 25, 3, 0, 7, 1), (69, .aload_n f0, 1, 0, 0, 0), (70, .getfield 25, 3, 0, 7, 1), (73, .invokestatic 46, 3, 35, 2, 0), (76, .aload_n f1, 1, 0, 0, 0), (77, .getfield 28, 3, 0, 8, 1)],
  [(80, .aload_n f0, 1, 0, 0, 0), (81, .getfield 28, 3, 0, 8, 1), (84, .invokestatic 46, 3, 35, 2, 0), (87, .aload_n f1, 1, 0, 0, 0), (88, .getfield 31, 3, 0, 9, 1), (91, .aload_n f0, 1, 0, 0, 0), (92, .getfield 31, 3, 0, 9, 1), (95, .invokestatic 46, 3, 35, 2, 0)],
  [(98, .aload_n f1, 1, 0, 0, 0), (99, .getfield 34, 3, 0, 10, 1), (102, .aload_n f0, 1, 0, 0, 0), (103, .getfield 34, 3, 0, 10, 1), (106, .invokestatic 46, 3, 35, 2, 0), (109, .return_, 1, 0, 0, 0)]]
/-- ToolUnion$Yard.copy(LToolUnion$Yard;)V -/
def cd_307 : List (List EEw) := [
  [(0, .aload_n f0, 1, 0, 0, 0), (1, .getfield 12, 3, 10, 0, 1), (4, .aload_n f1, 1, 0, 0, 0), (5, .getfield 12, 3, 10, 0, 1), (8, .invokevirtual 53, 3, 306, 1, 0), (11, .aload_n f0, 1, 0, 0, 0), (12, .getfield 21, 3, 10, 1, 1), (15, .aload_n f1, 1, 0, 0, 0)],
  [(16, .getfield 21, 3, 10, 1, 1), (19, .invokevirtual 57, 3, 36, 1, 20), (22, .aload_n f0, 1, 0, 0, 0), (23, .getfield 28, 3, 10, 2, 1), (26, .aload_n f1, 1, 0, 0, 0), (27, .getfield 28, 3, 10, 2, 1), (30, .invokevirtual 60, 3, 138, 1, 4)],
  [(33, .aload_n f0, 1, 0, 0, 0), (34, .getfield 35, 3, 10, 3, 1), (37, .aload_n f1, 1, 0, 0, 0), (38, .getfield 35, 3, 10, 3, 1), (41, .invokevirtual 63, 3, 144, 1, 32), (44, .aload_n f0, 1, 0, 0, 0), (45, .getfield 42, 3, 10, 4, 1)],
  [(48, .aload_n f1, 1, 0, 0, 0), (49, .getfield 42, 3, 10, 4, 1), (52, .invokevirtual 66, 3, 134, 1, 12), (55, .aload_n f0, 1, 0, 0, 0), (56, .getfield 46, 3, 10, 5, 1), (59, .aload_n f1, 1, 0, 0, 0), (60, .getfield 46, 3, 10, 5, 1), (63, .invokevirtual 66, 3, 134, 1, 12)],
  [(66, .aload_n f1, 1, 0, 0, 0), (67, .getfield 49, 3, 10, 6, 1), (70, .aload_n f0, 1, 0, 0, 0), (71, .getfield 49, 3, 10, 6, 1), (74, .invokestatic 69, 3, 35, 2, 0), (77, .return_, 1, 0, 0, 0)]]
/-- ToolUnion.image(Z)Z -/
def cd_308 : List (List EEw) := [
  [(0, .iload_n f1, 1, 0, 0, 0), (1, .ifCond .eq 21, 3, 22, 0, 0), (4, .aload_n f0, 1, 0, 0, 0), (5, .getfield 16, 3, 11, 1, 1), (8, .aload_n f0, 1, 0, 0, 0), (9, .getfield 10, 3, 11, 0, 1), (12, .invokevirtual 414, 3, 307, 1, 40), (15, .aload_n f0, 1, 0, 0, 0)],
  [(16, .iconst 1, 1, 1, 0, 0), (17, .putfield 417, 3, 11, 2, 2), (20, .iconst 1, 1, 1, 0, 0), (21, .ireturn, 1, 0, 0, 1), (22, .aload_n f0, 1, 0, 0, 0), (23, .getfield 417, 3, 11, 2, 0), (26, .ifCond .ne 5, 3, 31, 0, 0), (29, .iconst 0, 1, 0, 0, 0), (30, .ireturn, 1, 0, 0, 1), (31, .aload_n f0, 1, 0, 0, 0)],
  [(32, .getfield 10, 3, 11, 0, 1), (35, .aload_n f0, 1, 0, 0, 0), (36, .getfield 16, 3, 11, 1, 1), (39, .invokevirtual 414, 3, 307, 1, 40), (42, .aload_n f0, 1, 0, 0, 0), (43, .invokevirtual 72, 3, 13, 0, 44), (46, .iconst 1, 1, 1, 0, 0), (47, .ireturn, 1, 0, 0, 1)]]
/-- ToolUnionModel.image(Z)Z -/
def cd_309 : List (List EEw) := [
  [(0, .iload_n f1, 1, 0, 0, 0), (1, .ifCond .ne 12, 3, 13, 0, 0), (4, .aload_n f0, 1, 0, 0, 0), (5, .getfield 511, 3, 12, 5, 0), (8, .ifCond .ne 5, 3, 13, 0, 0), (11, .iconst 0, 1, 0, 0, 0), (12, .ireturn, 1, 0, 0, 1), (13, .iconst 0, 1, 0, 0, 0), (14, .istore_n f2, 1, 0, 0, 0), (15, .iload_n f2, 1, 0, 0, 0)],
  [(16, .sipush 2834, 3, 2834, 0, 0), (19, .if_icmp .ge 40, 3, 59, 0, 0), (22, .iload_n f1, 1, 0, 0, 0), (23, .ifCond .eq 18, 3, 41, 0, 0), (26, .aload_n f0, 1, 0, 0, 0), (27, .getfield 13, 3, 12, 1, 1), (30, .iload_n f2, 1, 0, 0, 0), (31, .aload_n f0, 1, 0, 0, 0)],
  [(32, .getfield 7, 3, 12, 0, 1), (35, .iload_n f2, 1, 0, 0, 0), (36, .iaload, 1, 0, 0, 0), (37, .iastore, 1, 0, 0, 0), (38, .goto 15, 3, 53, 0, 0), (41, .aload_n f0, 1, 0, 0, 0), (42, .getfield 7, 3, 12, 0, 1), (45, .iload_n f2, 1, 0, 0, 0), (46, .aload_n f0, 1, 0, 0, 0), (47, .getfield 13, 3, 12, 1, 1)],
  [(50, .iload_n f2, 1, 0, 0, 0), (51, .iaload, 1, 0, 0, 0), (52, .iastore, 1, 0, 0, 0), (53, .iinc 2 1, 3, 0, 0, 0), (56, .goto (-41), 3, 15, 0, 0), (59, .iload_n f1, 1, 0, 0, 0), (60, .ifCond .ne 7, 3, 67, 0, 0), (63, .aload_n f0, 1, 0, 0, 0)],
  [(64, .invokevirtual 84, 3, 15, 0, 48), (67, .aload_n f0, 1, 0, 0, 0), (68, .iconst 1, 1, 1, 0, 0), (69, .putfield 511, 3, 12, 5, 2), (72, .iconst 1, 1, 1, 0, 0), (73, .ireturn, 1, 0, 0, 1)]]
/-- ToolUnion.look(I)I -/
def cd_310_0 : List (List EEw) := [
  [(0, .iload_n f1, 1, 0, 0, 0), (1, .bipush 20, 2, 20, 0, 0), (3, .if_icmp .lt 25, 3, 28, 0, 0), (6, .iload_n f1, 1, 0, 0, 0), (7, .bipush 24, 2, 24, 0, 0), (9, .if_icmp .ge 19, 3, 28, 0, 0), (12, .aload_n f0, 1, 0, 0, 0), (13, .getfield 10, 3, 11, 0, 1)],
  [(16, .getfield 65, 3, 10, 1, 1), (19, .getfield 164, 3, 5, 5, 1), (22, .iload_n f1, 1, 0, 0, 0), (23, .bipush 20, 2, 20, 0, 0), (25, .isub, 1, 0, 0, 0), (26, .iaload, 1, 0, 0, 0), (27, .ireturn, 1, 0, 0, 0), (28, .iload_n f1, 1, 0, 0, 0), (29, .tableswitch 219 0 13 #[71, 82, 93, 104, 115, 126, 137, 148, 159, 170, 181, 186, 197, 208], 71, 0, 248, 0)],
  [],
  [],
  [],
  [],
  [(100, .aload_n f0, 1, 0, 0, 0), (101, .getfield 10, 3, 11, 0, 1), (104, .getfield 75, 3, 10, 0, 1), (107, .getfield 79, 3, 0, 0, 0), (110, .ireturn, 1, 0, 0, 0), (111, .aload_n f0, 1, 0, 0, 0)],
  [(112, .getfield 10, 3, 11, 0, 1), (115, .getfield 75, 3, 10, 0, 1), (118, .getfield 108, 3, 0, 1, 0), (121, .ireturn, 1, 0, 0, 0), (122, .aload_n f0, 1, 0, 0, 0), (123, .getfield 10, 3, 11, 0, 1), (126, .getfield 208, 3, 10, 2, 1)],
  [(129, .getfield 234, 3, 1, 0, 0), (132, .ireturn, 1, 0, 0, 0), (133, .aload_n f0, 1, 0, 0, 0), (134, .getfield 10, 3, 11, 0, 1), (137, .getfield 65, 3, 10, 1, 1), (140, .getfield 167, 3, 5, 6, 0), (143, .ireturn, 1, 0, 0, 0)],
  [(144, .aload_n f0, 1, 0, 0, 0), (145, .getfield 10, 3, 11, 0, 1), (148, .getfield 65, 3, 10, 1, 1), (151, .getfield 154, 3, 5, 8, 0), (154, .ireturn, 1, 0, 0, 0), (155, .aload_n f0, 1, 0, 0, 0), (156, .getfield 10, 3, 11, 0, 1), (159, .getfield 65, 3, 10, 1, 1)],
  [(162, .getfield 304, 3, 5, 9, 0), (165, .ireturn, 1, 0, 0, 0), (166, .aload_n f0, 1, 0, 0, 0), (167, .getfield 10, 3, 11, 0, 1), (170, .getfield 65, 3, 10, 1, 1), (173, .getfield 68, 3, 5, 7, 0)],
  [(176, .ireturn, 1, 0, 0, 0), (177, .aload_n f0, 1, 0, 0, 0), (178, .getfield 10, 3, 11, 0, 1), (181, .getfield 186, 3, 10, 4, 1), (184, .getfield 421, 3, 3, 0, 0), (187, .ireturn, 1, 0, 0, 0), (188, .aload_n f0, 1, 0, 0, 0), (189, .getfield 10, 3, 11, 0, 1)]]
def cd_310_1 : List (List EEw) := [
  [(192, .getfield 194, 3, 10, 5, 1), (195, .getfield 421, 3, 3, 0, 0), (198, .ireturn, 1, 0, 0, 0), (199, .aload_n f0, 1, 0, 0, 0), (200, .getfield 10, 3, 11, 0, 1), (203, .getfield 222, 3, 10, 3, 1), (206, .getfield 226, 3, 8, 0, 0)],
  [(209, .ireturn, 1, 0, 0, 0), (210, .aload_n f0, 1, 0, 0, 0), (211, .getfield 403, 3, 11, 5, 0), (214, .ireturn, 1, 0, 0, 0), (215, .aload_n f0, 1, 0, 0, 0), (216, .getfield 10, 3, 11, 0, 1), (219, .getfield 208, 3, 10, 2, 1), (222, .getfield 219, 3, 1, 4, 0)],
  [(225, .ireturn, 1, 0, 0, 0), (226, .aload_n f0, 1, 0, 0, 0), (227, .getfield 10, 3, 11, 0, 1), (230, .getfield 75, 3, 10, 0, 1), (233, .getfield 138, 3, 0, 2, 0), (236, .ireturn, 1, 0, 0, 0), (237, .aload_n f0, 1, 0, 0, 0), (238, .getfield 10, 3, 11, 0, 1)],
  [(241, .getfield 75, 3, 10, 0, 1), (244, .getfield 141, 3, 0, 3, 0), (247, .ireturn, 1, 0, 0, 0), (248, .iconst (-1), 1, 4294967295, 0, 0), (249, .ireturn, 1, 0, 0, 0)]]
def cd_310 : List (List EEw) := cd_310_0 ++ (cd_310_1)
/-- ToolUnionModel.look(I)I -/
def cd_311_0 : List (List EEw) := [
  [(0, .iload_n f1, 1, 0, 0, 0), (1, .tableswitch 176 0 13 #[71, 79, 87, 95, 102, 109, 116, 123, 131, 139, 147, 152, 160, 168], 71, 0, 177, 0)],
  [],
  [],
  [],
  [(72, .aload_n f0, 1, 0, 0, 0), (73, .getfield 7, 3, 12, 0, 1), (76, .bipush 96, 2, 96, 0, 0), (78, .iaload, 1, 0, 0, 0), (79, .ireturn, 1, 0, 0, 0)],
  [(80, .aload_n f0, 1, 0, 0, 0), (81, .getfield 7, 3, 12, 0, 1), (84, .bipush 97, 2, 97, 0, 0), (86, .iaload, 1, 0, 0, 0), (87, .ireturn, 1, 0, 0, 0), (88, .aload_n f0, 1, 0, 0, 0), (89, .getfield 7, 3, 12, 0, 1), (92, .bipush 98, 2, 98, 0, 0), (94, .iaload, 1, 0, 0, 0), (95, .ireturn, 1, 0, 0, 0)],
  [(96, .aload_n f0, 1, 0, 0, 0), (97, .getfield 7, 3, 12, 0, 1), (100, .iconst 0, 1, 0, 0, 0), (101, .iaload, 1, 0, 0, 0), (102, .ireturn, 1, 0, 0, 0), (103, .aload_n f0, 1, 0, 0, 0), (104, .getfield 7, 3, 12, 0, 1), (107, .iconst 1, 1, 1, 0, 0), (108, .iaload, 1, 0, 0, 0), (109, .ireturn, 1, 0, 0, 0), (110, .aload_n f0, 1, 0, 0, 0), (111, .getfield 7, 3, 12, 0, 1)],
  [(114, .iconst 2, 1, 2, 0, 0), (115, .iaload, 1, 0, 0, 0), (116, .ireturn, 1, 0, 0, 0), (117, .aload_n f0, 1, 0, 0, 0), (118, .getfield 7, 3, 12, 0, 1), (121, .iconst 3, 1, 3, 0, 0), (122, .iaload, 1, 0, 0, 0), (123, .ireturn, 1, 0, 0, 0), (124, .aload_n f0, 1, 0, 0, 0), (125, .getfield 7, 3, 12, 0, 1)],
  [(128, .bipush 100, 2, 100, 0, 0), (130, .iaload, 1, 0, 0, 0), (131, .ireturn, 1, 0, 0, 0), (132, .aload_n f0, 1, 0, 0, 0), (133, .getfield 7, 3, 12, 0, 1), (136, .bipush 101, 2, 101, 0, 0), (138, .iaload, 1, 0, 0, 0), (139, .ireturn, 1, 0, 0, 0), (140, .aload_n f0, 1, 0, 0, 0), (141, .getfield 7, 3, 12, 0, 1)],
  [(144, .bipush 99, 2, 99, 0, 0), (146, .iaload, 1, 0, 0, 0), (147, .ireturn, 1, 0, 0, 0), (148, .aload_n f0, 1, 0, 0, 0), (149, .getfield 81, 3, 12, 4, 0), (152, .ireturn, 1, 0, 0, 0), (153, .aload_n f0, 1, 0, 0, 0), (154, .getfield 7, 3, 12, 0, 1), (157, .bipush 104, 2, 104, 0, 0), (159, .iaload, 1, 0, 0, 0)],
  [(160, .ireturn, 1, 0, 0, 0), (161, .aload_n f0, 1, 0, 0, 0), (162, .getfield 7, 3, 12, 0, 1), (165, .bipush 102, 2, 102, 0, 0), (167, .iaload, 1, 0, 0, 0), (168, .ireturn, 1, 0, 0, 0), (169, .aload_n f0, 1, 0, 0, 0), (170, .getfield 7, 3, 12, 0, 1), (173, .bipush 103, 2, 103, 0, 0), (175, .iaload, 1, 0, 0, 0)],
  [(176, .ireturn, 1, 0, 0, 0), (177, .iload_n f1, 1, 0, 0, 0), (178, .bipush 20, 2, 20, 0, 0), (180, .bipush 23, 2, 23, 0, 0), (182, .invokestatic 77, 3, 20, 3, 1), (185, .ifCond .eq 17, 3, 202, 0, 0), (188, .aload_n f0, 1, 0, 0, 0), (189, .getfield 7, 3, 12, 0, 1)]]
def cd_311_1 : List (List EEw) := [
  [(192, .iconst 4, 1, 4, 0, 0), (193, .iload_n f1, 1, 0, 0, 0), (194, .iadd, 1, 0, 0, 0), (195, .bipush 20, 2, 20, 0, 0), (197, .isub, 1, 0, 0, 0), (198, .iaload, 1, 0, 0, 0), (199, .goto 4, 3, 203, 0, 0), (202, .iconst (-1), 1, 4294967295, 0, 0), (203, .ireturn, 1, 0, 0, 0)]]
def cd_311 : List (List EEw) := cd_311_0 ++ (cd_311_1)
/-- ToolUnionLaw.law([I)Z -/
def cd_312_0 : List (List EEw) := [
  [(0, .new 7, 3, 11, 12, 0), (3, .dup, 1, 0, 0, 0), (4, .invokespecial 9, 3, 11, 0, 46), (7, .astore_n f1, 1, 0, 0, 0), (8, .new 10, 3, 12, 39, 0), (11, .dup, 1, 0, 0, 0), (12, .invokespecial 12, 3, 12, 0, 50), (15, .astore_n f2, 1, 0, 0, 0)],
  [(16, .iconst 0, 1, 0, 0, 0), (17, .istore_n f3, 1, 0, 0, 0), (18, .iload_n f3, 1, 0, 0, 0), (19, .aload_n f0, 1, 0, 0, 0), (20, .arraylength, 1, 0, 0, 0), (21, .bipush 6, 2, 6, 0, 0), (23, .isub, 1, 0, 0, 0), (24, .if_icmp .gt 1195, 3, 1219, 0, 0), (27, .aload_n f0, 1, 0, 0, 0), (28, .iload_n f3, 1, 0, 0, 0), (29, .iaload, 1, 0, 0, 0), (30, .bipush 63, 2, 63, 0, 0)],
  [(32, .iand, 1, 0, 0, 0), (33, .tableswitch 1180 0 32 #[147, 170, 213, 246, 289, 338, 387, 446, 469, 532, 555, 578, 601, 634, 667, 700, 733, 776, 809, 832, 855, 878, 901, 934, 967, 990, 1023, 1036, 1049, 1082, 1105, 1118, 1157], 147, 0, 1213, 0)],
  [],
  [],
  [],
  [],
  [],
  [],
  [],
  [],
  [(180, .aload_n f1, 1, 0, 0, 0), (181, .aload_n f0, 1, 0, 0, 0), (182, .iload_n f3, 1, 0, 0, 0), (183, .iconst 1, 1, 1, 0, 0), (184, .iadd, 1, 0, 0, 0), (185, .iaload, 1, 0, 0, 0), (186, .invokevirtual 13, 3, 14, 1, 45), (189, .aload_n f2, 1, 0, 0, 0), (190, .aload_n f0, 1, 0, 0, 0), (191, .iload_n f3, 1, 0, 0, 0)]]
def cd_312_1 : List (List EEw) := [
  [(192, .iconst 1, 1, 1, 0, 0), (193, .iadd, 1, 0, 0, 0), (194, .iaload, 1, 0, 0, 0), (195, .invokevirtual 17, 3, 16, 1, 49), (198, .if_icmp .eq 1015, 3, 1213, 0, 0), (201, .iconst 0, 1, 0, 0, 0), (202, .ireturn, 1, 0, 0, 1), (203, .aload_n f1, 1, 0, 0, 0), (204, .aload_n f0, 1, 0, 0, 0), (205, .iload_n f3, 1, 0, 0, 0), (206, .iconst 1, 1, 1, 0, 0), (207, .iadd, 1, 0, 0, 0)],
  [(208, .iaload, 1, 0, 0, 0), (209, .aload_n f0, 1, 0, 0, 0), (210, .iload_n f3, 1, 0, 0, 0), (211, .iconst 2, 1, 2, 0, 0), (212, .iadd, 1, 0, 0, 0), (213, .iaload, 1, 0, 0, 0), (214, .aload_n f0, 1, 0, 0, 0), (215, .iload_n f3, 1, 0, 0, 0), (216, .iconst 3, 1, 3, 0, 0), (217, .iadd, 1, 0, 0, 0), (218, .iaload, 1, 0, 0, 0), (219, .invokevirtual 18, 3, 19, 3, 45), (222, .aload_n f2, 1, 0, 0, 0), (223, .aload_n f0, 1, 0, 0, 0)],
  [(224, .iload_n f3, 1, 0, 0, 0), (225, .iconst 1, 1, 1, 0, 0), (226, .iadd, 1, 0, 0, 0), (227, .iaload, 1, 0, 0, 0), (228, .aload_n f0, 1, 0, 0, 0), (229, .iload_n f3, 1, 0, 0, 0), (230, .iconst 2, 1, 2, 0, 0), (231, .iadd, 1, 0, 0, 0), (232, .iaload, 1, 0, 0, 0), (233, .aload_n f0, 1, 0, 0, 0), (234, .iload_n f3, 1, 0, 0, 0), (235, .iconst 3, 1, 3, 0, 0), (236, .iadd, 1, 0, 0, 0), (237, .iaload, 1, 0, 0, 0), (238, .invokevirtual 22, 3, 22, 3, 49)],
  [(241, .if_icmp .eq 972, 3, 1213, 0, 0), (244, .iconst 0, 1, 0, 0, 0), (245, .ireturn, 1, 0, 0, 1), (246, .aload_n f1, 1, 0, 0, 0), (247, .aload_n f0, 1, 0, 0, 0), (248, .iload_n f3, 1, 0, 0, 0), (249, .iconst 1, 1, 1, 0, 0), (250, .iadd, 1, 0, 0, 0), (251, .iaload, 1, 0, 0, 0), (252, .aload_n f0, 1, 0, 0, 0), (253, .iload_n f3, 1, 0, 0, 0), (254, .iconst 2, 1, 2, 0, 0), (255, .iadd, 1, 0, 0, 0)],
  [(256, .iaload, 1, 0, 0, 0), (257, .invokevirtual 23, 3, 23, 2, 45), (260, .aload_n f2, 1, 0, 0, 0), (261, .aload_n f0, 1, 0, 0, 0), (262, .iload_n f3, 1, 0, 0, 0), (263, .iconst 1, 1, 1, 0, 0), (264, .iadd, 1, 0, 0, 0), (265, .iaload, 1, 0, 0, 0), (266, .aload_n f0, 1, 0, 0, 0), (267, .iload_n f3, 1, 0, 0, 0), (268, .iconst 2, 1, 2, 0, 0), (269, .iadd, 1, 0, 0, 0), (270, .iaload, 1, 0, 0, 0), (271, .invokevirtual 27, 3, 24, 2, 49)],
  [(274, .if_icmp .eq 939, 3, 1213, 0, 0), (277, .iconst 0, 1, 0, 0, 0), (278, .ireturn, 1, 0, 0, 1), (279, .aload_n f1, 1, 0, 0, 0), (280, .aload_n f0, 1, 0, 0, 0), (281, .iload_n f3, 1, 0, 0, 0), (282, .iconst 1, 1, 1, 0, 0), (283, .iadd, 1, 0, 0, 0), (284, .iaload, 1, 0, 0, 0), (285, .aload_n f0, 1, 0, 0, 0), (286, .iload_n f3, 1, 0, 0, 0), (287, .iconst 2, 1, 2, 0, 0)],
  [(288, .iadd, 1, 0, 0, 0), (289, .iaload, 1, 0, 0, 0), (290, .aload_n f0, 1, 0, 0, 0), (291, .iload_n f3, 1, 0, 0, 0), (292, .iconst 3, 1, 3, 0, 0), (293, .iadd, 1, 0, 0, 0), (294, .iaload, 1, 0, 0, 0), (295, .invokevirtual 28, 3, 29, 3, 45), (298, .aload_n f2, 1, 0, 0, 0), (299, .aload_n f0, 1, 0, 0, 0), (300, .iload_n f3, 1, 0, 0, 0), (301, .iconst 1, 1, 1, 0, 0), (302, .iadd, 1, 0, 0, 0), (303, .iaload, 1, 0, 0, 0)],
  [(304, .aload_n f0, 1, 0, 0, 0), (305, .iload_n f3, 1, 0, 0, 0), (306, .iconst 2, 1, 2, 0, 0), (307, .iadd, 1, 0, 0, 0), (308, .iaload, 1, 0, 0, 0), (309, .aload_n f0, 1, 0, 0, 0), (310, .iload_n f3, 1, 0, 0, 0), (311, .iconst 3, 1, 3, 0, 0), (312, .iadd, 1, 0, 0, 0), (313, .iaload, 1, 0, 0, 0), (314, .invokevirtual 32, 3, 33, 3, 49), (317, .if_icmp .eq 896, 3, 1213, 0, 0)],
  [(320, .iconst 0, 1, 0, 0, 0), (321, .ireturn, 1, 0, 0, 1), (322, .aload_n f1, 1, 0, 0, 0), (323, .aload_n f0, 1, 0, 0, 0), (324, .iload_n f3, 1, 0, 0, 0), (325, .iconst 1, 1, 1, 0, 0), (326, .iadd, 1, 0, 0, 0), (327, .iaload, 1, 0, 0, 0), (328, .aload_n f0, 1, 0, 0, 0), (329, .iload_n f3, 1, 0, 0, 0), (330, .iconst 2, 1, 2, 0, 0), (331, .iadd, 1, 0, 0, 0), (332, .iaload, 1, 0, 0, 0), (333, .ifCond .eq 7, 3, 340, 0, 0)],
  [(336, .iconst 1, 1, 1, 0, 0), (337, .goto 4, 3, 341, 0, 0), (340, .iconst 0, 1, 0, 0, 0), (341, .invokevirtual 33, 3, 42, 2, 45), (344, .aload_n f2, 1, 0, 0, 0), (345, .aload_n f0, 1, 0, 0, 0), (346, .iload_n f3, 1, 0, 0, 0), (347, .iconst 1, 1, 1, 0, 0), (348, .iadd, 1, 0, 0, 0), (349, .iaload, 1, 0, 0, 0), (350, .aload_n f0, 1, 0, 0, 0), (351, .iload_n f3, 1, 0, 0, 0)],
  [(352, .iconst 2, 1, 2, 0, 0), (353, .iadd, 1, 0, 0, 0), (354, .iaload, 1, 0, 0, 0), (355, .ifCond .eq 7, 3, 362, 0, 0), (358, .iconst 1, 1, 1, 0, 0), (359, .goto 4, 3, 363, 0, 0), (362, .iconst 0, 1, 0, 0, 0), (363, .invokevirtual 37, 3, 47, 2, 49), (366, .if_icmp .eq 847, 3, 1213, 0, 0)],
  [(369, .iconst 0, 1, 0, 0, 0), (370, .ireturn, 1, 0, 0, 1), (371, .aload_n f1, 1, 0, 0, 0), (372, .aload_n f0, 1, 0, 0, 0), (373, .iload_n f3, 1, 0, 0, 0), (374, .iconst 1, 1, 1, 0, 0), (375, .iadd, 1, 0, 0, 0), (376, .iaload, 1, 0, 0, 0), (377, .aload_n f0, 1, 0, 0, 0), (378, .iload_n f3, 1, 0, 0, 0), (379, .iconst 2, 1, 2, 0, 0), (380, .iadd, 1, 0, 0, 0), (381, .iaload, 1, 0, 0, 0), (382, .ifCond .eq 7, 3, 389, 0, 0)]]
def cd_312_2 : List (List EEw) := [
  [(385, .iconst 1, 1, 1, 0, 0), (386, .goto 4, 3, 390, 0, 0), (389, .iconst 0, 1, 0, 0, 0), (390, .invokevirtual 38, 3, 50, 2, 45), (393, .aload_n f2, 1, 0, 0, 0), (394, .aload_n f0, 1, 0, 0, 0), (395, .iload_n f3, 1, 0, 0, 0), (396, .iconst 1, 1, 1, 0, 0), (397, .iadd, 1, 0, 0, 0), (398, .iaload, 1, 0, 0, 0), (399, .aload_n f0, 1, 0, 0, 0)],
  [(400, .iload_n f3, 1, 0, 0, 0), (401, .iconst 2, 1, 2, 0, 0), (402, .iadd, 1, 0, 0, 0), (403, .iaload, 1, 0, 0, 0), (404, .ifCond .eq 7, 3, 411, 0, 0), (407, .iconst 1, 1, 1, 0, 0), (408, .goto 4, 3, 412, 0, 0), (411, .iconst 0, 1, 0, 0, 0), (412, .invokevirtual 41, 3, 51, 2, 49), (415, .if_icmp .eq 798, 3, 1213, 0, 0)],
  [(418, .iconst 0, 1, 0, 0, 0), (419, .ireturn, 1, 0, 0, 1), (420, .aload_n f1, 1, 0, 0, 0), (421, .aload_n f0, 1, 0, 0, 0), (422, .iload_n f3, 1, 0, 0, 0), (423, .iconst 1, 1, 1, 0, 0), (424, .iadd, 1, 0, 0, 0), (425, .iaload, 1, 0, 0, 0), (426, .aload_n f0, 1, 0, 0, 0), (427, .iload_n f3, 1, 0, 0, 0), (428, .iconst 2, 1, 2, 0, 0), (429, .iadd, 1, 0, 0, 0), (430, .iaload, 1, 0, 0, 0), (431, .aload_n f0, 1, 0, 0, 0)],
  [(432, .iload_n f3, 1, 0, 0, 0), (433, .iconst 3, 1, 3, 0, 0), (434, .iadd, 1, 0, 0, 0), (435, .iaload, 1, 0, 0, 0), (436, .ifCond .eq 7, 3, 443, 0, 0), (439, .iconst 1, 1, 1, 0, 0), (440, .goto 4, 3, 444, 0, 0), (443, .iconst 0, 1, 0, 0, 0), (444, .invokevirtual 42, 3, 52, 3, 45), (447, .aload_n f2, 1, 0, 0, 0)],
  [(448, .aload_n f0, 1, 0, 0, 0), (449, .iload_n f3, 1, 0, 0, 0), (450, .iconst 1, 1, 1, 0, 0), (451, .iadd, 1, 0, 0, 0), (452, .iaload, 1, 0, 0, 0), (453, .aload_n f0, 1, 0, 0, 0), (454, .iload_n f3, 1, 0, 0, 0), (455, .iconst 2, 1, 2, 0, 0), (456, .iadd, 1, 0, 0, 0), (457, .iaload, 1, 0, 0, 0), (458, .aload_n f0, 1, 0, 0, 0), (459, .iload_n f3, 1, 0, 0, 0), (460, .iconst 3, 1, 3, 0, 0), (461, .iadd, 1, 0, 0, 0), (462, .iaload, 1, 0, 0, 0), (463, .ifCond .eq 7, 3, 470, 0, 0)],
  [(466, .iconst 1, 1, 1, 0, 0), (467, .goto 4, 3, 471, 0, 0), (470, .iconst 0, 1, 0, 0, 0), (471, .invokevirtual 46, 3, 54, 3, 49), (474, .if_icmp .eq 739, 3, 1213, 0, 0), (477, .iconst 0, 1, 0, 0, 0), (478, .ireturn, 1, 0, 0, 1), (479, .aload_n f1, 1, 0, 0, 0)],
  [(480, .aload_n f0, 1, 0, 0, 0), (481, .iload_n f3, 1, 0, 0, 0), (482, .iconst 1, 1, 1, 0, 0), (483, .iadd, 1, 0, 0, 0), (484, .iaload, 1, 0, 0, 0), (485, .invokevirtual 47, 3, 75, 1, 45), (488, .aload_n f2, 1, 0, 0, 0), (489, .aload_n f0, 1, 0, 0, 0), (490, .iload_n f3, 1, 0, 0, 0), (491, .iconst 1, 1, 1, 0, 0), (492, .iadd, 1, 0, 0, 0), (493, .iaload, 1, 0, 0, 0), (494, .invokevirtual 50, 3, 97, 1, 49)],
  [(497, .if_icmp .eq 716, 3, 1213, 0, 0), (500, .iconst 0, 1, 0, 0, 0), (501, .ireturn, 1, 0, 0, 1), (502, .aload_n f1, 1, 0, 0, 0), (503, .aload_n f0, 1, 0, 0, 0), (504, .iload_n f3, 1, 0, 0, 0), (505, .iconst 1, 1, 1, 0, 0), (506, .iadd, 1, 0, 0, 0), (507, .iaload, 1, 0, 0, 0), (508, .aload_n f0, 1, 0, 0, 0), (509, .iload_n f3, 1, 0, 0, 0), (510, .iconst 2, 1, 2, 0, 0), (511, .iadd, 1, 0, 0, 0)],
  [(512, .iaload, 1, 0, 0, 0), (513, .aload_n f0, 1, 0, 0, 0), (514, .iload_n f3, 1, 0, 0, 0), (515, .iconst 3, 1, 3, 0, 0), (516, .iadd, 1, 0, 0, 0), (517, .iaload, 1, 0, 0, 0), (518, .aload_n f0, 1, 0, 0, 0), (519, .iload_n f3, 1, 0, 0, 0), (520, .iconst 4, 1, 4, 0, 0), (521, .iadd, 1, 0, 0, 0), (522, .iaload, 1, 0, 0, 0), (523, .aload_n f0, 1, 0, 0, 0), (524, .iload_n f3, 1, 0, 0, 0), (525, .iconst 5, 1, 5, 0, 0), (526, .iadd, 1, 0, 0, 0), (527, .iaload, 1, 0, 0, 0)],
  [(528, .invokevirtual 51, 3, 99, 5, 45), (531, .aload_n f2, 1, 0, 0, 0), (532, .aload_n f0, 1, 0, 0, 0), (533, .iload_n f3, 1, 0, 0, 0), (534, .iconst 1, 1, 1, 0, 0), (535, .iadd, 1, 0, 0, 0), (536, .iaload, 1, 0, 0, 0), (537, .aload_n f0, 1, 0, 0, 0), (538, .iload_n f3, 1, 0, 0, 0), (539, .iconst 2, 1, 2, 0, 0), (540, .iadd, 1, 0, 0, 0), (541, .iaload, 1, 0, 0, 0), (542, .aload_n f0, 1, 0, 0, 0), (543, .iload_n f3, 1, 0, 0, 0)],
  [(544, .iconst 3, 1, 3, 0, 0), (545, .iadd, 1, 0, 0, 0), (546, .iaload, 1, 0, 0, 0), (547, .aload_n f0, 1, 0, 0, 0), (548, .iload_n f3, 1, 0, 0, 0), (549, .iconst 4, 1, 4, 0, 0), (550, .iadd, 1, 0, 0, 0), (551, .iaload, 1, 0, 0, 0), (552, .aload_n f0, 1, 0, 0, 0), (553, .iload_n f3, 1, 0, 0, 0), (554, .iconst 5, 1, 5, 0, 0), (555, .iadd, 1, 0, 0, 0), (556, .iaload, 1, 0, 0, 0), (557, .invokevirtual 55, 3, 100, 5, 49)],
  [(560, .if_icmp .eq 653, 3, 1213, 0, 0), (563, .iconst 0, 1, 0, 0, 0), (564, .ireturn, 1, 0, 0, 1), (565, .aload_n f1, 1, 0, 0, 0), (566, .aload_n f0, 1, 0, 0, 0), (567, .iload_n f3, 1, 0, 0, 0), (568, .iconst 1, 1, 1, 0, 0), (569, .iadd, 1, 0, 0, 0), (570, .iaload, 1, 0, 0, 0), (571, .invokevirtual 56, 3, 101, 1, 45), (574, .aload_n f2, 1, 0, 0, 0), (575, .aload_n f0, 1, 0, 0, 0)]]
def cd_312_3 : List (List EEw) := [
  [(576, .iload_n f3, 1, 0, 0, 0), (577, .iconst 1, 1, 1, 0, 0), (578, .iadd, 1, 0, 0, 0), (579, .iaload, 1, 0, 0, 0), (580, .invokevirtual 60, 3, 102, 1, 49), (583, .if_icmp .eq 630, 3, 1213, 0, 0), (586, .iconst 0, 1, 0, 0, 0), (587, .ireturn, 1, 0, 0, 1), (588, .aload_n f1, 1, 0, 0, 0), (589, .aload_n f0, 1, 0, 0, 0), (590, .iload_n f3, 1, 0, 0, 0), (591, .iconst 1, 1, 1, 0, 0)],
  [(592, .iadd, 1, 0, 0, 0), (593, .iaload, 1, 0, 0, 0), (594, .invokevirtual 61, 3, 146, 1, 45), (597, .aload_n f2, 1, 0, 0, 0), (598, .aload_n f0, 1, 0, 0, 0), (599, .iload_n f3, 1, 0, 0, 0), (600, .iconst 1, 1, 1, 0, 0), (601, .iadd, 1, 0, 0, 0), (602, .iaload, 1, 0, 0, 0), (603, .invokevirtual 64, 3, 177, 1, 49), (606, .if_icmp .eq 607, 3, 1213, 0, 0)],
  [(609, .iconst 0, 1, 0, 0, 0), (610, .ireturn, 1, 0, 0, 1), (611, .aload_n f1, 1, 0, 0, 0), (612, .aload_n f0, 1, 0, 0, 0), (613, .iload_n f3, 1, 0, 0, 0), (614, .iconst 1, 1, 1, 0, 0), (615, .iadd, 1, 0, 0, 0), (616, .iaload, 1, 0, 0, 0), (617, .invokevirtual 65, 3, 178, 1, 45), (620, .aload_n f2, 1, 0, 0, 0), (621, .aload_n f0, 1, 0, 0, 0), (622, .iload_n f3, 1, 0, 0, 0), (623, .iconst 1, 1, 1, 0, 0)],
  [(624, .iadd, 1, 0, 0, 0), (625, .iaload, 1, 0, 0, 0), (626, .invokevirtual 68, 3, 179, 1, 49), (629, .if_icmp .eq 584, 3, 1213, 0, 0), (632, .iconst 0, 1, 0, 0, 0), (633, .ireturn, 1, 0, 0, 1), (634, .aload_n f1, 1, 0, 0, 0), (635, .aload_n f0, 1, 0, 0, 0), (636, .iload_n f3, 1, 0, 0, 0), (637, .iconst 1, 1, 1, 0, 0), (638, .iadd, 1, 0, 0, 0), (639, .iaload, 1, 0, 0, 0)],
  [(640, .aload_n f0, 1, 0, 0, 0), (641, .iload_n f3, 1, 0, 0, 0), (642, .iconst 2, 1, 2, 0, 0), (643, .iadd, 1, 0, 0, 0), (644, .iaload, 1, 0, 0, 0), (645, .invokevirtual 69, 3, 191, 2, 45), (648, .aload_n f2, 1, 0, 0, 0), (649, .aload_n f0, 1, 0, 0, 0), (650, .iload_n f3, 1, 0, 0, 0), (651, .iconst 1, 1, 1, 0, 0), (652, .iadd, 1, 0, 0, 0), (653, .iaload, 1, 0, 0, 0), (654, .aload_n f0, 1, 0, 0, 0), (655, .iload_n f3, 1, 0, 0, 0)],
  [(656, .iconst 2, 1, 2, 0, 0), (657, .iadd, 1, 0, 0, 0), (658, .iaload, 1, 0, 0, 0), (659, .invokevirtual 72, 3, 205, 2, 49), (662, .if_icmp .eq 551, 3, 1213, 0, 0), (665, .iconst 0, 1, 0, 0, 0), (666, .ireturn, 1, 0, 0, 1), (667, .aload_n f1, 1, 0, 0, 0), (668, .aload_n f0, 1, 0, 0, 0), (669, .iload_n f3, 1, 0, 0, 0), (670, .iconst 1, 1, 1, 0, 0), (671, .iadd, 1, 0, 0, 0)],
  [(672, .iaload, 1, 0, 0, 0), (673, .aload_n f0, 1, 0, 0, 0), (674, .iload_n f3, 1, 0, 0, 0), (675, .iconst 2, 1, 2, 0, 0), (676, .iadd, 1, 0, 0, 0), (677, .iaload, 1, 0, 0, 0), (678, .invokevirtual 73, 3, 206, 2, 45), (681, .aload_n f2, 1, 0, 0, 0), (682, .aload_n f0, 1, 0, 0, 0), (683, .iload_n f3, 1, 0, 0, 0), (684, .iconst 1, 1, 1, 0, 0), (685, .iadd, 1, 0, 0, 0), (686, .iaload, 1, 0, 0, 0), (687, .aload_n f0, 1, 0, 0, 0)],
  [(688, .iload_n f3, 1, 0, 0, 0), (689, .iconst 2, 1, 2, 0, 0), (690, .iadd, 1, 0, 0, 0), (691, .iaload, 1, 0, 0, 0), (692, .invokevirtual 76, 3, 208, 2, 49), (695, .if_icmp .eq 518, 3, 1213, 0, 0), (698, .iconst 0, 1, 0, 0, 0), (699, .ireturn, 1, 0, 0, 1), (700, .aload_n f1, 1, 0, 0, 0), (701, .aload_n f0, 1, 0, 0, 0), (702, .iload_n f3, 1, 0, 0, 0), (703, .iconst 1, 1, 1, 0, 0)],
  [(704, .iadd, 1, 0, 0, 0), (705, .iaload, 1, 0, 0, 0), (706, .aload_n f0, 1, 0, 0, 0), (707, .iload_n f3, 1, 0, 0, 0), (708, .iconst 2, 1, 2, 0, 0), (709, .iadd, 1, 0, 0, 0), (710, .iaload, 1, 0, 0, 0), (711, .invokevirtual 77, 3, 215, 2, 45), (714, .aload_n f2, 1, 0, 0, 0), (715, .aload_n f0, 1, 0, 0, 0), (716, .iload_n f3, 1, 0, 0, 0), (717, .iconst 1, 1, 1, 0, 0), (718, .iadd, 1, 0, 0, 0), (719, .iaload, 1, 0, 0, 0)],
  [(720, .aload_n f0, 1, 0, 0, 0), (721, .iload_n f3, 1, 0, 0, 0), (722, .iconst 2, 1, 2, 0, 0), (723, .iadd, 1, 0, 0, 0), (724, .iaload, 1, 0, 0, 0), (725, .invokevirtual 80, 3, 219, 2, 49), (728, .if_icmp .eq 485, 3, 1213, 0, 0), (731, .iconst 0, 1, 0, 0, 0), (732, .ireturn, 1, 0, 0, 1), (733, .aload_n f1, 1, 0, 0, 0), (734, .aload_n f0, 1, 0, 0, 0), (735, .iload_n f3, 1, 0, 0, 0)],
  [(736, .iconst 1, 1, 1, 0, 0), (737, .iadd, 1, 0, 0, 0), (738, .iaload, 1, 0, 0, 0), (739, .aload_n f0, 1, 0, 0, 0), (740, .iload_n f3, 1, 0, 0, 0), (741, .iconst 2, 1, 2, 0, 0), (742, .iadd, 1, 0, 0, 0), (743, .iaload, 1, 0, 0, 0), (744, .invokevirtual 81, 3, 220, 2, 45), (747, .aload_n f2, 1, 0, 0, 0), (748, .aload_n f0, 1, 0, 0, 0), (749, .iload_n f3, 1, 0, 0, 0), (750, .iconst 1, 1, 1, 0, 0), (751, .iadd, 1, 0, 0, 0)],
  [(752, .iaload, 1, 0, 0, 0), (753, .aload_n f0, 1, 0, 0, 0), (754, .iload_n f3, 1, 0, 0, 0), (755, .iconst 2, 1, 2, 0, 0), (756, .iadd, 1, 0, 0, 0), (757, .iaload, 1, 0, 0, 0), (758, .invokevirtual 84, 3, 221, 2, 49), (761, .if_icmp .eq 452, 3, 1213, 0, 0), (764, .iconst 0, 1, 0, 0, 0), (765, .ireturn, 1, 0, 0, 1), (766, .aload_n f1, 1, 0, 0, 0), (767, .aload_n f0, 1, 0, 0, 0)]]
def cd_312_4 : List (List EEw) := [
  [(768, .iload_n f3, 1, 0, 0, 0), (769, .iconst 1, 1, 1, 0, 0), (770, .iadd, 1, 0, 0, 0), (771, .iaload, 1, 0, 0, 0), (772, .aload_n f0, 1, 0, 0, 0), (773, .iload_n f3, 1, 0, 0, 0), (774, .iconst 2, 1, 2, 0, 0), (775, .iadd, 1, 0, 0, 0), (776, .iaload, 1, 0, 0, 0), (777, .aload_n f0, 1, 0, 0, 0), (778, .iload_n f3, 1, 0, 0, 0), (779, .iconst 3, 1, 3, 0, 0), (780, .iadd, 1, 0, 0, 0), (781, .iaload, 1, 0, 0, 0), (782, .invokevirtual 85, 3, 222, 3, 45)],
  [(785, .aload_n f2, 1, 0, 0, 0), (786, .aload_n f0, 1, 0, 0, 0), (787, .iload_n f3, 1, 0, 0, 0), (788, .iconst 1, 1, 1, 0, 0), (789, .iadd, 1, 0, 0, 0), (790, .iaload, 1, 0, 0, 0), (791, .aload_n f0, 1, 0, 0, 0), (792, .iload_n f3, 1, 0, 0, 0), (793, .iconst 2, 1, 2, 0, 0), (794, .iadd, 1, 0, 0, 0), (795, .iaload, 1, 0, 0, 0), (796, .aload_n f0, 1, 0, 0, 0), (797, .iload_n f3, 1, 0, 0, 0), (798, .iconst 3, 1, 3, 0, 0), (799, .iadd, 1, 0, 0, 0)],
  [(800, .iaload, 1, 0, 0, 0), (801, .invokevirtual 88, 3, 223, 3, 49), (804, .if_icmp .eq 409, 3, 1213, 0, 0), (807, .iconst 0, 1, 0, 0, 0), (808, .ireturn, 1, 0, 0, 1), (809, .aload_n f1, 1, 0, 0, 0), (810, .aload_n f0, 1, 0, 0, 0), (811, .iload_n f3, 1, 0, 0, 0), (812, .iconst 1, 1, 1, 0, 0), (813, .iadd, 1, 0, 0, 0), (814, .iaload, 1, 0, 0, 0), (815, .aload_n f0, 1, 0, 0, 0)],
  [(816, .iload_n f3, 1, 0, 0, 0), (817, .iconst 2, 1, 2, 0, 0), (818, .iadd, 1, 0, 0, 0), (819, .iaload, 1, 0, 0, 0), (820, .invokevirtual 89, 3, 224, 2, 45), (823, .aload_n f2, 1, 0, 0, 0), (824, .aload_n f0, 1, 0, 0, 0), (825, .iload_n f3, 1, 0, 0, 0), (826, .iconst 1, 1, 1, 0, 0), (827, .iadd, 1, 0, 0, 0), (828, .iaload, 1, 0, 0, 0), (829, .aload_n f0, 1, 0, 0, 0), (830, .iload_n f3, 1, 0, 0, 0), (831, .iconst 2, 1, 2, 0, 0)],
  [(832, .iadd, 1, 0, 0, 0), (833, .iaload, 1, 0, 0, 0), (834, .invokevirtual 92, 3, 225, 2, 49), (837, .if_icmp .eq 376, 3, 1213, 0, 0), (840, .iconst 0, 1, 0, 0, 0), (841, .ireturn, 1, 0, 0, 1), (842, .aload_n f1, 1, 0, 0, 0), (843, .aload_n f0, 1, 0, 0, 0), (844, .iload_n f3, 1, 0, 0, 0), (845, .iconst 1, 1, 1, 0, 0), (846, .iadd, 1, 0, 0, 0), (847, .iaload, 1, 0, 0, 0)],
  [(848, .invokevirtual 93, 3, 244, 1, 47), (851, .aload_n f2, 1, 0, 0, 0), (852, .aload_n f0, 1, 0, 0, 0), (853, .iload_n f3, 1, 0, 0, 0), (854, .iconst 1, 1, 1, 0, 0), (855, .iadd, 1, 0, 0, 0), (856, .iaload, 1, 0, 0, 0), (857, .invokevirtual 96, 3, 256, 1, 49), (860, .if_icmp .eq 353, 3, 1213, 0, 0), (863, .iconst 0, 1, 0, 0, 0)],
  [(864, .ireturn, 1, 0, 0, 1), (865, .aload_n f1, 1, 0, 0, 0), (866, .aload_n f0, 1, 0, 0, 0), (867, .iload_n f3, 1, 0, 0, 0), (868, .iconst 1, 1, 1, 0, 0), (869, .iadd, 1, 0, 0, 0), (870, .iaload, 1, 0, 0, 0), (871, .invokevirtual 97, 3, 261, 1, 45), (874, .aload_n f2, 1, 0, 0, 0), (875, .aload_n f0, 1, 0, 0, 0), (876, .iload_n f3, 1, 0, 0, 0), (877, .iconst 1, 1, 1, 0, 0), (878, .iadd, 1, 0, 0, 0), (879, .iaload, 1, 0, 0, 0)],
  [(880, .invokevirtual 100, 3, 266, 1, 49), (883, .if_icmp .eq 330, 3, 1213, 0, 0), (886, .iconst 0, 1, 0, 0, 0), (887, .ireturn, 1, 0, 0, 1), (888, .aload_n f1, 1, 0, 0, 0), (889, .aload_n f0, 1, 0, 0, 0), (890, .iload_n f3, 1, 0, 0, 0), (891, .iconst 1, 1, 1, 0, 0), (892, .iadd, 1, 0, 0, 0), (893, .iaload, 1, 0, 0, 0), (894, .invokevirtual 101, 3, 269, 1, 45)],
  [(897, .aload_n f2, 1, 0, 0, 0), (898, .aload_n f0, 1, 0, 0, 0), (899, .iload_n f3, 1, 0, 0, 0), (900, .iconst 1, 1, 1, 0, 0), (901, .iadd, 1, 0, 0, 0), (902, .iaload, 1, 0, 0, 0), (903, .invokevirtual 104, 3, 272, 1, 49), (906, .if_icmp .eq 307, 3, 1213, 0, 0), (909, .iconst 0, 1, 0, 0, 0), (910, .ireturn, 1, 0, 0, 1), (911, .aload_n f1, 1, 0, 0, 0)],
  [(912, .aload_n f0, 1, 0, 0, 0), (913, .iload_n f3, 1, 0, 0, 0), (914, .iconst 1, 1, 1, 0, 0), (915, .iadd, 1, 0, 0, 0), (916, .iaload, 1, 0, 0, 0), (917, .invokevirtual 105, 3, 273, 1, 45), (920, .aload_n f2, 1, 0, 0, 0), (921, .aload_n f0, 1, 0, 0, 0), (922, .iload_n f3, 1, 0, 0, 0), (923, .iconst 1, 1, 1, 0, 0), (924, .iadd, 1, 0, 0, 0), (925, .iaload, 1, 0, 0, 0), (926, .invokevirtual 108, 3, 274, 1, 49)],
  [(929, .if_icmp .eq 284, 3, 1213, 0, 0), (932, .iconst 0, 1, 0, 0, 0), (933, .ireturn, 1, 0, 0, 1), (934, .aload_n f1, 1, 0, 0, 0), (935, .aload_n f0, 1, 0, 0, 0), (936, .iload_n f3, 1, 0, 0, 0), (937, .iconst 1, 1, 1, 0, 0), (938, .iadd, 1, 0, 0, 0), (939, .iaload, 1, 0, 0, 0), (940, .aload_n f0, 1, 0, 0, 0), (941, .iload_n f3, 1, 0, 0, 0), (942, .iconst 2, 1, 2, 0, 0), (943, .iadd, 1, 0, 0, 0)],
  [(944, .iaload, 1, 0, 0, 0), (945, .invokevirtual 109, 3, 275, 2, 45), (948, .aload_n f2, 1, 0, 0, 0), (949, .aload_n f0, 1, 0, 0, 0), (950, .iload_n f3, 1, 0, 0, 0), (951, .iconst 1, 1, 1, 0, 0), (952, .iadd, 1, 0, 0, 0), (953, .iaload, 1, 0, 0, 0), (954, .aload_n f0, 1, 0, 0, 0), (955, .iload_n f3, 1, 0, 0, 0), (956, .iconst 2, 1, 2, 0, 0), (957, .iadd, 1, 0, 0, 0), (958, .iaload, 1, 0, 0, 0), (959, .invokevirtual 112, 3, 278, 2, 49)]]
def cd_312_5 : List (List EEw) := [
  [(962, .if_icmp .eq 251, 3, 1213, 0, 0), (965, .iconst 0, 1, 0, 0, 0), (966, .ireturn, 1, 0, 0, 1), (967, .aload_n f1, 1, 0, 0, 0), (968, .aload_n f0, 1, 0, 0, 0), (969, .iload_n f3, 1, 0, 0, 0), (970, .iconst 1, 1, 1, 0, 0), (971, .iadd, 1, 0, 0, 0), (972, .iaload, 1, 0, 0, 0), (973, .aload_n f0, 1, 0, 0, 0), (974, .iload_n f3, 1, 0, 0, 0), (975, .iconst 2, 1, 2, 0, 0)],
  [(976, .iadd, 1, 0, 0, 0), (977, .iaload, 1, 0, 0, 0), (978, .invokevirtual 113, 3, 280, 2, 45), (981, .aload_n f2, 1, 0, 0, 0), (982, .aload_n f0, 1, 0, 0, 0), (983, .iload_n f3, 1, 0, 0, 0), (984, .iconst 1, 1, 1, 0, 0), (985, .iadd, 1, 0, 0, 0), (986, .iaload, 1, 0, 0, 0), (987, .aload_n f0, 1, 0, 0, 0), (988, .iload_n f3, 1, 0, 0, 0), (989, .iconst 2, 1, 2, 0, 0), (990, .iadd, 1, 0, 0, 0), (991, .iaload, 1, 0, 0, 0)],
  [(992, .invokevirtual 116, 3, 281, 2, 49), (995, .if_icmp .eq 218, 3, 1213, 0, 0), (998, .iconst 0, 1, 0, 0, 0), (999, .ireturn, 1, 0, 0, 1), (1000, .aload_n f1, 1, 0, 0, 0), (1001, .aload_n f0, 1, 0, 0, 0), (1002, .iload_n f3, 1, 0, 0, 0), (1003, .iconst 1, 1, 1, 0, 0), (1004, .iadd, 1, 0, 0, 0), (1005, .iaload, 1, 0, 0, 0), (1006, .invokevirtual 117, 3, 282, 1, 45)],
  [(1009, .aload_n f2, 1, 0, 0, 0), (1010, .aload_n f0, 1, 0, 0, 0), (1011, .iload_n f3, 1, 0, 0, 0), (1012, .iconst 1, 1, 1, 0, 0), (1013, .iadd, 1, 0, 0, 0), (1014, .iaload, 1, 0, 0, 0), (1015, .invokevirtual 120, 3, 283, 1, 49), (1018, .if_icmp .eq 195, 3, 1213, 0, 0), (1021, .iconst 0, 1, 0, 0, 0), (1022, .ireturn, 1, 0, 0, 1), (1023, .aload_n f1, 1, 0, 0, 0)],
  [(1024, .aload_n f0, 1, 0, 0, 0), (1025, .iload_n f3, 1, 0, 0, 0), (1026, .iconst 1, 1, 1, 0, 0), (1027, .iadd, 1, 0, 0, 0), (1028, .iaload, 1, 0, 0, 0), (1029, .aload_n f0, 1, 0, 0, 0), (1030, .iload_n f3, 1, 0, 0, 0), (1031, .iconst 2, 1, 2, 0, 0), (1032, .iadd, 1, 0, 0, 0), (1033, .iaload, 1, 0, 0, 0), (1034, .invokevirtual 121, 3, 284, 2, 45), (1037, .aload_n f2, 1, 0, 0, 0), (1038, .aload_n f0, 1, 0, 0, 0), (1039, .iload_n f3, 1, 0, 0, 0)],
  [(1040, .iconst 1, 1, 1, 0, 0), (1041, .iadd, 1, 0, 0, 0), (1042, .iaload, 1, 0, 0, 0), (1043, .aload_n f0, 1, 0, 0, 0), (1044, .iload_n f3, 1, 0, 0, 0), (1045, .iconst 2, 1, 2, 0, 0), (1046, .iadd, 1, 0, 0, 0), (1047, .iaload, 1, 0, 0, 0), (1048, .invokevirtual 124, 3, 285, 2, 49), (1051, .if_icmp .eq 162, 3, 1213, 0, 0), (1054, .iconst 0, 1, 0, 0, 0), (1055, .ireturn, 1, 0, 0, 1)],
  [(1056, .aload_n f1, 1, 0, 0, 0), (1057, .invokevirtual 125, 3, 287, 0, 45), (1060, .aload_n f2, 1, 0, 0, 0), (1061, .invokevirtual 129, 3, 289, 0, 49), (1064, .if_icmp .eq 149, 3, 1213, 0, 0), (1067, .iconst 0, 1, 0, 0, 0), (1068, .ireturn, 1, 0, 0, 1), (1069, .aload_n f1, 1, 0, 0, 0), (1070, .invokevirtual 130, 3, 290, 0, 45)],
  [(1073, .aload_n f2, 1, 0, 0, 0), (1074, .invokevirtual 133, 3, 291, 0, 49), (1077, .if_icmp .eq 136, 3, 1213, 0, 0), (1080, .iconst 0, 1, 0, 0, 0), (1081, .ireturn, 1, 0, 0, 1), (1082, .aload_n f1, 1, 0, 0, 0), (1083, .aload_n f0, 1, 0, 0, 0), (1084, .iload_n f3, 1, 0, 0, 0), (1085, .iconst 1, 1, 1, 0, 0), (1086, .iadd, 1, 0, 0, 0), (1087, .iaload, 1, 0, 0, 0)],
  [(1088, .aload_n f0, 1, 0, 0, 0), (1089, .iload_n f3, 1, 0, 0, 0), (1090, .iconst 2, 1, 2, 0, 0), (1091, .iadd, 1, 0, 0, 0), (1092, .iaload, 1, 0, 0, 0), (1093, .invokevirtual 134, 3, 292, 2, 45), (1096, .aload_n f2, 1, 0, 0, 0), (1097, .aload_n f0, 1, 0, 0, 0), (1098, .iload_n f3, 1, 0, 0, 0), (1099, .iconst 1, 1, 1, 0, 0), (1100, .iadd, 1, 0, 0, 0), (1101, .iaload, 1, 0, 0, 0), (1102, .aload_n f0, 1, 0, 0, 0), (1103, .iload_n f3, 1, 0, 0, 0)],
  [(1104, .iconst 2, 1, 2, 0, 0), (1105, .iadd, 1, 0, 0, 0), (1106, .iaload, 1, 0, 0, 0), (1107, .invokevirtual 137, 3, 293, 2, 49), (1110, .if_icmp .eq 103, 3, 1213, 0, 0), (1113, .iconst 0, 1, 0, 0, 0), (1114, .ireturn, 1, 0, 0, 1), (1115, .aload_n f1, 1, 0, 0, 0), (1116, .aload_n f0, 1, 0, 0, 0), (1117, .iload_n f3, 1, 0, 0, 0), (1118, .iconst 1, 1, 1, 0, 0), (1119, .iadd, 1, 0, 0, 0)],
  [(1120, .iaload, 1, 0, 0, 0), (1121, .invokevirtual 138, 3, 299, 1, 45), (1124, .aload_n f2, 1, 0, 0, 0), (1125, .aload_n f0, 1, 0, 0, 0), (1126, .iload_n f3, 1, 0, 0, 0), (1127, .iconst 1, 1, 1, 0, 0), (1128, .iadd, 1, 0, 0, 0), (1129, .iaload, 1, 0, 0, 0), (1130, .invokevirtual 141, 3, 303, 1, 49), (1133, .if_icmp .eq 80, 3, 1213, 0, 0)],
  [(1136, .iconst 0, 1, 0, 0, 0), (1137, .ireturn, 1, 0, 0, 1), (1138, .aload_n f1, 1, 0, 0, 0), (1139, .invokevirtual 142, 3, 304, 0, 45), (1142, .aload_n f2, 1, 0, 0, 0), (1143, .invokevirtual 146, 3, 305, 0, 49), (1146, .if_icmp .eq 67, 3, 1213, 0, 0), (1149, .iconst 0, 1, 0, 0, 0), (1150, .ireturn, 1, 0, 0, 1), (1151, .aload_n f1, 1, 0, 0, 0)]]
def cd_312_6 : List (List EEw) := [
  [(1152, .aload_n f0, 1, 0, 0, 0), (1153, .iload_n f3, 1, 0, 0, 0), (1154, .iconst 1, 1, 1, 0, 0), (1155, .iadd, 1, 0, 0, 0), (1156, .iaload, 1, 0, 0, 0), (1157, .ifCond .eq 7, 3, 1164, 0, 0), (1160, .iconst 1, 1, 1, 0, 0), (1161, .goto 4, 3, 1165, 0, 0), (1164, .iconst 0, 1, 0, 0, 0), (1165, .invokevirtual 147, 3, 308, 1, 45)],
  [(1168, .aload_n f2, 1, 0, 0, 0), (1169, .aload_n f0, 1, 0, 0, 0), (1170, .iload_n f3, 1, 0, 0, 0), (1171, .iconst 1, 1, 1, 0, 0), (1172, .iadd, 1, 0, 0, 0), (1173, .iaload, 1, 0, 0, 0), (1174, .ifCond .eq 7, 3, 1181, 0, 0), (1177, .iconst 1, 1, 1, 0, 0), (1178, .goto 4, 3, 1182, 0, 0), (1181, .iconst 0, 1, 0, 0, 0), (1182, .invokevirtual 151, 3, 309, 1, 49)],
  [(1185, .if_icmp .eq 28, 3, 1213, 0, 0), (1188, .iconst 0, 1, 0, 0, 0), (1189, .ireturn, 1, 0, 0, 1), (1190, .aload_n f1, 1, 0, 0, 0), (1191, .aload_n f0, 1, 0, 0, 0), (1192, .iload_n f3, 1, 0, 0, 0), (1193, .iconst 1, 1, 1, 0, 0), (1194, .iadd, 1, 0, 0, 0), (1195, .iaload, 1, 0, 0, 0), (1196, .invokevirtual 152, 3, 310, 1, 45), (1199, .aload_n f2, 1, 0, 0, 0)],
  [(1200, .aload_n f0, 1, 0, 0, 0), (1201, .iload_n f3, 1, 0, 0, 0), (1202, .iconst 1, 1, 1, 0, 0), (1203, .iadd, 1, 0, 0, 0), (1204, .iaload, 1, 0, 0, 0), (1205, .invokevirtual 155, 3, 311, 1, 49), (1208, .if_icmp .eq 5, 3, 1213, 0, 0), (1211, .iconst 0, 1, 0, 0, 0), (1212, .ireturn, 1, 0, 0, 1), (1213, .iinc 3 6, 3, 0, 0, 0)],
  [(1216, .goto (-1198), 3, 18, 0, 0), (1219, .iconst 1, 1, 1, 0, 0), (1220, .ireturn, 1, 0, 0, 1)]]
def cd_312 : List (List EEw) := cd_312_0 ++ (cd_312_1 ++ (cd_312_2 ++ (cd_312_3 ++ (cd_312_4 ++ (cd_312_5 ++ (cd_312_6))))))
def codeT : List (List (List (List EEw))) := [
  [cd_0, cd_1, cd_2, cd_3, cd_4, cd_5, cd_6, cd_7, cd_8, cd_9, cd_10, cd_11, cd_12, cd_13, cd_14, cd_15],
  [cd_16, cd_17, cd_18, cd_19, cd_20, cd_21, cd_22, cd_23, cd_24, cd_25, cd_26, cd_27, cd_28, cd_29, cd_30, cd_31],
  [cd_32, cd_33, cd_34, cd_35, cd_36, cd_37, cd_38, cd_39, cd_40, cd_41, cd_42, cd_43, cd_44, cd_45, cd_46, cd_47],
  [cd_48, cd_49, cd_50, cd_51, cd_52, cd_53, cd_54, cd_55, cd_56, cd_57, cd_58, cd_59, cd_60, cd_61, cd_62, cd_63],
  [cd_64, cd_65, cd_66, cd_67, cd_68, cd_69, cd_70, cd_71, cd_72, cd_73, cd_74, cd_75, cd_76, cd_77, cd_78, cd_79],
  [cd_80, cd_81, cd_82, cd_83, cd_84, cd_85, cd_86, cd_87, cd_88, cd_89, cd_90, cd_91, cd_92, cd_93, cd_94, cd_95],
  [cd_96, cd_97, cd_98, cd_99, cd_100, cd_101, cd_102, cd_103, cd_104, cd_105, cd_106, cd_107, cd_108, cd_109, cd_110, cd_111],
  [cd_112, cd_113, cd_114, cd_115, cd_116, cd_117, cd_118, cd_119, cd_120, cd_121, cd_122, cd_123, cd_124, cd_125, cd_126, cd_127],
  [cd_128, cd_129, cd_130, cd_131, cd_132, cd_133, cd_134, cd_135, cd_136, cd_137, cd_138, cd_139, cd_140, cd_141, cd_142, cd_143],
  [cd_144, cd_145, cd_146, cd_147, cd_148, cd_149, cd_150, cd_151, cd_152, cd_153, cd_154, cd_155, cd_156, cd_157, cd_158, cd_159],
  [cd_160, cd_161, cd_162, cd_163, cd_164, cd_165, cd_166, cd_167, cd_168, cd_169, cd_170, cd_171, cd_172, cd_173, cd_174, cd_175],
  [cd_176, cd_177, cd_178, cd_179, cd_180, cd_181, cd_182, cd_183, cd_184, cd_185, cd_186, cd_187, cd_188, cd_189, cd_190, cd_191],
  [cd_192, cd_193, cd_194, cd_195, cd_196, cd_197, cd_198, cd_199, cd_200, cd_201, cd_202, cd_203, cd_204, cd_205, cd_206, cd_207],
  [cd_208, cd_209, cd_210, cd_211, cd_212, cd_213, cd_214, cd_215, cd_216, cd_217, cd_218, cd_219, cd_220, cd_221, cd_222, cd_223],
  [cd_224, cd_225, cd_226, cd_227, cd_228, cd_229, cd_230, cd_231, cd_232, cd_233, cd_234, cd_235, cd_236, cd_237, cd_238, cd_239],
  [cd_240, cd_241, cd_242, cd_243, cd_244, cd_245, cd_246, cd_247, cd_248, cd_249, cd_250, cd_251, cd_252, cd_253, cd_254, cd_255],
  [cd_256, cd_257, cd_258, cd_259, cd_260, cd_261, cd_262, cd_263, cd_264, cd_265, cd_266, cd_267, cd_268, cd_269, cd_270, cd_271],
  [cd_272, cd_273, cd_274, cd_275, cd_276, cd_277, cd_278, cd_279, cd_280, cd_281, cd_282, cd_283, cd_284, cd_285, cd_286, cd_287],
  [cd_288, cd_289, cd_290, cd_291, cd_292, cd_293, cd_294, cd_295, cd_296, cd_297, cd_298, cd_299, cd_300, cd_301, cd_302, cd_303],
  [cd_304, cd_305, cd_306, cd_307, cd_308, cd_309, cd_310, cd_311, cd_312]]
def alT : List Nat := [0, 1, 2, 3, 4, 5, 6, 7, 8, 9, 10, 11, 12, 228, 231, 244, 312]
def mlT : List (List Nat) := [[1, 2, 1, 1, 1, 1, 1, 1, 1, 1, 1, 2, 2, 1, 3, 1], [3, 2, 2, 6, 3, 4, 5, 5, 4, 2, 2, 4, 5, 5, 1, 2], [2, 4, 2, 2, 2, 1, 2, 3, 3, 3, 3, 2, 3, 2, 2, 3], [2, 3, 3, 3, 5, 3, 4, 1, 3, 3, 4, 1, 1, 5, 10, 4], [6, 6, 3, 9, 7, 6, 11, 2, 4, 2, 6, 3, 3, 2, 3, 2], [3, 3, 3, 8, 3, 4, 3, 3, 3, 6, 3, 3, 5, 5, 6, 2], [5, 4, 3, 6, 8, 2, 2, 3, 1, 1, 3, 1, 1, 1, 3, 2], [2, 2, 5, 6, 1, 6, 4, 3, 2, 4, 5, 4, 2, 1, 3, 1], [3, 5, 2, 4, 6, 3, 2, 4, 3, 2, 2, 2, 1, 5, 3, 3], [2, 1, 3, 2, 1, 4, 1, 1, 1, 1, 1, 1, 3, 2, 3, 2], [3, 2, 1, 2, 2, 1, 1, 1, 2, 3, 5, 2, 2, 2, 3, 2], [2, 3, 2, 2, 1, 4, 1, 3, 6, 5, 2, 4, 8, 6, 5, 3], [4, 2, 3, 4, 3, 1, 4, 4, 3, 6, 5, 2, 2, 3, 3, 3], [3, 4, 6, 4, 2, 4, 4, 4, 2, 4, 5, 4, 3, 3, 4, 4], [3, 3, 4, 5, 2, 4, 6, 4, 4, 5, 4, 7, 5, 4, 3, 2], [9, 4, 3, 7, 4, 1, 6, 3, 3, 3, 3, 5, 4, 5, 7, 4], [3, 4, 6, 1, 6, 5, 5, 4, 3, 3, 3, 4, 6, 4, 3, 5], [5, 2, 2, 4, 2, 2, 5, 3, 3, 5, 2, 4, 4, 5, 5, 1], [4, 5, 2, 3, 4, 3, 4, 5, 3, 3, 5, 2, 3, 3, 3, 5], [1, 2, 2, 2, 2, 3, 2, 2, 4]]
def lk (t : List (List EEw)) (pc : Nat) : Option EEw := match t[pc / 16]? with
  | none => none
  | some l => l.find? (fun e => e.1 == pc)
def fetch (mid pc : Nat) : Option EEw := match codeT[mid / 16]? with
  | none => none
  | some l => match l[mid % 16]? with
    | none => none
    | some t => lk t pc
def alm (mid : Nat) : Bool := alT.contains mid
def mlw (mid : Nat) : Nat := match mlT[mid / 16]? with
  | none => 0
  | some l => l.getD (mid % 16) 0
end
