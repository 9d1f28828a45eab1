section
/-! tables of the program: printed by wip/gen/tab.py from the listing -/
abbrev dzIns : Type := Jvm.ClassFile.Instr
abbrev dzOp : Type := dzIns × Value × List (Int32 × Nat) × List Nat
abbrev dzL : Type := List (Nat × Value)
def dzFnd {α : Type} : List (Nat × α) → Nat → Option α
  | [], _ => none
  | (k, a) :: r, i => match Nat.beq k i with
    | true => some a
    | false => dzFnd r i
def dzMem : List Nat → Nat → Bool
  | [], _ => false
  | k :: r, i => match Nat.beq k i with
    | true => true
    | false => dzMem r i
-- 0: PrimeCertificates$Sums.<init>:()V
def zo_0 : List (Nat × Nat × dzOp) := [
  (0, 1, .aload 0, .null, [], []),
  (1, 4, .invokespecial 0, .null, [], []),
  (4, 5, .aload 0, .null, [], []),
  (5, 7, .nop, .int (17 : Int32), [], []),
  (7, 9, .newarray .int, .null, [], []),
  (9, 12, .putfield 0, .null, [], [6, 0, 3]),
  (12, 13, .aload 0, .null, [], []),
  (13, 15, .nop, .int (17 : Int32), [], []),
  (15, 17, .newarray .int, .null, [], []),
  (17, 20, .putfield 0, .null, [], [6, 1, 3]),
  (20, 21, .aload 0, .null, [], []),
  (21, 23, .nop, .int (8 : Int32), [], []),
  (23, 25, .newarray .int, .null, [], []),
  (25, 28, .putfield 0, .null, [], [6, 2, 3]),
  (28, 29, .aload 0, .null, [], []),
  (29, 30, .nop, .int (0 : Int32), [], []),
  (30, 33, .putfield 0, .null, [], [6, 3, 1]),
  (33, 34, .aload 0, .null, [], []),
  (34, 35, .nop, .int (0 : Int32), [], []),
  (35, 38, .putfield 0, .null, [], [6, 4, 1]),
  (38, 39, .aload 0, .null, [], []),
  (39, 41, .nop, .int (8 : Int32), [], []),
  (41, 43, .newarray .int, .null, [], []),
  (43, 46, .putfield 0, .null, [], [6, 5, 3]),
  (46, 47, .aload 0, .null, [], []),
  (47, 49, .nop, .int (8 : Int32), [], []),
  (49, 51, .newarray .int, .null, [], []),
  (51, 54, .putfield 0, .null, [], [6, 6, 3]),
  (54, 55, .aload 0, .null, [], []),
  (55, 57, .nop, .int (8 : Int32), [], []),
  (57, 59, .newarray .int, .null, [], []),
  (59, 62, .putfield 0, .null, [], [6, 7, 3]),
  (62, 63, .aload 0, .null, [], []),
  (63, 65, .nop, .int (8 : Int32), [], []),
  (65, 67, .newarray .int, .null, [], []),
  (67, 70, .putfield 0, .null, [], [6, 8, 3]),
  (70, 71, .return_, .null, [], [])]
def zh_0 : List (Nat × List Nat) := []
-- 1: PrimeCertificates$Tape.<init>:()V
def zo_1 : List (Nat × Nat × dzOp) := [
  (0, 1, .aload 0, .null, [], []),
  (1, 4, .invokespecial 0, .null, [], []),
  (4, 5, .aload 0, .null, [], []),
  (5, 8, .nop, .int (4000 : Int32), [], []),
  (8, 10, .newarray .int, .null, [], []),
  (10, 13, .putfield 0, .null, [], [7, 0, 3]),
  (13, 14, .aload 0, .null, [], []),
  (14, 15, .nop, .int (0 : Int32), [], []),
  (15, 18, .putfield 0, .null, [], [7, 1, 1]),
  (18, 19, .return_, .null, [], [])]
def zh_1 : List (Nat × List Nat) := []
-- 2: PrimeCertificates$Lines.<init>:()V
def zo_2 : List (Nat × Nat × dzOp) := [
  (0, 1, .aload 0, .null, [], []),
  (1, 4, .invokespecial 0, .null, [], []),
  (4, 5, .aload 0, .null, [], []),
  (5, 8, .nop, .int (200 : Int32), [], []),
  (8, 10, .nop, .int (8 : Int32), [], []),
  (10, 14, .multianewarray 0 0, .null, [], []),
  (14, 17, .putfield 0, .null, [], [4, 0, 3]),
  (17, 18, .aload 0, .null, [], []),
  (18, 21, .nop, .int (200 : Int32), [], []),
  (21, 23, .newarray .int, .null, [], []),
  (23, 26, .putfield 0, .null, [], [4, 1, 3]),
  (26, 27, .aload 0, .null, [], []),
  (27, 28, .nop, .int (0 : Int32), [], []),
  (28, 31, .putfield 0, .null, [], [4, 2, 1]),
  (31, 32, .aload 0, .null, [], []),
  (32, 33, .nop, .int (0 : Int32), [], []),
  (33, 36, .putfield 0, .null, [], [4, 3, 1]),
  (36, 37, .return_, .null, [], [])]
def zh_2 : List (Nat × List Nat) := []
-- 3: PrimeCertificates$Trial.<init>:(LPrimeCertificates$Sums;)V
def zo_3 : List (Nat × Nat × dzOp) := [
  (0, 1, .aload 0, .null, [], []),
  (1, 4, .invokespecial 0, .null, [], []),
  (4, 5, .aload 0, .null, [], []),
  (5, 7, .nop, .int (8 : Int32), [], []),
  (7, 9, .newarray .int, .null, [], []),
  (9, 12, .putfield 0, .null, [], [8, 1, 3]),
  (12, 13, .aload 0, .null, [], []),
  (13, 15, .nop, .int (8 : Int32), [], []),
  (15, 17, .newarray .int, .null, [], []),
  (17, 20, .putfield 0, .null, [], [8, 2, 3]),
  (20, 21, .aload 0, .null, [], []),
  (21, 23, .nop, .int (8 : Int32), [], []),
  (23, 25, .newarray .int, .null, [], []),
  (25, 28, .putfield 0, .null, [], [8, 3, 3]),
  (28, 29, .aload 0, .null, [], []),
  (29, 31, .nop, .int (8 : Int32), [], []),
  (31, 33, .newarray .int, .null, [], []),
  (33, 36, .putfield 0, .null, [], [8, 4, 3]),
  (36, 37, .aload 0, .null, [], []),
  (37, 39, .nop, .int (8 : Int32), [], []),
  (39, 41, .newarray .int, .null, [], []),
  (41, 44, .putfield 0, .null, [], [8, 5, 3]),
  (44, 45, .aload 0, .null, [], []),
  (45, 47, .nop, .int (8 : Int32), [], []),
  (47, 49, .newarray .int, .null, [], []),
  (49, 52, .putfield 0, .null, [], [8, 6, 3]),
  (52, 53, .aload 0, .null, [], []),
  (53, 54, .aload 1, .null, [], []),
  (54, 57, .putfield 0, .null, [], [8, 0, 3]),
  (57, 58, .aload 0, .null, [], []),
  (58, 61, .getfield 0, .null, [], [8, 3, 3]),
  (61, 62, .nop, .int (0 : Int32), [], []),
  (62, 63, .nop, .int (1 : Int32), [], []),
  (63, 64, .iastore, .null, [], []),
  (64, 65, .return_, .null, [], [])]
def zh_3 : List (Nat × List Nat) := []
-- 4: PrimeCertificates$Factors.<init>:()V
def zo_4 : List (Nat × Nat × dzOp) := [
  (0, 1, .aload 0, .null, [], []),
  (1, 4, .invokespecial 0, .null, [], []),
  (4, 5, .aload 0, .null, [], []),
  (5, 7, .nop, .int (40 : Int32), [], []),
  (7, 9, .newarray .int, .null, [], []),
  (9, 12, .putfield 0, .null, [], [3, 0, 3]),
  (12, 13, .aload 0, .null, [], []),
  (13, 15, .nop, .int (40 : Int32), [], []),
  (15, 17, .newarray .int, .null, [], []),
  (17, 20, .putfield 0, .null, [], [3, 1, 3]),
  (20, 21, .aload 0, .null, [], []),
  (21, 23, .nop, .int (40 : Int32), [], []),
  (23, 25, .newarray .int, .null, [], []),
  (25, 28, .putfield 0, .null, [], [3, 2, 3]),
  (28, 29, .aload 0, .null, [], []),
  (29, 30, .nop, .int (0 : Int32), [], []),
  (30, 33, .putfield 0, .null, [], [3, 3, 1]),
  (33, 34, .return_, .null, [], [])]
def zh_4 : List (Nat × List Nat) := []
-- 5: PrimeCertificates$Checker.<init>:(LPrimeCertificates$Tape;LPrimeCertificates$Lines;LPrimeCertificates$Sums;LPrimeCertificates$Trial;)V
def zo_5 : List (Nat × Nat × dzOp) := [
  (0, 1, .aload 0, .null, [], []),
  (1, 4, .invokespecial 0, .null, [], []),
  (4, 5, .aload 0, .null, [], []),
  (5, 8, .new 0, .null, [], [3, 4]),
  (8, 9, .dup, .null, [], []),
  (9, 12, .invokestatic 0, .null, [], [4, 1, 0]),
  (12, 15, .putfield 0, .null, [], [2, 4, 3]),
  (15, 16, .aload 0, .null, [], []),
  (16, 18, .nop, .int (8 : Int32), [], []),
  (18, 20, .newarray .int, .null, [], []),
  (20, 23, .putfield 0, .null, [], [2, 5, 3]),
  (23, 24, .aload 0, .null, [], []),
  (24, 25, .nop, .int (0 : Int32), [], []),
  (25, 28, .putfield 0, .null, [], [2, 6, 1]),
  (28, 29, .aload 0, .null, [], []),
  (29, 30, .nop, .int (0 : Int32), [], []),
  (30, 33, .putfield 0, .null, [], [2, 7, 1]),
  (33, 34, .aload 0, .null, [], []),
  (34, 35, .nop, .int (0 : Int32), [], []),
  (35, 38, .putfield 0, .null, [], [2, 8, 1]),
  (38, 39, .aload 0, .null, [], []),
  (39, 40, .nop, .int (0 : Int32), [], []),
  (40, 43, .putfield 0, .null, [], [2, 9, 1]),
  (43, 44, .aload 0, .null, [], []),
  (44, 45, .nop, .int (0 : Int32), [], []),
  (45, 48, .putfield 0, .null, [], [2, 10, 1]),
  (48, 49, .aload 0, .null, [], []),
  (49, 50, .nop, .int (0 : Int32), [], []),
  (50, 53, .putfield 0, .null, [], [2, 11, 1]),
  (53, 54, .aload 0, .null, [], []),
  (54, 56, .nop, .int (-2 : Int32), [], []),
  (56, 59, .putfield 0, .null, [], [2, 12, 1]),
  (59, 60, .aload 0, .null, [], []),
  (60, 61, .aload 1, .null, [], []),
  (61, 64, .putfield 0, .null, [], [2, 0, 3]),
  (64, 65, .aload 0, .null, [], []),
  (65, 66, .aload 2, .null, [], []),
  (66, 69, .putfield 0, .null, [], [2, 1, 3]),
  (69, 70, .aload 0, .null, [], []),
  (70, 71, .aload 3, .null, [], []),
  (71, 74, .putfield 0, .null, [], [2, 2, 3]),
  (74, 75, .aload 0, .null, [], []),
  (75, 77, .aload 4, .null, [], []),
  (77, 80, .putfield 0, .null, [], [2, 3, 3]),
  (80, 81, .return_, .null, [], [])]
def zh_5 : List (Nat × List Nat) := []
-- 6: PrimeCertificates$Maker.<init>:(LPrimeCertificates$Tape;LPrimeCertificates$Lines;LPrimeCertificates$Sums;LPrimeCertificates$Trial;)V
def zo_6 : List (Nat × Nat × dzOp) := [
  (0, 1, .aload 0, .null, [], []),
  (1, 4, .invokespecial 0, .null, [], []),
  (4, 5, .aload 0, .null, [], []),
  (5, 8, .new 0, .null, [], [3, 4]),
  (8, 9, .dup, .null, [], []),
  (9, 12, .invokestatic 0, .null, [], [4, 1, 0]),
  (12, 15, .putfield 0, .null, [], [5, 4, 3]),
  (15, 16, .aload 0, .null, [], []),
  (16, 18, .nop, .int (8 : Int32), [], []),
  (18, 20, .newarray .int, .null, [], []),
  (20, 23, .putfield 0, .null, [], [5, 5, 3]),
  (23, 24, .aload 0, .null, [], []),
  (24, 26, .nop, .int (8 : Int32), [], []),
  (26, 28, .newarray .int, .null, [], []),
  (28, 31, .putfield 0, .null, [], [5, 6, 3]),
  (31, 32, .aload 0, .null, [], []),
  (32, 34, .nop, .int (8 : Int32), [], []),
  (34, 36, .newarray .int, .null, [], []),
  (36, 39, .putfield 0, .null, [], [5, 7, 3]),
  (39, 40, .aload 0, .null, [], []),
  (40, 42, .nop, .int (8 : Int32), [], []),
  (42, 44, .newarray .int, .null, [], []),
  (44, 47, .putfield 0, .null, [], [5, 8, 3]),
  (47, 48, .aload 0, .null, [], []),
  (48, 49, .nop, .int (0 : Int32), [], []),
  (49, 52, .putfield 0, .null, [], [5, 9, 1]),
  (52, 53, .aload 0, .null, [], []),
  (53, 54, .nop, .int (0 : Int32), [], []),
  (54, 57, .putfield 0, .null, [], [5, 10, 1]),
  (57, 58, .aload 0, .null, [], []),
  (58, 59, .aload 1, .null, [], []),
  (59, 62, .putfield 0, .null, [], [5, 0, 3]),
  (62, 63, .aload 0, .null, [], []),
  (63, 64, .aload 2, .null, [], []),
  (64, 67, .putfield 0, .null, [], [5, 1, 3]),
  (67, 68, .aload 0, .null, [], []),
  (68, 69, .aload 3, .null, [], []),
  (69, 72, .putfield 0, .null, [], [5, 2, 3]),
  (72, 73, .aload 0, .null, [], []),
  (73, 75, .aload 4, .null, [], []),
  (75, 78, .putfield 0, .null, [], [5, 3, 3]),
  (78, 79, .return_, .null, [], [])]
def zh_6 : List (Nat × List Nat) := []
-- 7: PrimeCertificates.<init>:()V
def zo_7 : List (Nat × Nat × dzOp) := [
  (0, 1, .aload 0, .null, [], []),
  (1, 4, .invokespecial 0, .null, [], []),
  (4, 5, .aload 0, .null, [], []),
  (5, 7, .nop, .int (8 : Int32), [], []),
  (7, 9, .nop, .int (8 : Int32), [], []),
  (9, 13, .multianewarray 0 0, .null, [], []),
  (13, 16, .putfield 0, .null, [], [0, 0, 3]),
  (16, 17, .aload 0, .null, [], []),
  (17, 19, .nop, .int (8 : Int32), [], []),
  (19, 21, .newarray .int, .null, [], []),
  (21, 24, .putfield 0, .null, [], [0, 1, 3]),
  (24, 25, .aload 0, .null, [], []),
  (25, 27, .nop, .int (8 : Int32), [], []),
  (27, 29, .newarray .int, .null, [], []),
  (29, 32, .putfield 0, .null, [], [0, 2, 3]),
  (32, 33, .aload 0, .null, [], []),
  (33, 36, .new 0, .null, [], [6, 9]),
  (36, 37, .dup, .null, [], []),
  (37, 40, .invokestatic 0, .null, [], [0, 1, 0]),
  (40, 43, .putfield 0, .null, [], [0, 3, 3]),
  (43, 44, .aload 0, .null, [], []),
  (44, 47, .new 0, .null, [], [7, 2]),
  (47, 48, .dup, .null, [], []),
  (48, 51, .invokestatic 0, .null, [], [1, 1, 0]),
  (51, 54, .putfield 0, .null, [], [0, 4, 3]),
  (54, 55, .aload 0, .null, [], []),
  (55, 58, .new 0, .null, [], [4, 4]),
  (58, 59, .dup, .null, [], []),
  (59, 62, .invokestatic 0, .null, [], [2, 1, 0]),
  (62, 65, .putfield 0, .null, [], [0, 5, 3]),
  (65, 68, .new 0, .null, [], [8, 7]),
  (68, 69, .dup, .null, [], []),
  (69, 70, .aload 0, .null, [], []),
  (70, 73, .getfield 0, .null, [], [0, 3, 3]),
  (73, 76, .invokestatic 0, .null, [], [3, 2, 0]),
  (76, 77, .astore 1, .null, [], []),
  (77, 78, .aload 0, .null, [], []),
  (78, 81, .new 0, .null, [], [2, 13]),
  (81, 82, .dup, .null, [], []),
  (82, 83, .aload 0, .null, [], []),
  (83, 86, .getfield 0, .null, [], [0, 4, 3]),
  (86, 87, .aload 0, .null, [], []),
  (87, 90, .getfield 0, .null, [], [0, 5, 3]),
  (90, 91, .aload 0, .null, [], []),
  (91, 94, .getfield 0, .null, [], [0, 3, 3]),
  (94, 95, .aload 1, .null, [], []),
  (95, 98, .invokestatic 0, .null, [], [5, 5, 0]),
  (98, 101, .putfield 0, .null, [], [0, 6, 3]),
  (101, 102, .aload 0, .null, [], []),
  (102, 105, .new 0, .null, [], [5, 11]),
  (105, 106, .dup, .null, [], []),
  (106, 107, .aload 0, .null, [], []),
  (107, 110, .getfield 0, .null, [], [0, 4, 3]),
  (110, 111, .aload 0, .null, [], []),
  (111, 114, .getfield 0, .null, [], [0, 5, 3]),
  (114, 115, .aload 0, .null, [], []),
  (115, 118, .getfield 0, .null, [], [0, 3, 3]),
  (118, 119, .aload 1, .null, [], []),
  (119, 122, .invokestatic 0, .null, [], [6, 5, 0]),
  (122, 125, .putfield 0, .null, [], [0, 7, 3]),
  (125, 126, .return_, .null, [], [])]
def zh_7 : List (Nat × List Nat) := []
-- 8: PrimeCertificates.isRegister:(I)Z
def zo_8 : List (Nat × Nat × dzOp) := [
  (0, 1, .iload 0, .null, [], []),
  (1, 4, .ifCond .lt 0, .null, [], [14]),
  (4, 5, .iload 0, .null, [], []),
  (5, 7, .nop, .int (8 : Int32), [], []),
  (7, 10, .if_icmp .ge 0, .null, [], [14]),
  (10, 11, .nop, .int (1 : Int32), [], []),
  (11, 14, .goto 0, .null, [], [15]),
  (14, 15, .nop, .int (0 : Int32), [], []),
  (15, 16, .ireturn, .null, [], [1])]
def zh_8 : List (Nat × List Nat) := []
-- 9: PrimeCertificates.isWord:(I)Z
def zo_9 : List (Nat × Nat × dzOp) := [
  (0, 1, .iload 0, .null, [], []),
  (1, 4, .ifCond .lt 0, .null, [], [14]),
  (4, 5, .iload 0, .null, [], []),
  (5, 7, .nop, .int (8 : Int32), [], []),
  (7, 10, .if_icmp .ge 0, .null, [], [14]),
  (10, 11, .nop, .int (1 : Int32), [], []),
  (11, 14, .goto 0, .null, [], [15]),
  (14, 15, .nop, .int (0 : Int32), [], []),
  (15, 16, .ireturn, .null, [], [1])]
def zh_9 : List (Nat × List Nat) := []
-- 10: PrimeCertificates.put:(III)Z
def zo_10 : List (Nat × Nat × dzOp) := [
  (0, 1, .iload 1, .null, [], []),
  (1, 4, .invokestatic 0, .null, [], [8, 1, 1]),
  (4, 7, .ifCond .eq 0, .null, [], [14]),
  (7, 8, .iload 2, .null, [], []),
  (8, 11, .invokestatic 0, .null, [], [9, 1, 1]),
  (11, 14, .ifCond .ne 0, .null, [], [16]),
  (14, 15, .nop, .int (0 : Int32), [], []),
  (15, 16, .ireturn, .null, [], [1]),
  (16, 17, .aload 0, .null, [], []),
  (17, 20, .getfield 0, .null, [], [0, 0, 3]),
  (20, 21, .iload 1, .null, [], []),
  (21, 22, .aaload, .null, [], []),
  (22, 23, .iload 2, .null, [], []),
  (23, 24, .iload 3, .null, [], []),
  (24, 25, .iastore, .null, [], []),
  (25, 26, .nop, .int (1 : Int32), [], []),
  (26, 27, .ireturn, .null, [], [1])]
def zh_10 : List (Nat × List Nat) := []
-- 11: PrimeCertificates.get:(II)I
def zo_11 : List (Nat × Nat × dzOp) := [
  (0, 1, .iload 1, .null, [], []),
  (1, 4, .invokestatic 0, .null, [], [8, 1, 1]),
  (4, 7, .ifCond .eq 0, .null, [], [25]),
  (7, 8, .iload 2, .null, [], []),
  (8, 11, .invokestatic 0, .null, [], [9, 1, 1]),
  (11, 14, .ifCond .eq 0, .null, [], [25]),
  (14, 15, .aload 0, .null, [], []),
  (15, 18, .getfield 0, .null, [], [0, 0, 3]),
  (18, 19, .iload 1, .null, [], []),
  (19, 20, .aaload, .null, [], []),
  (20, 21, .iload 2, .null, [], []),
  (21, 22, .iaload, .null, [], []),
  (22, 25, .goto 0, .null, [], [26]),
  (25, 26, .nop, .int (0 : Int32), [], []),
  (26, 27, .ireturn, .null, [], [0])]
def zh_11 : List (Nat × List Nat) := []
-- 12: PrimeCertificates.areRegisters:(III)Z
def zo_12 : List (Nat × Nat × dzOp) := [
  (0, 1, .iload 0, .null, [], []),
  (1, 4, .invokestatic 0, .null, [], [8, 1, 1]),
  (4, 7, .ifCond .eq 0, .null, [], [25]),
  (7, 8, .iload 1, .null, [], []),
  (8, 11, .invokestatic 0, .null, [], [8, 1, 1]),
  (11, 14, .ifCond .eq 0, .null, [], [25]),
  (14, 15, .iload 2, .null, [], []),
  (15, 18, .invokestatic 0, .null, [], [8, 1, 1]),
  (18, 21, .ifCond .eq 0, .null, [], [25]),
  (21, 22, .nop, .int (1 : Int32), [], []),
  (22, 25, .goto 0, .null, [], [26]),
  (25, 26, .nop, .int (0 : Int32), [], []),
  (26, 27, .ireturn, .null, [], [1])]
def zh_12 : List (Nat × List Nat) := []
-- 13: PrimeCertificates$Sums.sum:([I[I[I)Z
def zo_13 : List (Nat × Nat × dzOp) := [
  (0, 1, .nop, .long (0 : Int64), [], []),
  (1, 2, .lstore 3, .null, [], []),
  (2, 3, .nop, .int (0 : Int32), [], []),
  (3, 5, .istore 5, .null, [], []),
  (5, 7, .iload 5, .null, [], []),
  (7, 9, .nop, .int (8 : Int32), [], []),
  (9, 12, .if_icmp .ge 0, .null, [], [51]),
  (12, 13, .lload 3, .null, [], []),
  (13, 14, .aload 0, .null, [], []),
  (14, 16, .iload 5, .null, [], []),
  (16, 17, .iaload, .null, [], []),
  (17, 18, .i2l, .null, [], []),
  (18, 21, .nop, .long (4294967295 : Int64), [], []),
  (21, 22, .land, .null, [], []),
  (22, 23, .aload 1, .null, [], []),
  (23, 25, .iload 5, .null, [], []),
  (25, 26, .iaload, .null, [], []),
  (26, 27, .i2l, .null, [], []),
  (27, 30, .nop, .long (4294967295 : Int64), [], []),
  (30, 31, .land, .null, [], []),
  (31, 32, .ladd, .null, [], []),
  (32, 33, .ladd, .null, [], []),
  (33, 34, .lstore 3, .null, [], []),
  (34, 35, .aload 2, .null, [], []),
  (35, 37, .iload 5, .null, [], []),
  (37, 38, .lload 3, .null, [], []),
  (38, 39, .l2i, .null, [], []),
  (39, 40, .iastore, .null, [], []),
  (40, 41, .lload 3, .null, [], []),
  (41, 43, .nop, .int (32 : Int32), [], []),
  (43, 44, .lushr, .null, [], []),
  (44, 45, .lstore 3, .null, [], []),
  (45, 48, .iinc 5 0, .int (1 : Int32), [], []),
  (48, 51, .goto 0, .null, [], [5]),
  (51, 52, .lload 3, .null, [], []),
  (52, 53, .nop, .long (0 : Int64), [], []),
  (53, 54, .lcmp, .null, [], []),
  (54, 57, .ifCond .ne 0, .null, [], [61]),
  (57, 58, .nop, .int (1 : Int32), [], []),
  (58, 61, .goto 0, .null, [], [62]),
  (61, 62, .nop, .int (0 : Int32), [], []),
  (62, 63, .ireturn, .null, [], [1])]
def zh_13 : List (Nat × List Nat) := [(5, [0, 1, 2, 3, 5])]
-- 14: PrimeCertificates$Sums.copy:([I[I)V
def zo_14 : List (Nat × Nat × dzOp) := [
  (0, 1, .aload 0, .null, [], []),
  (1, 2, .nop, .int (0 : Int32), [], []),
  (2, 3, .aload 1, .null, [], []),
  (3, 4, .nop, .int (0 : Int32), [], []),
  (4, 6, .nop, .int (8 : Int32), [], []),
  (6, 9, .swap, .null, [], []),
  (9, 10, .return_, .null, [], [])]
def zh_14 : List (Nat × List Nat) := []
-- 15: PrimeCertificates.keepAnswer:(I)I
def zo_15 : List (Nat × Nat × dzOp) := [
  (0, 1, .aload 0, .null, [], []),
  (1, 4, .getfield 0, .null, [], [0, 1, 3]),
  (4, 5, .aload 0, .null, [], []),
  (5, 8, .getfield 0, .null, [], [0, 0, 3]),
  (8, 9, .iload 1, .null, [], []),
  (9, 10, .aaload, .null, [], []),
  (10, 13, .invokestatic 0, .null, [], [14, 2, 0]),
  (13, 14, .nop, .int (0 : Int32), [], []),
  (14, 15, .ireturn, .null, [], [0])]
def zh_15 : List (Nat × List Nat) := []
-- 16: PrimeCertificates.add:(III)I
def zo_16 : List (Nat × Nat × dzOp) := [
  (0, 1, .iload 1, .null, [], []),
  (1, 2, .iload 2, .null, [], []),
  (2, 3, .iload 3, .null, [], []),
  (3, 6, .invokestatic 0, .null, [], [12, 3, 1]),
  (6, 9, .ifCond .ne 0, .null, [], [11]),
  (9, 10, .nop, .int (-1 : Int32), [], []),
  (10, 11, .ireturn, .null, [], [0]),
  (11, 12, .aload 0, .null, [], []),
  (12, 15, .getfield 0, .null, [], [0, 0, 3]),
  (15, 16, .iload 1, .null, [], []),
  (16, 17, .aaload, .null, [], []),
  (17, 18, .aload 0, .null, [], []),
  (18, 21, .getfield 0, .null, [], [0, 0, 3]),
  (21, 22, .iload 2, .null, [], []),
  (22, 23, .aaload, .null, [], []),
  (23, 24, .aload 0, .null, [], []),
  (24, 27, .getfield 0, .null, [], [0, 1, 3]),
  (27, 30, .invokestatic 0, .null, [], [13, 3, 1]),
  (30, 33, .ifCond .eq 0, .null, [], [41]),
  (33, 34, .aload 0, .null, [], []),
  (34, 35, .iload 3, .null, [], []),
  (35, 38, .invokestatic 0, .null, [], [15, 2, 1]),
  (38, 41, .goto 0, .null, [], [43]),
  (41, 43, .nop, .int (-3 : Int32), [], []),
  (43, 44, .ireturn, .null, [], [0])]
def zh_16 : List (Nat × List Nat) := []
-- 17: PrimeCertificates$Sums.difference:([I[I[I)Z
def zo_17 : List (Nat × Nat × dzOp) := [
  (0, 1, .nop, .long (0 : Int64), [], []),
  (1, 2, .lstore 3, .null, [], []),
  (2, 3, .nop, .int (0 : Int32), [], []),
  (3, 5, .istore 5, .null, [], []),
  (5, 7, .iload 5, .null, [], []),
  (7, 9, .nop, .int (8 : Int32), [], []),
  (9, 12, .if_icmp .ge 0, .null, [], [51]),
  (12, 13, .lload 3, .null, [], []),
  (13, 14, .aload 0, .null, [], []),
  (14, 16, .iload 5, .null, [], []),
  (16, 17, .iaload, .null, [], []),
  (17, 18, .i2l, .null, [], []),
  (18, 21, .nop, .long (4294967295 : Int64), [], []),
  (21, 22, .land, .null, [], []),
  (22, 23, .aload 1, .null, [], []),
  (23, 25, .iload 5, .null, [], []),
  (25, 26, .iaload, .null, [], []),
  (26, 27, .i2l, .null, [], []),
  (27, 30, .nop, .long (4294967295 : Int64), [], []),
  (30, 31, .land, .null, [], []),
  (31, 32, .lsub, .null, [], []),
  (32, 33, .ladd, .null, [], []),
  (33, 34, .lstore 3, .null, [], []),
  (34, 35, .aload 2, .null, [], []),
  (35, 37, .iload 5, .null, [], []),
  (37, 38, .lload 3, .null, [], []),
  (38, 39, .l2i, .null, [], []),
  (39, 40, .iastore, .null, [], []),
  (40, 41, .lload 3, .null, [], []),
  (41, 43, .nop, .int (32 : Int32), [], []),
  (43, 44, .lshr, .null, [], []),
  (44, 45, .lstore 3, .null, [], []),
  (45, 48, .iinc 5 0, .int (1 : Int32), [], []),
  (48, 51, .goto 0, .null, [], [5]),
  (51, 52, .lload 3, .null, [], []),
  (52, 53, .nop, .long (0 : Int64), [], []),
  (53, 54, .lcmp, .null, [], []),
  (54, 57, .ifCond .ne 0, .null, [], [61]),
  (57, 58, .nop, .int (1 : Int32), [], []),
  (58, 61, .goto 0, .null, [], [62]),
  (61, 62, .nop, .int (0 : Int32), [], []),
  (62, 63, .ireturn, .null, [], [1])]
def zh_17 : List (Nat × List Nat) := [(5, [0, 1, 2, 3, 5])]
-- 18: PrimeCertificates.subtract:(III)I
def zo_18 : List (Nat × Nat × dzOp) := [
  (0, 1, .iload 1, .null, [], []),
  (1, 2, .iload 2, .null, [], []),
  (2, 3, .iload 3, .null, [], []),
  (3, 6, .invokestatic 0, .null, [], [12, 3, 1]),
  (6, 9, .ifCond .ne 0, .null, [], [11]),
  (9, 10, .nop, .int (-1 : Int32), [], []),
  (10, 11, .ireturn, .null, [], [0]),
  (11, 12, .aload 0, .null, [], []),
  (12, 15, .getfield 0, .null, [], [0, 0, 3]),
  (15, 16, .iload 1, .null, [], []),
  (16, 17, .aaload, .null, [], []),
  (17, 18, .aload 0, .null, [], []),
  (18, 21, .getfield 0, .null, [], [0, 0, 3]),
  (21, 22, .iload 2, .null, [], []),
  (22, 23, .aaload, .null, [], []),
  (23, 24, .aload 0, .null, [], []),
  (24, 27, .getfield 0, .null, [], [0, 1, 3]),
  (27, 30, .invokestatic 0, .null, [], [17, 3, 1]),
  (30, 33, .ifCond .eq 0, .null, [], [41]),
  (33, 34, .aload 0, .null, [], []),
  (34, 35, .iload 3, .null, [], []),
  (35, 38, .invokestatic 0, .null, [], [15, 2, 1]),
  (38, 41, .goto 0, .null, [], [43]),
  (41, 43, .nop, .int (-2 : Int32), [], []),
  (43, 44, .ireturn, .null, [], [0])]
def zh_18 : List (Nat × List Nat) := []
-- 19: PrimeCertificates$Sums.usedWords:([I)I
def zo_19 : List (Nat × Nat × dzOp) := [
  (0, 1, .aload 0, .null, [], []),
  (1, 2, .arraylength, .null, [], []),
  (2, 3, .istore 1, .null, [], []),
  (3, 4, .iload 1, .null, [], []),
  (4, 7, .ifCond .le 0, .null, [], [21]),
  (7, 8, .aload 0, .null, [], []),
  (8, 9, .iload 1, .null, [], []),
  (9, 10, .nop, .int (1 : Int32), [], []),
  (10, 11, .isub, .null, [], []),
  (11, 12, .iaload, .null, [], []),
  (12, 15, .ifCond .ne 0, .null, [], [21]),
  (15, 18, .iinc 1 0, .int (-1 : Int32), [], []),
  (18, 21, .goto 0, .null, [], [3]),
  (21, 22, .iload 1, .null, [], []),
  (22, 23, .ireturn, .null, [], [0])]
def zh_19 : List (Nat × List Nat) := [(3, [0, 1])]
-- 20: java/util/Arrays.fill:([II)V
def zo_20 : List (Nat × Nat × dzOp) := [
  (0, 1, .nop, .int (0 : Int32), [], []),
  (1, 2, .istore 2, .null, [], []),
  (2, 3, .aload 0, .null, [], []),
  (3, 4, .arraylength, .null, [], []),
  (4, 5, .istore 3, .null, [], []),
  (5, 6, .iload 2, .null, [], []),
  (6, 7, .iload 3, .null, [], []),
  (7, 10, .if_icmp .ge 0, .null, [], [20]),
  (10, 11, .aload 0, .null, [], []),
  (11, 12, .iload 2, .null, [], []),
  (12, 13, .iload 1, .null, [], []),
  (13, 14, .iastore, .null, [], []),
  (14, 17, .iinc 2 0, .int (1 : Int32), [], []),
  (17, 20, .goto 0, .null, [], [5]),
  (20, 21, .return_, .null, [], [])]
def zh_20 : List (Nat × List Nat) := [(5, [0, 1, 2, 3])]
-- 21: PrimeCertificates$Sums.setWideToProduct:([I[I)V
def zo_21 : List (Nat × Nat × dzOp) := [
  (0, 1, .aload 1, .null, [], []),
  (1, 4, .invokestatic 0, .null, [], [19, 1, 1]),
  (4, 5, .istore 3, .null, [], []),
  (5, 6, .aload 2, .null, [], []),
  (6, 9, .invokestatic 0, .null, [], [19, 1, 1]),
  (9, 11, .istore 4, .null, [], []),
  (11, 12, .aload 0, .null, [], []),
  (12, 15, .getfield 0, .null, [], [6, 0, 3]),
  (15, 16, .nop, .int (0 : Int32), [], []),
  (16, 19, .invokestatic 0, .null, [], [20, 2, 0]),
  (19, 20, .nop, .int (0 : Int32), [], []),
  (20, 22, .istore 5, .null, [], []),
  (22, 24, .iload 5, .null, [], []),
  (24, 25, .iload 3, .null, [], []),
  (25, 28, .if_icmp .ge 0, .null, [], [130]),
  (28, 29, .aload 1, .null, [], []),
  (29, 31, .iload 5, .null, [], []),
  (31, 32, .iaload, .null, [], []),
  (32, 33, .i2l, .null, [], []),
  (33, 36, .nop, .long (4294967295 : Int64), [], []),
  (36, 37, .land, .null, [], []),
  (37, 39, .lstore 6, .null, [], []),
  (39, 40, .nop, .long (0 : Int64), [], []),
  (40, 42, .lstore 8, .null, [], []),
  (42, 43, .nop, .int (0 : Int32), [], []),
  (43, 45, .istore 10, .null, [], []),
  (45, 47, .iload 10, .null, [], []),
  (47, 49, .iload 4, .null, [], []),
  (49, 52, .if_icmp .ge 0, .null, [], [111]),
  (52, 54, .lload 8, .null, [], []),
  (54, 56, .lload 6, .null, [], []),
  (56, 57, .aload 2, .null, [], []),
  (57, 59, .iload 10, .null, [], []),
  (59, 60, .iaload, .null, [], []),
  (60, 61, .i2l, .null, [], []),
  (61, 64, .nop, .long (4294967295 : Int64), [], []),
  (64, 65, .land, .null, [], []),
  (65, 66, .lmul, .null, [], []),
  (66, 67, .aload 0, .null, [], []),
  (67, 70, .getfield 0, .null, [], [6, 0, 3]),
  (70, 72, .iload 5, .null, [], []),
  (72, 74, .iload 10, .null, [], []),
  (74, 75, .iadd, .null, [], []),
  (75, 76, .iaload, .null, [], []),
  (76, 77, .i2l, .null, [], []),
  (77, 80, .nop, .long (4294967295 : Int64), [], []),
  (80, 81, .land, .null, [], []),
  (81, 82, .ladd, .null, [], []),
  (82, 83, .ladd, .null, [], []),
  (83, 85, .lstore 8, .null, [], []),
  (85, 86, .aload 0, .null, [], []),
  (86, 89, .getfield 0, .null, [], [6, 0, 3]),
  (89, 91, .iload 5, .null, [], []),
  (91, 93, .iload 10, .null, [], []),
  (93, 94, .iadd, .null, [], []),
  (94, 96, .lload 8, .null, [], []),
  (96, 97, .l2i, .null, [], []),
  (97, 98, .iastore, .null, [], []),
  (98, 100, .lload 8, .null, [], []),
  (100, 102, .nop, .int (32 : Int32), [], []),
  (102, 103, .lushr, .null, [], []),
  (103, 105, .lstore 8, .null, [], []),
  (105, 108, .iinc 10 0, .int (1 : Int32), [], []),
  (108, 111, .goto 0, .null, [], [45]),
  (111, 112, .aload 0, .null, [], []),
  (112, 115, .getfield 0, .null, [], [6, 0, 3]),
  (115, 117, .iload 5, .null, [], []),
  (117, 119, .iload 4, .null, [], []),
  (119, 120, .iadd, .null, [], []),
  (120, 122, .lload 8, .null, [], []),
  (122, 123, .l2i, .null, [], []),
  (123, 124, .iastore, .null, [], []),
  (124, 127, .iinc 5 0, .int (1 : Int32), [], []),
  (127, 130, .goto 0, .null, [], [22]),
  (130, 131, .return_, .null, [], [])]
def zh_21 : List (Nat × List Nat) := [(22, [0, 1, 2, 3, 4, 5]), (45, [0, 1, 2, 3, 4, 5, 6, 8, 10])]
-- 22: PrimeCertificates$Sums.product:([I[I[I)Z
def zo_22 : List (Nat × Nat × dzOp) := [
  (0, 1, .aload 0, .null, [], []),
  (1, 2, .aload 1, .null, [], []),
  (2, 3, .aload 2, .null, [], []),
  (3, 6, .invokestatic 0, .null, [], [21, 3, 0]),
  (6, 7, .aload 0, .null, [], []),
  (7, 10, .getfield 0, .null, [], [6, 0, 3]),
  (10, 13, .invokestatic 0, .null, [], [19, 1, 1]),
  (13, 15, .nop, .int (8 : Int32), [], []),
  (15, 18, .if_icmp .le 0, .null, [], [20]),
  (18, 19, .nop, .int (0 : Int32), [], []),
  (19, 20, .ireturn, .null, [], [1]),
  (20, 21, .aload 0, .null, [], []),
  (21, 24, .getfield 0, .null, [], [6, 0, 3]),
  (24, 25, .aload 3, .null, [], []),
  (25, 28, .invokestatic 0, .null, [], [14, 2, 0]),
  (28, 29, .nop, .int (1 : Int32), [], []),
  (29, 30, .ireturn, .null, [], [1])]
def zh_22 : List (Nat × List Nat) := []
-- 23: PrimeCertificates.multiply:(III)I
def zo_23 : List (Nat × Nat × dzOp) := [
  (0, 1, .iload 1, .null, [], []),
  (1, 2, .iload 2, .null, [], []),
  (2, 3, .iload 3, .null, [], []),
  (3, 6, .invokestatic 0, .null, [], [12, 3, 1]),
  (6, 9, .ifCond .ne 0, .null, [], [11]),
  (9, 10, .nop, .int (-1 : Int32), [], []),
  (10, 11, .ireturn, .null, [], [0]),
  (11, 12, .aload 0, .null, [], []),
  (12, 15, .getfield 0, .null, [], [0, 3, 3]),
  (15, 16, .aload 0, .null, [], []),
  (16, 19, .getfield 0, .null, [], [0, 0, 3]),
  (19, 20, .iload 1, .null, [], []),
  (20, 21, .aaload, .null, [], []),
  (21, 22, .aload 0, .null, [], []),
  (22, 25, .getfield 0, .null, [], [0, 0, 3]),
  (25, 26, .iload 2, .null, [], []),
  (26, 27, .aaload, .null, [], []),
  (27, 28, .aload 0, .null, [], []),
  (28, 31, .getfield 0, .null, [], [0, 1, 3]),
  (31, 34, .invokestatic 0, .null, [], [22, 4, 1]),
  (34, 37, .ifCond .eq 0, .null, [], [45]),
  (37, 38, .aload 0, .null, [], []),
  (38, 39, .iload 3, .null, [], []),
  (39, 42, .invokestatic 0, .null, [], [15, 2, 1]),
  (42, 45, .goto 0, .null, [], [47]),
  (45, 47, .nop, .int (-3 : Int32), [], []),
  (47, 48, .ireturn, .null, [], [0])]
def zh_23 : List (Nat × List Nat) := []
-- 24: PrimeCertificates$Sums.isZero:([I)Z
def zo_24 : List (Nat × Nat × dzOp) := [
  (0, 1, .aload 0, .null, [], []),
  (1, 4, .invokestatic 0, .null, [], [19, 1, 1]),
  (4, 7, .ifCond .ne 0, .null, [], [11]),
  (7, 8, .nop, .int (1 : Int32), [], []),
  (8, 11, .goto 0, .null, [], [12]),
  (11, 12, .nop, .int (0 : Int32), [], []),
  (12, 13, .ireturn, .null, [], [1])]
def zh_24 : List (Nat × List Nat) := []
-- 25: PrimeCertificates$Sums.leadingZeros:(I)I
def zo_25 : List (Nat × Nat × dzOp) := [
  (0, 1, .nop, .int (0 : Int32), [], []),
  (1, 2, .istore 1, .null, [], []),
  (2, 3, .iload 1, .null, [], []),
  (3, 5, .nop, .int (31 : Int32), [], []),
  (5, 8, .if_icmp .ge 0, .null, [], [20]),
  (8, 9, .iload 0, .null, [], []),
  (9, 10, .iload 1, .null, [], []),
  (10, 11, .ishl, .null, [], []),
  (11, 14, .ifCond .le 0, .null, [], [20]),
  (14, 17, .iinc 1 0, .int (1 : Int32), [], []),
  (17, 20, .goto 0, .null, [], [2]),
  (20, 21, .iload 1, .null, [], []),
  (21, 22, .ireturn, .null, [], [0])]
def zh_25 : List (Nat × List Nat) := [(2, [0, 1])]
-- 26: PrimeCertificates$Sums.shiftUp:([II[I)V
def zo_26 : List (Nat × Nat × dzOp) := [
  (0, 1, .nop, .long (0 : Int64), [], []),
  (1, 3, .lstore 4, .null, [], []),
  (3, 4, .nop, .int (0 : Int32), [], []),
  (4, 6, .istore 6, .null, [], []),
  (6, 8, .iload 6, .null, [], []),
  (8, 9, .iload 2, .null, [], []),
  (9, 12, .if_icmp .ge 0, .null, [], [51]),
  (12, 14, .lload 4, .null, [], []),
  (14, 15, .aload 1, .null, [], []),
  (15, 17, .iload 6, .null, [], []),
  (17, 18, .iaload, .null, [], []),
  (18, 19, .i2l, .null, [], []),
  (19, 22, .nop, .long (4294967295 : Int64), [], []),
  (22, 23, .land, .null, [], []),
  (23, 24, .aload 0, .null, [], []),
  (24, 27, .getfield 0, .null, [], [6, 4, 1]),
  (27, 28, .lshl, .null, [], []),
  (28, 29, .lor, .null, [], []),
  (29, 31, .lstore 4, .null, [], []),
  (31, 32, .aload 3, .null, [], []),
  (32, 34, .iload 6, .null, [], []),
  (34, 36, .lload 4, .null, [], []),
  (36, 37, .l2i, .null, [], []),
  (37, 38, .iastore, .null, [], []),
  (38, 40, .lload 4, .null, [], []),
  (40, 42, .nop, .int (32 : Int32), [], []),
  (42, 43, .lushr, .null, [], []),
  (43, 45, .lstore 4, .null, [], []),
  (45, 48, .iinc 6 0, .int (1 : Int32), [], []),
  (48, 51, .goto 0, .null, [], [6]),
  (51, 52, .iload 2, .null, [], []),
  (52, 53, .aload 3, .null, [], []),
  (53, 54, .arraylength, .null, [], []),
  (54, 57, .if_icmp .ge 0, .null, [], [63]),
  (57, 58, .aload 3, .null, [], []),
  (58, 59, .iload 2, .null, [], []),
  (59, 61, .lload 4, .null, [], []),
  (61, 62, .l2i, .null, [], []),
  (62, 63, .iastore, .null, [], []),
  (63, 64, .return_, .null, [], [])]
def zh_26 : List (Nat × List Nat) := [(6, [0, 1, 2, 3, 4, 6])]
-- 27: PrimeCertificates$Sums.setDivisor:([I)V
def zo_27 : List (Nat × Nat × dzOp) := [
  (0, 1, .aload 0, .null, [], []),
  (1, 2, .aload 1, .null, [], []),
  (2, 5, .invokestatic 0, .null, [], [19, 1, 1]),
  (5, 8, .putfield 0, .null, [], [6, 3, 1]),
  (8, 9, .aload 0, .null, [], []),
  (9, 10, .aload 0, .null, [], []),
  (10, 13, .getfield 0, .null, [], [6, 3, 1]),
  (13, 16, .ifCond .ne 0, .null, [], [20]),
  (16, 17, .nop, .int (0 : Int32), [], []),
  (17, 20, .goto 0, .null, [], [31]),
  (20, 21, .aload 1, .null, [], []),
  (21, 22, .aload 0, .null, [], []),
  (22, 25, .getfield 0, .null, [], [6, 3, 1]),
  (25, 26, .nop, .int (1 : Int32), [], []),
  (26, 27, .isub, .null, [], []),
  (27, 28, .iaload, .null, [], []),
  (28, 31, .invokestatic 0, .null, [], [25, 1, 1]),
  (31, 34, .putfield 0, .null, [], [6, 4, 1]),
  (34, 35, .aload 0, .null, [], []),
  (35, 36, .aload 1, .null, [], []),
  (36, 37, .aload 0, .null, [], []),
  (37, 40, .getfield 0, .null, [], [6, 3, 1]),
  (40, 41, .aload 0, .null, [], []),
  (41, 44, .getfield 0, .null, [], [6, 2, 3]),
  (44, 47, .invokestatic 0, .null, [], [26, 4, 0]),
  (47, 48, .return_, .null, [], [])]
def zh_27 : List (Nat × List Nat) := [(31, [0, 1])]
-- 28: PrimeCertificates$Sums.setWide:([I)V
def zo_28 : List (Nat × Nat × dzOp) := [
  (0, 1, .aload 0, .null, [], []),
  (1, 4, .getfield 0, .null, [], [6, 0, 3]),
  (4, 5, .nop, .int (0 : Int32), [], []),
  (5, 8, .invokestatic 0, .null, [], [20, 2, 0]),
  (8, 9, .aload 1, .null, [], []),
  (9, 10, .aload 0, .null, [], []),
  (10, 13, .getfield 0, .null, [], [6, 0, 3]),
  (13, 16, .invokestatic 0, .null, [], [14, 2, 0]),
  (16, 17, .return_, .null, [], [])]
def zh_28 : List (Nat × List Nat) := []
-- 29: PrimeCertificates$Sums.isAbove:(JJ)Z
def zo_29 : List (Nat × Nat × dzOp) := [
  (0, 1, .lload 0, .null, [], []),
  (1, 4, .nop, .long (-9223372036854775808 : Int64), [], []),
  (4, 5, .lxor, .null, [], []),
  (5, 6, .lload 2, .null, [], []),
  (6, 9, .nop, .long (-9223372036854775808 : Int64), [], []),
  (9, 10, .lxor, .null, [], []),
  (10, 11, .lcmp, .null, [], []),
  (11, 14, .ifCond .le 0, .null, [], [18]),
  (14, 15, .nop, .int (1 : Int32), [], []),
  (15, 18, .goto 0, .null, [], [19]),
  (18, 19, .nop, .int (0 : Int32), [], []),
  (19, 20, .ireturn, .null, [], [1])]
def zh_29 : List (Nat × List Nat) := []
-- 30: PrimeCertificates$Sums.guessTimes:(I)J
def zo_30 : List (Nat × Nat × dzOp) := [
  (0, 1, .iload 1, .null, [], []),
  (1, 2, .aload 0, .null, [], []),
  (2, 5, .getfield 0, .null, [], [6, 3, 1]),
  (5, 6, .iadd, .null, [], []),
  (6, 7, .istore 2, .null, [], []),
  (7, 8, .aload 0, .null, [], []),
  (8, 11, .getfield 0, .null, [], [6, 3, 1]),
  (11, 12, .nop, .int (1 : Int32), [], []),
  (12, 15, .if_icmp .le 0, .null, [], [19]),
  (15, 16, .nop, .int (1 : Int32), [], []),
  (16, 19, .goto 0, .null, [], [20]),
  (19, 20, .nop, .int (0 : Int32), [], []),
  (20, 21, .istore 3, .null, [], []),
  (21, 22, .aload 0, .null, [], []),
  (22, 25, .getfield 0, .null, [], [6, 2, 3]),
  (25, 26, .aload 0, .null, [], []),
  (26, 29, .getfield 0, .null, [], [6, 3, 1]),
  (29, 30, .nop, .int (1 : Int32), [], []),
  (30, 31, .isub, .null, [], []),
  (31, 32, .iaload, .null, [], []),
  (32, 33, .i2l, .null, [], []),
  (33, 36, .nop, .long (4294967295 : Int64), [], []),
  (36, 37, .land, .null, [], []),
  (37, 39, .lstore 4, .null, [], []),
  (39, 40, .iload 3, .null, [], []),
  (40, 43, .ifCond .eq 0, .null, [], [62]),
  (43, 44, .aload 0, .null, [], []),
  (44, 47, .getfield 0, .null, [], [6, 2, 3]),
  (47, 48, .aload 0, .null, [], []),
  (48, 51, .getfield 0, .null, [], [6, 3, 1]),
  (51, 52, .nop, .int (2 : Int32), [], []),
  (52, 53, .isub, .null, [], []),
  (53, 54, .iaload, .null, [], []),
  (54, 55, .i2l, .null, [], []),
  (55, 58, .nop, .long (4294967295 : Int64), [], []),
  (58, 59, .land, .null, [], []),
  (59, 62, .goto 0, .null, [], [63]),
  (62, 63, .nop, .long (0 : Int64), [], []),
  (63, 65, .lstore 6, .null, [], []),
  (65, 66, .iload 3, .null, [], []),
  (66, 69, .ifCond .eq 0, .null, [], [85]),
  (69, 70, .aload 0, .null, [], []),
  (70, 73, .getfield 0, .null, [], [6, 0, 3]),
  (73, 74, .iload 2, .null, [], []),
  (74, 75, .nop, .int (2 : Int32), [], []),
  (75, 76, .isub, .null, [], []),
  (76, 77, .iaload, .null, [], []),
  (77, 78, .i2l, .null, [], []),
  (78, 81, .nop, .long (4294967295 : Int64), [], []),
  (81, 82, .land, .null, [], []),
  (82, 85, .goto 0, .null, [], [86]),
  (85, 86, .nop, .long (0 : Int64), [], []),
  (86, 88, .lstore 8, .null, [], []),
  (88, 89, .aload 0, .null, [], []),
  (89, 92, .getfield 0, .null, [], [6, 0, 3]),
  (92, 93, .iload 2, .null, [], []),
  (93, 94, .iaload, .null, [], []),
  (94, 95, .i2l, .null, [], []),
  (95, 98, .nop, .long (4294967295 : Int64), [], []),
  (98, 99, .land, .null, [], []),
  (99, 101, .nop, .int (32 : Int32), [], []),
  (101, 102, .lshl, .null, [], []),
  (102, 103, .aload 0, .null, [], []),
  (103, 106, .getfield 0, .null, [], [6, 0, 3]),
  (106, 107, .iload 2, .null, [], []),
  (107, 108, .nop, .int (1 : Int32), [], []),
  (108, 109, .isub, .null, [], []),
  (109, 110, .iaload, .null, [], []),
  (110, 111, .i2l, .null, [], []),
  (111, 114, .nop, .long (4294967295 : Int64), [], []),
  (114, 115, .land, .null, [], []),
  (115, 116, .lor, .null, [], []),
  (116, 118, .lstore 10, .null, [], []),
  (118, 120, .lload 4, .null, [], []),
  (120, 121, .nop, .long (0 : Int64), [], []),
  (121, 122, .lcmp, .null, [], []),
  (122, 125, .ifCond .ne 0, .null, [], [127]),
  (125, 126, .nop, .long (0 : Int64), [], []),
  (126, 127, .lreturn, .null, [], []),
  (127, 129, .lload 10, .null, [], []),
  (129, 130, .nop, .int (1 : Int32), [], []),
  (130, 131, .lushr, .null, [], []),
  (131, 133, .lload 4, .null, [], []),
  (133, 134, .ldiv, .null, [], []),
  (134, 135, .nop, .int (1 : Int32), [], []),
  (135, 136, .lshl, .null, [], []),
  (136, 138, .lstore 12, .null, [], []),
  (138, 140, .lload 10, .null, [], []),
  (140, 142, .lload 12, .null, [], []),
  (142, 144, .lload 4, .null, [], []),
  (144, 145, .lmul, .null, [], []),
  (145, 146, .lsub, .null, [], []),
  (146, 148, .lstore 14, .null, [], []),
  (148, 150, .lload 14, .null, [], []),
  (150, 152, .lload 4, .null, [], []),
  (152, 153, .lcmp, .null, [], []),
  (153, 156, .ifCond .lt 0, .null, [], [169]),
  (156, 158, .lload 12, .null, [], []),
  (158, 159, .nop, .long (1 : Int64), [], []),
  (159, 160, .ladd, .null, [], []),
  (160, 162, .lstore 12, .null, [], []),
  (162, 164, .lload 14, .null, [], []),
  (164, 166, .lload 4, .null, [], []),
  (166, 167, .lsub, .null, [], []),
  (167, 169, .lstore 14, .null, [], []),
  (169, 170, .nop, .int (0 : Int32), [], []),
  (170, 172, .istore 16, .null, [], []),
  (172, 174, .iload 16, .null, [], []),
  (174, 175, .nop, .int (2 : Int32), [], []),
  (175, 178, .if_icmp .ge 0, .null, [], [237]),
  (178, 180, .lload 14, .null, [], []),
  (180, 183, .nop, .long (4294967295 : Int64), [], []),
  (183, 184, .lcmp, .null, [], []),
  (184, 187, .ifCond .gt 0, .null, [], [237]),
  (187, 189, .lload 12, .null, [], []),
  (189, 192, .nop, .long (4294967295 : Int64), [], []),
  (192, 193, .lcmp, .null, [], []),
  (193, 196, .ifCond .gt 0, .null, [], [218]),
  (196, 198, .lload 12, .null, [], []),
  (198, 200, .lload 6, .null, [], []),
  (200, 201, .lmul, .null, [], []),
  (201, 203, .lload 14, .null, [], []),
  (203, 205, .nop, .int (32 : Int32), [], []),
  (205, 206, .lshl, .null, [], []),
  (206, 208, .lload 8, .null, [], []),
  (208, 209, .lor, .null, [], []),
  (209, 212, .invokestatic 0, .null, [], [29, 2, 1]),
  (212, 215, .ifCond .ne 0, .null, [], [218]),
  (215, 218, .goto 0, .null, [], [237]),
  (218, 220, .lload 12, .null, [], []),
  (220, 221, .nop, .long (1 : Int64), [], []),
  (221, 222, .lsub, .null, [], []),
  (222, 224, .lstore 12, .null, [], []),
  (224, 226, .lload 14, .null, [], []),
  (226, 228, .lload 4, .null, [], []),
  (228, 229, .ladd, .null, [], []),
  (229, 231, .lstore 14, .null, [], []),
  (231, 234, .iinc 16 0, .int (1 : Int32), [], []),
  (234, 237, .goto 0, .null, [], [172]),
  (237, 239, .lload 12, .null, [], []),
  (239, 240, .lreturn, .null, [], [])]
def zh_30 : List (Nat × List Nat) := [(20, [0, 1, 2]), (63, [0, 1, 2, 3, 4]), (86, [0, 1, 2, 3, 4, 6]), (169, [0, 1, 2, 3, 4, 6, 8, 10, 12, 14]), (172, [0, 1, 2, 3, 4, 6, 8, 10, 12, 14, 16]), (218, [0, 1, 2, 3, 4, 6, 8, 10, 12, 14, 16])]
-- 31: PrimeCertificates$Sums.takeAway:(JI)Z
def zo_31 : List (Nat × Nat × dzOp) := [
  (0, 1, .nop, .long (0 : Int64), [], []),
  (1, 3, .lstore 4, .null, [], []),
  (3, 4, .nop, .int (0 : Int32), [], []),
  (4, 6, .istore 6, .null, [], []),
  (6, 8, .iload 6, .null, [], []),
  (8, 9, .aload 0, .null, [], []),
  (9, 12, .getfield 0, .null, [], [6, 3, 1]),
  (12, 15, .if_icmp .ge 0, .null, [], [96]),
  (15, 16, .lload 1, .null, [], []),
  (16, 17, .aload 0, .null, [], []),
  (17, 20, .getfield 0, .null, [], [6, 2, 3]),
  (20, 22, .iload 6, .null, [], []),
  (22, 23, .iaload, .null, [], []),
  (23, 24, .i2l, .null, [], []),
  (24, 27, .nop, .long (4294967295 : Int64), [], []),
  (27, 28, .land, .null, [], []),
  (28, 29, .lmul, .null, [], []),
  (29, 31, .lload 4, .null, [], []),
  (31, 32, .ladd, .null, [], []),
  (32, 34, .lstore 7, .null, [], []),
  (34, 35, .aload 0, .null, [], []),
  (35, 38, .getfield 0, .null, [], [6, 0, 3]),
  (38, 40, .iload 6, .null, [], []),
  (40, 41, .iload 3, .null, [], []),
  (41, 42, .iadd, .null, [], []),
  (42, 43, .iaload, .null, [], []),
  (43, 44, .i2l, .null, [], []),
  (44, 47, .nop, .long (4294967295 : Int64), [], []),
  (47, 48, .land, .null, [], []),
  (48, 50, .lload 7, .null, [], []),
  (50, 53, .nop, .long (4294967295 : Int64), [], []),
  (53, 54, .land, .null, [], []),
  (54, 55, .lsub, .null, [], []),
  (55, 57, .lstore 9, .null, [], []),
  (57, 58, .aload 0, .null, [], []),
  (58, 61, .getfield 0, .null, [], [6, 0, 3]),
  (61, 63, .iload 6, .null, [], []),
  (63, 64, .iload 3, .null, [], []),
  (64, 65, .iadd, .null, [], []),
  (65, 67, .lload 9, .null, [], []),
  (67, 68, .l2i, .null, [], []),
  (68, 69, .iastore, .null, [], []),
  (69, 71, .lload 7, .null, [], []),
  (71, 73, .nop, .int (32 : Int32), [], []),
  (73, 74, .lushr, .null, [], []),
  (74, 76, .lload 9, .null, [], []),
  (76, 77, .nop, .long (0 : Int64), [], []),
  (77, 78, .lcmp, .null, [], []),
  (78, 81, .ifCond .ge 0, .null, [], [85]),
  (81, 82, .nop, .int (1 : Int32), [], []),
  (82, 85, .goto 0, .null, [], [86]),
  (85, 86, .nop, .int (0 : Int32), [], []),
  (86, 87, .i2l, .null, [], []),
  (87, 88, .ladd, .null, [], []),
  (88, 90, .lstore 4, .null, [], []),
  (90, 93, .iinc 6 0, .int (1 : Int32), [], []),
  (93, 96, .goto 0, .null, [], [6]),
  (96, 97, .aload 0, .null, [], []),
  (97, 100, .getfield 0, .null, [], [6, 0, 3]),
  (100, 101, .iload 3, .null, [], []),
  (101, 102, .aload 0, .null, [], []),
  (102, 105, .getfield 0, .null, [], [6, 3, 1]),
  (105, 106, .iadd, .null, [], []),
  (106, 107, .iaload, .null, [], []),
  (107, 108, .i2l, .null, [], []),
  (108, 111, .nop, .long (4294967295 : Int64), [], []),
  (111, 112, .land, .null, [], []),
  (112, 114, .lload 4, .null, [], []),
  (114, 115, .lsub, .null, [], []),
  (115, 117, .lstore 6, .null, [], []),
  (117, 118, .aload 0, .null, [], []),
  (118, 121, .getfield 0, .null, [], [6, 0, 3]),
  (121, 122, .iload 3, .null, [], []),
  (122, 123, .aload 0, .null, [], []),
  (123, 126, .getfield 0, .null, [], [6, 3, 1]),
  (126, 127, .iadd, .null, [], []),
  (127, 129, .lload 6, .null, [], []),
  (129, 130, .l2i, .null, [], []),
  (130, 131, .iastore, .null, [], []),
  (131, 133, .lload 6, .null, [], []),
  (133, 134, .nop, .long (0 : Int64), [], []),
  (134, 135, .lcmp, .null, [], []),
  (135, 138, .ifCond .lt 0, .null, [], [142]),
  (138, 139, .nop, .int (1 : Int32), [], []),
  (139, 142, .goto 0, .null, [], [143]),
  (142, 143, .nop, .int (0 : Int32), [], []),
  (143, 144, .ireturn, .null, [], [1])]
def zh_31 : List (Nat × List Nat) := [(6, [0, 1, 3, 4, 6]), (86, [0, 1, 3, 4, 6, 7, 9])]
-- 32: PrimeCertificates$Sums.giveBack:(I)V
def zo_32 : List (Nat × Nat × dzOp) := [
  (0, 1, .nop, .long (0 : Int64), [], []),
  (1, 2, .lstore 2, .null, [], []),
  (2, 3, .nop, .int (0 : Int32), [], []),
  (3, 5, .istore 4, .null, [], []),
  (5, 7, .iload 4, .null, [], []),
  (7, 8, .aload 0, .null, [], []),
  (8, 11, .getfield 0, .null, [], [6, 3, 1]),
  (11, 14, .if_icmp .ge 0, .null, [], [66]),
  (14, 15, .lload 2, .null, [], []),
  (15, 16, .aload 0, .null, [], []),
  (16, 19, .getfield 0, .null, [], [6, 0, 3]),
  (19, 21, .iload 4, .null, [], []),
  (21, 22, .iload 1, .null, [], []),
  (22, 23, .iadd, .null, [], []),
  (23, 24, .iaload, .null, [], []),
  (24, 25, .i2l, .null, [], []),
  (25, 28, .nop, .long (4294967295 : Int64), [], []),
  (28, 29, .land, .null, [], []),
  (29, 30, .aload 0, .null, [], []),
  (30, 33, .getfield 0, .null, [], [6, 2, 3]),
  (33, 35, .iload 4, .null, [], []),
  (35, 36, .iaload, .null, [], []),
  (36, 37, .i2l, .null, [], []),
  (37, 40, .nop, .long (4294967295 : Int64), [], []),
  (40, 41, .land, .null, [], []),
  (41, 42, .ladd, .null, [], []),
  (42, 43, .ladd, .null, [], []),
  (43, 44, .lstore 2, .null, [], []),
  (44, 45, .aload 0, .null, [], []),
  (45, 48, .getfield 0, .null, [], [6, 0, 3]),
  (48, 50, .iload 4, .null, [], []),
  (50, 51, .iload 1, .null, [], []),
  (51, 52, .iadd, .null, [], []),
  (52, 53, .lload 2, .null, [], []),
  (53, 54, .l2i, .null, [], []),
  (54, 55, .iastore, .null, [], []),
  (55, 56, .lload 2, .null, [], []),
  (56, 58, .nop, .int (32 : Int32), [], []),
  (58, 59, .lushr, .null, [], []),
  (59, 60, .lstore 2, .null, [], []),
  (60, 63, .iinc 4 0, .int (1 : Int32), [], []),
  (63, 66, .goto 0, .null, [], [5]),
  (66, 67, .aload 0, .null, [], []),
  (67, 70, .getfield 0, .null, [], [6, 0, 3]),
  (70, 71, .iload 1, .null, [], []),
  (71, 72, .aload 0, .null, [], []),
  (72, 75, .getfield 0, .null, [], [6, 3, 1]),
  (75, 76, .iadd, .null, [], []),
  (76, 77, .dup2, .null, [], []),
  (77, 78, .iaload, .null, [], []),
  (78, 79, .lload 2, .null, [], []),
  (79, 80, .l2i, .null, [], []),
  (80, 81, .iadd, .null, [], []),
  (81, 82, .iastore, .null, [], []),
  (82, 83, .return_, .null, [], [])]
def zh_32 : List (Nat × List Nat) := [(5, [0, 1, 2, 4])]
-- 33: PrimeCertificates$Sums.shiftWideDown:()V
def zo_33 : List (Nat × Nat × dzOp) := [
  (0, 1, .nop, .long (0 : Int64), [], []),
  (1, 2, .lstore 1, .null, [], []),
  (2, 3, .aload 0, .null, [], []),
  (3, 6, .getfield 0, .null, [], [6, 3, 1]),
  (6, 7, .nop, .int (1 : Int32), [], []),
  (7, 8, .isub, .null, [], []),
  (8, 9, .istore 3, .null, [], []),
  (9, 10, .iload 3, .null, [], []),
  (10, 13, .ifCond .lt 0, .null, [], [54]),
  (13, 14, .aload 0, .null, [], []),
  (14, 17, .getfield 0, .null, [], [6, 0, 3]),
  (17, 18, .iload 3, .null, [], []),
  (18, 19, .iaload, .null, [], []),
  (19, 20, .i2l, .null, [], []),
  (20, 23, .nop, .long (4294967295 : Int64), [], []),
  (23, 24, .land, .null, [], []),
  (24, 26, .lstore 4, .null, [], []),
  (26, 27, .aload 0, .null, [], []),
  (27, 30, .getfield 0, .null, [], [6, 0, 3]),
  (30, 31, .iload 3, .null, [], []),
  (31, 32, .lload 1, .null, [], []),
  (32, 34, .nop, .int (32 : Int32), [], []),
  (34, 35, .lshl, .null, [], []),
  (35, 37, .lload 4, .null, [], []),
  (37, 38, .lor, .null, [], []),
  (38, 39, .aload 0, .null, [], []),
  (39, 42, .getfield 0, .null, [], [6, 4, 1]),
  (42, 43, .lushr, .null, [], []),
  (43, 44, .l2i, .null, [], []),
  (44, 45, .iastore, .null, [], []),
  (45, 47, .lload 4, .null, [], []),
  (47, 48, .lstore 1, .null, [], []),
  (48, 51, .iinc 3 0, .int (-1 : Int32), [], []),
  (51, 54, .goto 0, .null, [], [9]),
  (54, 55, .return_, .null, [], [])]
def zh_33 : List (Nat × List Nat) := [(9, [0, 1, 3])]
-- 34: PrimeCertificates$Sums.reduceWide:()V
def zo_34 : List (Nat × Nat × dzOp) := [
  (0, 1, .aload 0, .null, [], []),
  (1, 4, .getfield 0, .null, [], [6, 1, 3]),
  (4, 5, .nop, .int (0 : Int32), [], []),
  (5, 8, .invokestatic 0, .null, [], [20, 2, 0]),
  (8, 9, .aload 0, .null, [], []),
  (9, 12, .getfield 0, .null, [], [6, 0, 3]),
  (12, 15, .invokestatic 0, .null, [], [19, 1, 1]),
  (15, 16, .istore 1, .null, [], []),
  (16, 17, .aload 0, .null, [], []),
  (17, 20, .getfield 0, .null, [], [6, 3, 1]),
  (20, 23, .ifCond .eq 0, .null, [], [31]),
  (23, 24, .iload 1, .null, [], []),
  (24, 25, .aload 0, .null, [], []),
  (25, 28, .getfield 0, .null, [], [6, 3, 1]),
  (28, 31, .if_icmp .ge 0, .null, [], [32]),
  (31, 32, .return_, .null, [], []),
  (32, 33, .aload 0, .null, [], []),
  (33, 34, .aload 0, .null, [], []),
  (34, 37, .getfield 0, .null, [], [6, 0, 3]),
  (37, 38, .iload 1, .null, [], []),
  (38, 39, .aload 0, .null, [], []),
  (39, 42, .getfield 0, .null, [], [6, 0, 3]),
  (42, 45, .invokestatic 0, .null, [], [26, 4, 0]),
  (45, 46, .iload 1, .null, [], []),
  (46, 47, .aload 0, .null, [], []),
  (47, 50, .getfield 0, .null, [], [6, 3, 1]),
  (50, 51, .isub, .null, [], []),
  (51, 52, .istore 2, .null, [], []),
  (52, 53, .iload 2, .null, [], []),
  (53, 56, .ifCond .lt 0, .null, [], [94]),
  (56, 57, .aload 0, .null, [], []),
  (57, 58, .iload 2, .null, [], []),
  (58, 61, .invokestatic 0, .null, [], [30, 2, 2]),
  (61, 62, .lstore 3, .null, [], []),
  (62, 63, .aload 0, .null, [], []),
  (63, 64, .lload 3, .null, [], []),
  (64, 65, .iload 2, .null, [], []),
  (65, 68, .invokestatic 0, .null, [], [31, 3, 1]),
  (68, 71, .ifCond .ne 0, .null, [], [80]),
  (71, 72, .aload 0, .null, [], []),
  (72, 73, .iload 2, .null, [], []),
  (73, 76, .invokestatic 0, .null, [], [32, 2, 0]),
  (76, 77, .lload 3, .null, [], []),
  (77, 78, .nop, .long (1 : Int64), [], []),
  (78, 79, .lsub, .null, [], []),
  (79, 80, .lstore 3, .null, [], []),
  (80, 81, .aload 0, .null, [], []),
  (81, 84, .getfield 0, .null, [], [6, 1, 3]),
  (84, 85, .iload 2, .null, [], []),
  (85, 86, .lload 3, .null, [], []),
  (86, 87, .l2i, .null, [], []),
  (87, 88, .iastore, .null, [], []),
  (88, 91, .iinc 2 0, .int (-1 : Int32), [], []),
  (91, 94, .goto 0, .null, [], [52]),
  (94, 95, .aload 0, .null, [], []),
  (95, 98, .invokestatic 0, .null, [], [33, 1, 0]),
  (98, 99, .return_, .null, [], [])]
def zh_34 : List (Nat × List Nat) := [(52, [0, 1, 2]), (80, [0, 1, 2, 3])]
-- 35: PrimeCertificates$Sums.quotient:([I[I[I[I)V
def zo_35 : List (Nat × Nat × dzOp) := [
  (0, 1, .aload 0, .null, [], []),
  (1, 2, .aload 2, .null, [], []),
  (2, 5, .invokestatic 0, .null, [], [27, 2, 0]),
  (5, 6, .aload 0, .null, [], []),
  (6, 7, .aload 1, .null, [], []),
  (7, 10, .invokestatic 0, .null, [], [28, 2, 0]),
  (10, 11, .aload 0, .null, [], []),
  (11, 14, .invokestatic 0, .null, [], [34, 1, 0]),
  (14, 15, .aload 0, .null, [], []),
  (15, 18, .getfield 0, .null, [], [6, 1, 3]),
  (18, 19, .aload 3, .null, [], []),
  (19, 22, .invokestatic 0, .null, [], [14, 2, 0]),
  (22, 23, .aload 0, .null, [], []),
  (23, 26, .getfield 0, .null, [], [6, 0, 3]),
  (26, 28, .aload 4, .null, [], []),
  (28, 31, .invokestatic 0, .null, [], [14, 2, 0]),
  (31, 32, .return_, .null, [], [])]
def zh_35 : List (Nat × List Nat) := []
-- 36: PrimeCertificates.divide:(IIII)I
def zo_36 : List (Nat × Nat × dzOp) := [
  (0, 1, .iload 1, .null, [], []),
  (1, 2, .iload 2, .null, [], []),
  (2, 3, .iload 3, .null, [], []),
  (3, 6, .invokestatic 0, .null, [], [12, 3, 1]),
  (6, 9, .ifCond .eq 0, .null, [], [23]),
  (9, 11, .iload 4, .null, [], []),
  (11, 14, .invokestatic 0, .null, [], [8, 1, 1]),
  (14, 17, .ifCond .eq 0, .null, [], [23]),
  (17, 18, .iload 3, .null, [], []),
  (18, 20, .iload 4, .null, [], []),
  (20, 23, .if_icmp .ne 0, .null, [], [25]),
  (23, 24, .nop, .int (-1 : Int32), [], []),
  (24, 25, .ireturn, .null, [], [0]),
  (25, 26, .aload 0, .null, [], []),
  (26, 29, .getfield 0, .null, [], [0, 0, 3]),
  (29, 30, .iload 2, .null, [], []),
  (30, 31, .aaload, .null, [], []),
  (31, 34, .invokestatic 0, .null, [], [24, 1, 1]),
  (34, 37, .ifCond .eq 0, .null, [], [40]),
  (37, 39, .nop, .int (-2 : Int32), [], []),
  (39, 40, .ireturn, .null, [], [0]),
  (40, 41, .aload 0, .null, [], []),
  (41, 44, .getfield 0, .null, [], [0, 3, 3]),
  (44, 45, .aload 0, .null, [], []),
  (45, 48, .getfield 0, .null, [], [0, 0, 3]),
  (48, 49, .iload 1, .null, [], []),
  (49, 50, .aaload, .null, [], []),
  (50, 51, .aload 0, .null, [], []),
  (51, 54, .getfield 0, .null, [], [0, 0, 3]),
  (54, 55, .iload 2, .null, [], []),
  (55, 56, .aaload, .null, [], []),
  (56, 57, .aload 0, .null, [], []),
  (57, 60, .getfield 0, .null, [], [0, 1, 3]),
  (60, 61, .aload 0, .null, [], []),
  (61, 64, .getfield 0, .null, [], [0, 2, 3]),
  (64, 67, .invokestatic 0, .null, [], [35, 5, 0]),
  (67, 68, .aload 0, .null, [], []),
  (68, 71, .getfield 0, .null, [], [0, 2, 3]),
  (71, 72, .aload 0, .null, [], []),
  (72, 75, .getfield 0, .null, [], [0, 0, 3]),
  (75, 77, .iload 4, .null, [], []),
  (77, 78, .aaload, .null, [], []),
  (78, 81, .invokestatic 0, .null, [], [14, 2, 0]),
  (81, 82, .aload 0, .null, [], []),
  (82, 83, .iload 3, .null, [], []),
  (83, 86, .invokestatic 0, .null, [], [15, 2, 1]),
  (86, 87, .ireturn, .null, [], [0])]
def zh_36 : List (Nat × List Nat) := []
-- 37: PrimeCertificates$Sums.setSmall:([II)V
def zo_37 : List (Nat × Nat × dzOp) := [
  (0, 1, .aload 0, .null, [], []),
  (1, 2, .nop, .int (0 : Int32), [], []),
  (2, 5, .invokestatic 0, .null, [], [20, 2, 0]),
  (5, 6, .aload 0, .null, [], []),
  (6, 7, .nop, .int (0 : Int32), [], []),
  (7, 8, .iload 1, .null, [], []),
  (8, 9, .iastore, .null, [], []),
  (9, 10, .return_, .null, [], [])]
def zh_37 : List (Nat × List Nat) := []
-- 38: PrimeCertificates$Sums.powerModulo:([I[I[I[I)V
def zo_38 : List (Nat × Nat × dzOp) := [
  (0, 1, .aload 0, .null, [], []),
  (1, 2, .aload 3, .null, [], []),
  (2, 5, .invokestatic 0, .null, [], [27, 2, 0]),
  (5, 6, .aload 0, .null, [], []),
  (6, 7, .aload 1, .null, [], []),
  (7, 10, .invokestatic 0, .null, [], [28, 2, 0]),
  (10, 11, .aload 0, .null, [], []),
  (11, 14, .invokestatic 0, .null, [], [34, 1, 0]),
  (14, 15, .aload 0, .null, [], []),
  (15, 18, .getfield 0, .null, [], [6, 0, 3]),
  (18, 19, .aload 0, .null, [], []),
  (19, 22, .getfield 0, .null, [], [6, 5, 3]),
  (22, 25, .invokestatic 0, .null, [], [14, 2, 0]),
  (25, 26, .aload 0, .null, [], []),
  (26, 29, .getfield 0, .null, [], [6, 0, 3]),
  (29, 30, .nop, .int (1 : Int32), [], []),
  (30, 33, .invokestatic 0, .null, [], [37, 2, 0]),
  (33, 34, .aload 0, .null, [], []),
  (34, 37, .invokestatic 0, .null, [], [34, 1, 0]),
  (37, 38, .aload 0, .null, [], []),
  (38, 41, .getfield 0, .null, [], [6, 0, 3]),
  (41, 42, .aload 0, .null, [], []),
  (42, 45, .getfield 0, .null, [], [6, 6, 3]),
  (45, 48, .invokestatic 0, .null, [], [14, 2, 0]),
  (48, 50, .nop, .int (32 : Int32), [], []),
  (50, 51, .aload 2, .null, [], []),
  (51, 54, .invokestatic 0, .null, [], [19, 1, 1]),
  (54, 55, .imul, .null, [], []),
  (55, 56, .nop, .int (1 : Int32), [], []),
  (56, 57, .isub, .null, [], []),
  (57, 59, .istore 5, .null, [], []),
  (59, 61, .iload 5, .null, [], []),
  (61, 64, .ifCond .lt 0, .null, [], [142]),
  (64, 65, .aload 0, .null, [], []),
  (65, 66, .aload 0, .null, [], []),
  (66, 69, .getfield 0, .null, [], [6, 6, 3]),
  (69, 70, .aload 0, .null, [], []),
  (70, 73, .getfield 0, .null, [], [6, 6, 3]),
  (73, 76, .invokestatic 0, .null, [], [21, 3, 0]),
  (76, 77, .aload 0, .null, [], []),
  (77, 80, .invokestatic 0, .null, [], [34, 1, 0]),
  (80, 81, .aload 0, .null, [], []),
  (81, 84, .getfield 0, .null, [], [6, 0, 3]),
  (84, 85, .aload 0, .null, [], []),
  (85, 88, .getfield 0, .null, [], [6, 6, 3]),
  (88, 91, .invokestatic 0, .null, [], [14, 2, 0]),
  (91, 92, .aload 2, .null, [], []),
  (92, 94, .iload 5, .null, [], []),
  (94, 95, .nop, .int (5 : Int32), [], []),
  (95, 96, .ishr, .null, [], []),
  (96, 97, .iaload, .null, [], []),
  (97, 99, .iload 5, .null, [], []),
  (99, 101, .nop, .int (31 : Int32), [], []),
  (101, 102, .iand, .null, [], []),
  (102, 103, .iushr, .null, [], []),
  (103, 104, .nop, .int (1 : Int32), [], []),
  (104, 105, .iand, .null, [], []),
  (105, 106, .nop, .int (1 : Int32), [], []),
  (106, 109, .if_icmp .ne 0, .null, [], [136]),
  (109, 110, .aload 0, .null, [], []),
  (110, 111, .aload 0, .null, [], []),
  (111, 114, .getfield 0, .null, [], [6, 6, 3]),
  (114, 115, .aload 0, .null, [], []),
  (115, 118, .getfield 0, .null, [], [6, 5, 3]),
  (118, 121, .invokestatic 0, .null, [], [21, 3, 0]),
  (121, 122, .aload 0, .null, [], []),
  (122, 125, .invokestatic 0, .null, [], [34, 1, 0]),
  (125, 126, .aload 0, .null, [], []),
  (126, 129, .getfield 0, .null, [], [6, 0, 3]),
  (129, 130, .aload 0, .null, [], []),
  (130, 133, .getfield 0, .null, [], [6, 6, 3]),
  (133, 136, .invokestatic 0, .null, [], [14, 2, 0]),
  (136, 139, .iinc 5 0, .int (-1 : Int32), [], []),
  (139, 142, .goto 0, .null, [], [59]),
  (142, 143, .aload 0, .null, [], []),
  (143, 146, .getfield 0, .null, [], [6, 6, 3]),
  (146, 148, .aload 4, .null, [], []),
  (148, 151, .invokestatic 0, .null, [], [14, 2, 0]),
  (151, 152, .return_, .null, [], [])]
def zh_38 : List (Nat × List Nat) := [(59, [0, 1, 2, 3, 4, 5]), (136, [0, 1, 2, 3, 4, 5])]
-- 39: PrimeCertificates.power:(IIII)I
def zo_39 : List (Nat × Nat × dzOp) := [
  (0, 1, .iload 1, .null, [], []),
  (1, 2, .iload 2, .null, [], []),
  (2, 4, .iload 4, .null, [], []),
  (4, 7, .invokestatic 0, .null, [], [12, 3, 1]),
  (7, 10, .ifCond .eq 0, .null, [], [17]),
  (10, 11, .iload 3, .null, [], []),
  (11, 14, .invokestatic 0, .null, [], [8, 1, 1]),
  (14, 17, .ifCond .ne 0, .null, [], [19]),
  (17, 18, .nop, .int (-1 : Int32), [], []),
  (18, 19, .ireturn, .null, [], [0]),
  (19, 20, .aload 0, .null, [], []),
  (20, 23, .getfield 0, .null, [], [0, 0, 3]),
  (23, 24, .iload 3, .null, [], []),
  (24, 25, .aaload, .null, [], []),
  (25, 28, .invokestatic 0, .null, [], [24, 1, 1]),
  (28, 31, .ifCond .eq 0, .null, [], [34]),
  (31, 33, .nop, .int (-2 : Int32), [], []),
  (33, 34, .ireturn, .null, [], [0]),
  (34, 35, .aload 0, .null, [], []),
  (35, 38, .getfield 0, .null, [], [0, 3, 3]),
  (38, 39, .aload 0, .null, [], []),
  (39, 42, .getfield 0, .null, [], [0, 0, 3]),
  (42, 43, .iload 1, .null, [], []),
  (43, 44, .aaload, .null, [], []),
  (44, 45, .aload 0, .null, [], []),
  (45, 48, .getfield 0, .null, [], [0, 0, 3]),
  (48, 49, .iload 2, .null, [], []),
  (49, 50, .aaload, .null, [], []),
  (50, 51, .aload 0, .null, [], []),
  (51, 54, .getfield 0, .null, [], [0, 0, 3]),
  (54, 55, .iload 3, .null, [], []),
  (55, 56, .aaload, .null, [], []),
  (56, 57, .aload 0, .null, [], []),
  (57, 60, .getfield 0, .null, [], [0, 1, 3]),
  (60, 63, .invokestatic 0, .null, [], [38, 5, 0]),
  (63, 64, .aload 0, .null, [], []),
  (64, 66, .iload 4, .null, [], []),
  (66, 69, .invokestatic 0, .null, [], [15, 2, 1]),
  (69, 70, .ireturn, .null, [], [0])]
def zh_39 : List (Nat × List Nat) := []
-- 40: PrimeCertificates$Sums.greatestDivisor:([I[I[I)V
def zo_40 : List (Nat × Nat × dzOp) := [
  (0, 1, .aload 1, .null, [], []),
  (1, 2, .aload 0, .null, [], []),
  (2, 5, .getfield 0, .null, [], [6, 7, 3]),
  (5, 8, .invokestatic 0, .null, [], [14, 2, 0]),
  (8, 9, .aload 2, .null, [], []),
  (9, 10, .aload 0, .null, [], []),
  (10, 13, .getfield 0, .null, [], [6, 8, 3]),
  (13, 16, .invokestatic 0, .null, [], [14, 2, 0]),
  (16, 17, .nop, .int (0 : Int32), [], []),
  (17, 19, .istore 4, .null, [], []),
  (19, 21, .iload 4, .null, [], []),
  (21, 24, .nop, .int (1000 : Int32), [], []),
  (24, 27, .if_icmp .ge 0, .null, [], [85]),
  (27, 28, .aload 0, .null, [], []),
  (28, 31, .getfield 0, .null, [], [6, 8, 3]),
  (31, 34, .invokestatic 0, .null, [], [24, 1, 1]),
  (34, 37, .ifCond .ne 0, .null, [], [85]),
  (37, 38, .aload 0, .null, [], []),
  (38, 39, .aload 0, .null, [], []),
  (39, 42, .getfield 0, .null, [], [6, 8, 3]),
  (42, 45, .invokestatic 0, .null, [], [27, 2, 0]),
  (45, 46, .aload 0, .null, [], []),
  (46, 47, .aload 0, .null, [], []),
  (47, 50, .getfield 0, .null, [], [6, 7, 3]),
  (50, 53, .invokestatic 0, .null, [], [28, 2, 0]),
  (53, 54, .aload 0, .null, [], []),
  (54, 57, .invokestatic 0, .null, [], [34, 1, 0]),
  (57, 58, .aload 0, .null, [], []),
  (58, 61, .getfield 0, .null, [], [6, 8, 3]),
  (61, 62, .aload 0, .null, [], []),
  (62, 65, .getfield 0, .null, [], [6, 7, 3]),
  (65, 68, .invokestatic 0, .null, [], [14, 2, 0]),
  (68, 69, .aload 0, .null, [], []),
  (69, 72, .getfield 0, .null, [], [6, 0, 3]),
  (72, 73, .aload 0, .null, [], []),
  (73, 76, .getfield 0, .null, [], [6, 8, 3]),
  (76, 79, .invokestatic 0, .null, [], [14, 2, 0]),
  (79, 82, .iinc 4 0, .int (1 : Int32), [], []),
  (82, 85, .goto 0, .null, [], [19]),
  (85, 86, .aload 0, .null, [], []),
  (86, 89, .getfield 0, .null, [], [6, 7, 3]),
  (89, 90, .aload 3, .null, [], []),
  (90, 93, .invokestatic 0, .null, [], [14, 2, 0]),
  (93, 94, .return_, .null, [], [])]
def zh_40 : List (Nat × List Nat) := [(19, [0, 1, 2, 3, 4]), (85, [0, 1, 2, 3, 4])]
-- 41: PrimeCertificates.common:(III)I
def zo_41 : List (Nat × Nat × dzOp) := [
  (0, 1, .iload 1, .null, [], []),
  (1, 2, .iload 2, .null, [], []),
  (2, 3, .iload 3, .null, [], []),
  (3, 6, .invokestatic 0, .null, [], [12, 3, 1]),
  (6, 9, .ifCond .ne 0, .null, [], [11]),
  (9, 10, .nop, .int (-1 : Int32), [], []),
  (10, 11, .ireturn, .null, [], [0]),
  (11, 12, .aload 0, .null, [], []),
  (12, 15, .getfield 0, .null, [], [0, 3, 3]),
  (15, 16, .aload 0, .null, [], []),
  (16, 19, .getfield 0, .null, [], [0, 0, 3]),
  (19, 20, .iload 1, .null, [], []),
  (20, 21, .aaload, .null, [], []),
  (21, 22, .aload 0, .null, [], []),
  (22, 25, .getfield 0, .null, [], [0, 0, 3]),
  (25, 26, .iload 2, .null, [], []),
  (26, 27, .aaload, .null, [], []),
  (27, 28, .aload 0, .null, [], []),
  (28, 31, .getfield 0, .null, [], [0, 1, 3]),
  (31, 34, .invokestatic 0, .null, [], [40, 4, 0]),
  (34, 35, .aload 0, .null, [], []),
  (35, 36, .iload 3, .null, [], []),
  (36, 39, .invokestatic 0, .null, [], [15, 2, 1]),
  (39, 40, .ireturn, .null, [], [0])]
def zh_41 : List (Nat × List Nat) := []
-- 42: PrimeCertificates$Sums.order:([I[I)I
def zo_42 : List (Nat × Nat × dzOp) := [
  (0, 2, .nop, .int (7 : Int32), [], []),
  (2, 3, .istore 2, .null, [], []),
  (3, 4, .iload 2, .null, [], []),
  (4, 7, .ifCond .lt 0, .null, [], [48]),
  (7, 8, .aload 0, .null, [], []),
  (8, 9, .iload 2, .null, [], []),
  (9, 10, .iaload, .null, [], []),
  (10, 11, .aload 1, .null, [], []),
  (11, 12, .iload 2, .null, [], []),
  (12, 13, .iaload, .null, [], []),
  (13, 16, .if_icmp .eq 0, .null, [], [42]),
  (16, 17, .aload 0, .null, [], []),
  (17, 18, .iload 2, .null, [], []),
  (18, 19, .iaload, .null, [], []),
  (19, 20, .i2l, .null, [], []),
  (20, 23, .nop, .long (4294967295 : Int64), [], []),
  (23, 24, .land, .null, [], []),
  (24, 25, .aload 1, .null, [], []),
  (25, 26, .iload 2, .null, [], []),
  (26, 27, .iaload, .null, [], []),
  (27, 28, .i2l, .null, [], []),
  (28, 31, .nop, .long (4294967295 : Int64), [], []),
  (31, 32, .land, .null, [], []),
  (32, 33, .lcmp, .null, [], []),
  (33, 36, .ifCond .ge 0, .null, [], [40]),
  (36, 37, .nop, .int (-1 : Int32), [], []),
  (37, 40, .goto 0, .null, [], [41]),
  (40, 41, .nop, .int (1 : Int32), [], []),
  (41, 42, .ireturn, .null, [], [0]),
  (42, 45, .iinc 2 0, .int (-1 : Int32), [], []),
  (45, 48, .goto 0, .null, [], [3]),
  (48, 49, .nop, .int (0 : Int32), [], []),
  (49, 50, .ireturn, .null, [], [0])]
def zh_42 : List (Nat × List Nat) := [(3, [0, 1, 2])]
-- 43: PrimeCertificates.compare:(II)I
def zo_43 : List (Nat × Nat × dzOp) := [
  (0, 1, .iload 1, .null, [], []),
  (1, 4, .invokestatic 0, .null, [], [8, 1, 1]),
  (4, 7, .ifCond .eq 0, .null, [], [14]),
  (7, 8, .iload 2, .null, [], []),
  (8, 11, .invokestatic 0, .null, [], [8, 1, 1]),
  (11, 14, .ifCond .ne 0, .null, [], [16]),
  (14, 15, .nop, .int (2 : Int32), [], []),
  (15, 16, .ireturn, .null, [], [0]),
  (16, 17, .aload 0, .null, [], []),
  (17, 20, .getfield 0, .null, [], [0, 0, 3]),
  (20, 21, .iload 1, .null, [], []),
  (21, 22, .aaload, .null, [], []),
  (22, 23, .aload 0, .null, [], []),
  (23, 26, .getfield 0, .null, [], [0, 0, 3]),
  (26, 27, .iload 2, .null, [], []),
  (27, 28, .aaload, .null, [], []),
  (28, 31, .invokestatic 0, .null, [], [42, 2, 1]),
  (31, 32, .ireturn, .null, [], [0])]
def zh_43 : List (Nat × List Nat) := []
-- 44: PrimeCertificates$Tape.room:()I
def zo_44 : List (Nat × Nat × dzOp) := [
  (0, 3, .nop, .int (4000 : Int32), [], []),
  (3, 4, .aload 0, .null, [], []),
  (4, 7, .getfield 0, .null, [], [7, 1, 1]),
  (7, 8, .isub, .null, [], []),
  (8, 9, .ireturn, .null, [], [0])]
def zh_44 : List (Nat × List Nat) := []
-- 45: PrimeCertificates$Tape.append:(I)V
def zo_45 : List (Nat × Nat × dzOp) := [
  (0, 1, .aload 0, .null, [], []),
  (1, 4, .getfield 0, .null, [], [7, 1, 1]),
  (4, 7, .nop, .int (4000 : Int32), [], []),
  (7, 10, .if_icmp .ge 0, .null, [], [30]),
  (10, 11, .aload 0, .null, [], []),
  (11, 14, .getfield 0, .null, [], [7, 0, 3]),
  (14, 15, .aload 0, .null, [], []),
  (15, 18, .getfield 0, .null, [], [7, 1, 1]),
  (18, 19, .iload 1, .null, [], []),
  (19, 20, .iastore, .null, [], []),
  (20, 21, .aload 0, .null, [], []),
  (21, 22, .dup, .null, [], []),
  (22, 25, .getfield 0, .null, [], [7, 1, 1]),
  (25, 26, .nop, .int (1 : Int32), [], []),
  (26, 27, .iadd, .null, [], []),
  (27, 30, .putfield 0, .null, [], [7, 1, 1]),
  (30, 31, .return_, .null, [], [])]
def zh_45 : List (Nat × List Nat) := []
-- 46: PrimeCertificates.say:(I)I
def zo_46 : List (Nat × Nat × dzOp) := [
  (0, 1, .aload 0, .null, [], []),
  (1, 4, .getfield 0, .null, [], [0, 4, 3]),
  (4, 7, .invokestatic 0, .null, [], [44, 1, 1]),
  (7, 10, .ifCond .ne 0, .null, [], [13]),
  (10, 12, .nop, .int (-3 : Int32), [], []),
  (12, 13, .ireturn, .null, [], [0]),
  (13, 14, .aload 0, .null, [], []),
  (14, 17, .getfield 0, .null, [], [0, 4, 3]),
  (17, 18, .iload 1, .null, [], []),
  (18, 21, .invokestatic 0, .null, [], [45, 2, 0]),
  (21, 22, .aload 0, .null, [], []),
  (22, 25, .getfield 0, .null, [], [0, 4, 3]),
  (25, 28, .getfield 0, .null, [], [7, 1, 1]),
  (28, 29, .ireturn, .null, [], [0])]
def zh_46 : List (Nat × List Nat) := []
-- 47: PrimeCertificates$Lines.forgetBehind:(I)V
def zo_47 : List (Nat × Nat × dzOp) := [
  (0, 1, .aload 0, .null, [], []),
  (1, 4, .getfield 0, .null, [], [4, 2, 1]),
  (4, 7, .ifCond .le 0, .null, [], [35]),
  (7, 8, .aload 0, .null, [], []),
  (8, 11, .getfield 0, .null, [], [4, 1, 3]),
  (11, 12, .aload 0, .null, [], []),
  (12, 15, .getfield 0, .null, [], [4, 2, 1]),
  (15, 16, .nop, .int (1 : Int32), [], []),
  (16, 17, .isub, .null, [], []),
  (17, 18, .iaload, .null, [], []),
  (18, 19, .iload 1, .null, [], []),
  (19, 22, .if_icmp .le 0, .null, [], [35]),
  (22, 23, .aload 0, .null, [], []),
  (23, 24, .dup, .null, [], []),
  (24, 27, .getfield 0, .null, [], [4, 2, 1]),
  (27, 28, .nop, .int (1 : Int32), [], []),
  (28, 29, .isub, .null, [], []),
  (29, 32, .putfield 0, .null, [], [4, 2, 1]),
  (32, 35, .goto 0, .null, [], [0]),
  (35, 36, .return_, .null, [], [])]
def zh_47 : List (Nat × List Nat) := [(0, [0, 1])]
-- 48: PrimeCertificates.cut:(I)Z
def zo_48 : List (Nat × Nat × dzOp) := [
  (0, 1, .iload 1, .null, [], []),
  (1, 4, .ifCond .lt 0, .null, [], [15]),
  (4, 5, .iload 1, .null, [], []),
  (5, 6, .aload 0, .null, [], []),
  (6, 9, .getfield 0, .null, [], [0, 4, 3]),
  (9, 12, .getfield 0, .null, [], [7, 1, 1]),
  (12, 15, .if_icmp .le 0, .null, [], [17]),
  (15, 16, .nop, .int (0 : Int32), [], []),
  (16, 17, .ireturn, .null, [], [1]),
  (17, 18, .aload 0, .null, [], []),
  (18, 21, .getfield 0, .null, [], [0, 4, 3]),
  (21, 22, .iload 1, .null, [], []),
  (22, 25, .putfield 0, .null, [], [7, 1, 1]),
  (25, 26, .aload 0, .null, [], []),
  (26, 29, .getfield 0, .null, [], [0, 5, 3]),
  (29, 30, .iload 1, .null, [], []),
  (30, 33, .invokestatic 0, .null, [], [47, 2, 0]),
  (33, 34, .nop, .int (1 : Int32), [], []),
  (34, 35, .ireturn, .null, [], [1])]
def zh_48 : List (Nat × List Nat) := []
-- 49: PrimeCertificates.length:()I
def zo_49 : List (Nat × Nat × dzOp) := [
  (0, 1, .aload 0, .null, [], []),
  (1, 4, .getfield 0, .null, [], [0, 4, 3]),
  (4, 7, .getfield 0, .null, [], [7, 1, 1]),
  (7, 8, .ireturn, .null, [], [0])]
def zh_49 : List (Nat × List Nat) := []
-- 50: PrimeCertificates.at:(I)I
def zo_50 : List (Nat × Nat × dzOp) := [
  (0, 1, .iload 1, .null, [], []),
  (1, 4, .ifCond .lt 0, .null, [], [27]),
  (4, 5, .iload 1, .null, [], []),
  (5, 6, .aload 0, .null, [], []),
  (6, 9, .getfield 0, .null, [], [0, 4, 3]),
  (9, 12, .getfield 0, .null, [], [7, 1, 1]),
  (12, 15, .if_icmp .ge 0, .null, [], [27]),
  (15, 16, .aload 0, .null, [], []),
  (16, 19, .getfield 0, .null, [], [0, 4, 3]),
  (19, 22, .getfield 0, .null, [], [7, 0, 3]),
  (22, 23, .iload 1, .null, [], []),
  (23, 24, .iaload, .null, [], []),
  (24, 27, .goto 0, .null, [], [28]),
  (27, 28, .nop, .int (0 : Int32), [], []),
  (28, 29, .ireturn, .null, [], [0])]
def zh_50 : List (Nat × List Nat) := []
-- 51: PrimeCertificates$Lines.end:()I
def zo_51 : List (Nat × Nat × dzOp) := [
  (0, 1, .aload 0, .null, [], []),
  (1, 4, .getfield 0, .null, [], [4, 2, 1]),
  (4, 7, .ifCond .ne 0, .null, [], [11]),
  (7, 8, .nop, .int (0 : Int32), [], []),
  (8, 11, .goto 0, .null, [], [22]),
  (11, 12, .aload 0, .null, [], []),
  (12, 15, .getfield 0, .null, [], [4, 1, 3]),
  (15, 16, .aload 0, .null, [], []),
  (16, 19, .getfield 0, .null, [], [4, 2, 1]),
  (19, 20, .nop, .int (1 : Int32), [], []),
  (20, 21, .isub, .null, [], []),
  (21, 22, .iaload, .null, [], []),
  (22, 23, .ireturn, .null, [], [0])]
def zh_51 : List (Nat × List Nat) := []
-- 52: PrimeCertificates$Checker.refuse:(II)Z
def zo_52 : List (Nat × Nat × dzOp) := [
  (0, 1, .aload 0, .null, [], []),
  (1, 2, .iload 1, .null, [], []),
  (2, 5, .putfield 0, .null, [], [2, 11, 1]),
  (5, 6, .aload 0, .null, [], []),
  (6, 7, .iload 2, .null, [], []),
  (7, 10, .putfield 0, .null, [], [2, 12, 1]),
  (10, 11, .nop, .int (0 : Int32), [], []),
  (11, 12, .ireturn, .null, [], [1])]
def zh_52 : List (Nat × List Nat) := []
-- 53: PrimeCertificates$Checker.take:()Z
def zo_53 : List (Nat × Nat × dzOp) := [
  (0, 1, .aload 0, .null, [], []),
  (1, 4, .getfield 0, .null, [], [2, 6, 1]),
  (4, 5, .aload 0, .null, [], []),
  (5, 8, .getfield 0, .null, [], [2, 0, 3]),
  (8, 11, .getfield 0, .null, [], [7, 1, 1]),
  (11, 14, .if_icmp .lt 0, .null, [], [27]),
  (14, 15, .aload 0, .null, [], []),
  (15, 16, .nop, .int (1 : Int32), [], []),
  (16, 17, .aload 0, .null, [], []),
  (17, 20, .getfield 0, .null, [], [2, 0, 3]),
  (20, 23, .getfield 0, .null, [], [7, 1, 1]),
  (23, 26, .invokestatic 0, .null, [], [52, 3, 1]),
  (26, 27, .ireturn, .null, [], [1]),
  (27, 28, .aload 0, .null, [], []),
  (28, 29, .aload 0, .null, [], []),
  (29, 32, .getfield 0, .null, [], [2, 0, 3]),
  (32, 35, .getfield 0, .null, [], [7, 0, 3]),
  (35, 36, .aload 0, .null, [], []),
  (36, 39, .getfield 0, .null, [], [2, 6, 1]),
  (39, 40, .iaload, .null, [], []),
  (40, 43, .putfield 0, .null, [], [2, 7, 1]),
  (43, 44, .aload 0, .null, [], []),
  (44, 45, .dup, .null, [], []),
  (45, 48, .getfield 0, .null, [], [2, 6, 1]),
  (48, 49, .nop, .int (1 : Int32), [], []),
  (49, 50, .iadd, .null, [], []),
  (50, 53, .putfield 0, .null, [], [2, 6, 1]),
  (53, 54, .nop, .int (1 : Int32), [], []),
  (54, 55, .ireturn, .null, [], [1])]
def zh_53 : List (Nat × List Nat) := []
-- 54: PrimeCertificates.isSmallPrime:(I)Z
def zo_54 : List (Nat × Nat × dzOp) := [
  (0, 1, .nop, .int (2 : Int32), [], []),
  (1, 2, .istore 1, .null, [], []),
  (2, 3, .iload 1, .null, [], []),
  (3, 4, .iload 0, .null, [], []),
  (4, 7, .if_icmp .ge 0, .null, [], [28]),
  (7, 8, .iload 1, .null, [], []),
  (8, 9, .iload 1, .null, [], []),
  (9, 10, .imul, .null, [], []),
  (10, 11, .iload 0, .null, [], []),
  (11, 14, .if_icmp .gt 0, .null, [], [28]),
  (14, 15, .iload 0, .null, [], []),
  (15, 16, .iload 1, .null, [], []),
  (16, 17, .irem, .null, [], []),
  (17, 20, .ifCond .ne 0, .null, [], [22]),
  (20, 21, .nop, .int (0 : Int32), [], []),
  (21, 22, .ireturn, .null, [], [1]),
  (22, 25, .iinc 1 0, .int (1 : Int32), [], []),
  (25, 28, .goto 0, .null, [], [2]),
  (28, 29, .iload 0, .null, [], []),
  (29, 30, .nop, .int (2 : Int32), [], []),
  (30, 33, .if_icmp .lt 0, .null, [], [37]),
  (33, 34, .nop, .int (1 : Int32), [], []),
  (34, 37, .goto 0, .null, [], [38]),
  (37, 38, .nop, .int (0 : Int32), [], []),
  (38, 39, .ireturn, .null, [], [1])]
def zh_54 : List (Nat × List Nat) := [(2, [0, 1]), (28, [0, 1])]
-- 55: PrimeCertificates$Checker.refuseTaken:(I)Z
def zo_55 : List (Nat × Nat × dzOp) := [
  (0, 1, .aload 0, .null, [], []),
  (1, 2, .iload 1, .null, [], []),
  (2, 3, .aload 0, .null, [], []),
  (3, 6, .getfield 0, .null, [], [2, 6, 1]),
  (6, 7, .nop, .int (1 : Int32), [], []),
  (7, 8, .isub, .null, [], []),
  (8, 11, .invokestatic 0, .null, [], [52, 3, 1]),
  (11, 12, .ireturn, .null, [], [1])]
def zh_55 : List (Nat × List Nat) := []
-- 56: PrimeCertificates$Checker.readSmallPrime:([I)Z
def zo_56 : List (Nat × Nat × dzOp) := [
  (0, 1, .aload 0, .null, [], []),
  (1, 4, .invokestatic 0, .null, [], [53, 1, 1]),
  (4, 7, .ifCond .ne 0, .null, [], [9]),
  (7, 8, .nop, .int (0 : Int32), [], []),
  (8, 9, .ireturn, .null, [], [1]),
  (9, 10, .aload 0, .null, [], []),
  (10, 13, .getfield 0, .null, [], [2, 7, 1]),
  (13, 15, .nop, .int (65535 : Int32), [], []),
  (15, 18, .if_icmp .gt 0, .null, [], [28]),
  (18, 19, .aload 0, .null, [], []),
  (19, 22, .getfield 0, .null, [], [2, 7, 1]),
  (22, 25, .invokestatic 0, .null, [], [54, 1, 1]),
  (25, 28, .ifCond .ne 0, .null, [], [34]),
  (28, 29, .aload 0, .null, [], []),
  (29, 30, .nop, .int (3 : Int32), [], []),
  (30, 33, .invokestatic 0, .null, [], [55, 2, 1]),
  (33, 34, .ireturn, .null, [], [1]),
  (34, 35, .aload 1, .null, [], []),
  (35, 36, .aload 0, .null, [], []),
  (36, 39, .getfield 0, .null, [], [2, 7, 1]),
  (39, 42, .invokestatic 0, .null, [], [37, 2, 0]),
  (42, 43, .nop, .int (1 : Int32), [], []),
  (43, 44, .ireturn, .null, [], [1])]
def zh_56 : List (Nat × List Nat) := [(28, [0, 1])]
-- 57: PrimeCertificates$Sums.isAtMost:([II)Z
def zo_57 : List (Nat × Nat × dzOp) := [
  (0, 1, .aload 0, .null, [], []),
  (1, 4, .invokestatic 0, .null, [], [19, 1, 1]),
  (4, 5, .nop, .int (1 : Int32), [], []),
  (5, 8, .if_icmp .gt 0, .null, [], [26]),
  (8, 9, .aload 0, .null, [], []),
  (9, 10, .nop, .int (0 : Int32), [], []),
  (10, 11, .iaload, .null, [], []),
  (11, 12, .i2l, .null, [], []),
  (12, 15, .nop, .long (4294967295 : Int64), [], []),
  (15, 16, .land, .null, [], []),
  (16, 17, .iload 1, .null, [], []),
  (17, 18, .i2l, .null, [], []),
  (18, 19, .lcmp, .null, [], []),
  (19, 22, .ifCond .gt 0, .null, [], [26]),
  (22, 23, .nop, .int (1 : Int32), [], []),
  (23, 26, .goto 0, .null, [], [27]),
  (26, 27, .nop, .int (0 : Int32), [], []),
  (27, 28, .ireturn, .null, [], [1])]
def zh_57 : List (Nat × List Nat) := []
-- 58: PrimeCertificates$Checker.readNumber:([I)Z
def zo_58 : List (Nat × Nat × dzOp) := [
  (0, 1, .aload 0, .null, [], []),
  (1, 4, .invokestatic 0, .null, [], [53, 1, 1]),
  (4, 7, .ifCond .ne 0, .null, [], [9]),
  (7, 8, .nop, .int (0 : Int32), [], []),
  (8, 9, .ireturn, .null, [], [1]),
  (9, 10, .aload 0, .null, [], []),
  (10, 13, .getfield 0, .null, [], [2, 6, 1]),
  (13, 14, .nop, .int (1 : Int32), [], []),
  (14, 15, .isub, .null, [], []),
  (15, 16, .istore 2, .null, [], []),
  (16, 17, .aload 0, .null, [], []),
  (17, 20, .getfield 0, .null, [], [2, 7, 1]),
  (20, 21, .istore 3, .null, [], []),
  (21, 22, .iload 3, .null, [], []),
  (22, 23, .nop, .int (1 : Int32), [], []),
  (23, 26, .if_icmp .lt 0, .null, [], [32]),
  (26, 27, .iload 3, .null, [], []),
  (27, 29, .nop, .int (8 : Int32), [], []),
  (29, 32, .if_icmp .le 0, .null, [], [38]),
  (32, 33, .aload 0, .null, [], []),
  (33, 34, .nop, .int (2 : Int32), [], []),
  (34, 37, .invokestatic 0, .null, [], [55, 2, 1]),
  (37, 38, .ireturn, .null, [], [1]),
  (38, 39, .aload 1, .null, [], []),
  (39, 40, .nop, .int (0 : Int32), [], []),
  (40, 43, .invokestatic 0, .null, [], [20, 2, 0]),
  (43, 44, .nop, .int (0 : Int32), [], []),
  (44, 46, .istore 4, .null, [], []),
  (46, 48, .iload 4, .null, [], []),
  (48, 49, .iload 3, .null, [], []),
  (49, 52, .if_icmp .ge 0, .null, [], [75]),
  (52, 53, .aload 0, .null, [], []),
  (53, 56, .invokestatic 0, .null, [], [53, 1, 1]),
  (56, 59, .ifCond .ne 0, .null, [], [61]),
  (59, 60, .nop, .int (0 : Int32), [], []),
  (60, 61, .ireturn, .null, [], [1]),
  (61, 62, .aload 1, .null, [], []),
  (62, 64, .iload 4, .null, [], []),
  (64, 65, .aload 0, .null, [], []),
  (65, 68, .getfield 0, .null, [], [2, 7, 1]),
  (68, 69, .iastore, .null, [], []),
  (69, 72, .iinc 4 0, .int (1 : Int32), [], []),
  (72, 75, .goto 0, .null, [], [46]),
  (75, 76, .aload 0, .null, [], []),
  (76, 79, .getfield 0, .null, [], [2, 7, 1]),
  (79, 82, .ifCond .ne 0, .null, [], [88]),
  (82, 83, .aload 0, .null, [], []),
  (83, 84, .nop, .int (2 : Int32), [], []),
  (84, 87, .invokestatic 0, .null, [], [55, 2, 1]),
  (87, 88, .ireturn, .null, [], [1]),
  (88, 89, .aload 1, .null, [], []),
  (89, 90, .nop, .int (2 : Int32), [], []),
  (90, 93, .invokestatic 0, .null, [], [57, 2, 1]),
  (93, 96, .ifCond .eq 0, .null, [], [105]),
  (96, 97, .aload 0, .null, [], []),
  (97, 98, .nop, .int (4 : Int32), [], []),
  (98, 99, .iload 2, .null, [], []),
  (99, 102, .invokestatic 0, .null, [], [52, 3, 1]),
  (102, 105, .ifCond .eq 0, .null, [], [109]),
  (105, 106, .nop, .int (1 : Int32), [], []),
  (106, 109, .goto 0, .null, [], [110]),
  (109, 110, .nop, .int (0 : Int32), [], []),
  (110, 111, .ireturn, .null, [], [1])]
def zh_58 : List (Nat × List Nat) := [(32, [0, 1, 2, 3]), (46, [0, 1, 2, 3, 4]), (105, [0, 1, 2, 3, 4])]
-- 59: PrimeCertificates$Checker.isWitness:(I[I)Z
def zo_59 : List (Nat × Nat × dzOp) := [
  (0, 1, .iload 0, .null, [], []),
  (1, 2, .nop, .int (2 : Int32), [], []),
  (2, 5, .if_icmp .lt 0, .null, [], [17]),
  (5, 6, .aload 1, .null, [], []),
  (6, 7, .iload 0, .null, [], []),
  (7, 10, .invokestatic 0, .null, [], [57, 2, 1]),
  (10, 13, .ifCond .ne 0, .null, [], [17]),
  (13, 14, .nop, .int (1 : Int32), [], []),
  (14, 17, .goto 0, .null, [], [18]),
  (17, 18, .nop, .int (0 : Int32), [], []),
  (18, 19, .ireturn, .null, [], [1])]
def zh_59 : List (Nat × List Nat) := []
-- 60: PrimeCertificates$Checker.readRoot:([I)Z
def zo_60 : List (Nat × Nat × dzOp) := [
  (0, 1, .aload 0, .null, [], []),
  (1, 4, .invokestatic 0, .null, [], [53, 1, 1]),
  (4, 7, .ifCond .ne 0, .null, [], [9]),
  (7, 8, .nop, .int (0 : Int32), [], []),
  (8, 9, .ireturn, .null, [], [1]),
  (9, 10, .aload 0, .null, [], []),
  (10, 11, .aload 0, .null, [], []),
  (11, 14, .getfield 0, .null, [], [2, 7, 1]),
  (14, 17, .putfield 0, .null, [], [2, 9, 1]),
  (17, 18, .aload 0, .null, [], []),
  (18, 21, .getfield 0, .null, [], [2, 9, 1]),
  (21, 22, .aload 1, .null, [], []),
  (22, 25, .invokestatic 0, .null, [], [59, 2, 1]),
  (25, 28, .ifCond .ne 0, .null, [], [37]),
  (28, 29, .aload 0, .null, [], []),
  (29, 31, .nop, .int (8 : Int32), [], []),
  (31, 34, .invokestatic 0, .null, [], [55, 2, 1]),
  (34, 37, .ifCond .eq 0, .null, [], [41]),
  (37, 38, .nop, .int (1 : Int32), [], []),
  (38, 41, .goto 0, .null, [], [42]),
  (41, 42, .nop, .int (0 : Int32), [], []),
  (42, 43, .ireturn, .null, [], [1])]
def zh_60 : List (Nat × List Nat) := [(37, [0, 1])]
-- 61: PrimeCertificates$Checker.factorNumber:(I)[I
def zo_61 : List (Nat × Nat × dzOp) := [
  (0, 1, .aload 0, .null, [], []),
  (1, 4, .getfield 0, .null, [], [2, 1, 3]),
  (4, 7, .getfield 0, .null, [], [4, 0, 3]),
  (7, 8, .aload 0, .null, [], []),
  (8, 11, .getfield 0, .null, [], [2, 4, 3]),
  (11, 14, .getfield 0, .null, [], [3, 0, 3]),
  (14, 15, .iload 1, .null, [], []),
  (15, 16, .iaload, .null, [], []),
  (16, 17, .aaload, .null, [], []),
  (17, 18, .areturn, .null, [], [])]
def zh_61 : List (Nat × List Nat) := []
-- 62: PrimeCertificates$Checker.readFactorLine:(II)Z
def zo_62 : List (Nat × Nat × dzOp) := [
  (0, 1, .aload 0, .null, [], []),
  (1, 4, .invokestatic 0, .null, [], [53, 1, 1]),
  (4, 7, .ifCond .ne 0, .null, [], [9]),
  (7, 8, .nop, .int (0 : Int32), [], []),
  (8, 9, .ireturn, .null, [], [1]),
  (9, 10, .aload 0, .null, [], []),
  (10, 13, .getfield 0, .null, [], [2, 7, 1]),
  (13, 16, .ifCond .lt 0, .null, [], [24]),
  (16, 17, .aload 0, .null, [], []),
  (17, 20, .getfield 0, .null, [], [2, 7, 1]),
  (20, 21, .iload 2, .null, [], []),
  (21, 24, .if_icmp .lt 0, .null, [], [30]),
  (24, 25, .aload 0, .null, [], []),
  (25, 26, .nop, .int (2 : Int32), [], []),
  (26, 29, .invokestatic 0, .null, [], [55, 2, 1]),
  (29, 30, .ireturn, .null, [], [1]),
  (30, 31, .aload 0, .null, [], []),
  (31, 34, .getfield 0, .null, [], [2, 4, 3]),
  (34, 37, .getfield 0, .null, [], [3, 0, 3]),
  (37, 38, .iload 1, .null, [], []),
  (38, 39, .aload 0, .null, [], []),
  (39, 42, .getfield 0, .null, [], [2, 7, 1]),
  (42, 43, .iastore, .null, [], []),
  (43, 44, .iload 1, .null, [], []),
  (44, 47, .ifCond .eq 0, .null, [], [73]),
  (47, 48, .aload 0, .null, [], []),
  (48, 49, .iload 1, .null, [], []),
  (49, 50, .nop, .int (1 : Int32), [], []),
  (50, 51, .isub, .null, [], []),
  (51, 54, .invokestatic 0, .null, [], [61, 2, 3]),
  (54, 55, .aload 0, .null, [], []),
  (55, 56, .iload 1, .null, [], []),
  (56, 59, .invokestatic 0, .null, [], [61, 2, 3]),
  (59, 62, .invokestatic 0, .null, [], [42, 2, 1]),
  (62, 65, .ifCond .lt 0, .null, [], [73]),
  (65, 66, .aload 0, .null, [], []),
  (66, 67, .nop, .int (5 : Int32), [], []),
  (67, 70, .invokestatic 0, .null, [], [55, 2, 1]),
  (70, 73, .ifCond .eq 0, .null, [], [77]),
  (73, 74, .nop, .int (1 : Int32), [], []),
  (74, 77, .goto 0, .null, [], [78]),
  (77, 78, .nop, .int (0 : Int32), [], []),
  (78, 79, .ireturn, .null, [], [1])]
def zh_62 : List (Nat × List Nat) := [(24, [0, 1, 2]), (73, [0, 1, 2])]
-- 63: PrimeCertificates$Checker.readExponent:(I)Z
def zo_63 : List (Nat × Nat × dzOp) := [
  (0, 1, .aload 0, .null, [], []),
  (1, 4, .invokestatic 0, .null, [], [53, 1, 1]),
  (4, 7, .ifCond .ne 0, .null, [], [9]),
  (7, 8, .nop, .int (0 : Int32), [], []),
  (8, 9, .ireturn, .null, [], [1]),
  (9, 10, .aload 0, .null, [], []),
  (10, 13, .getfield 0, .null, [], [2, 4, 3]),
  (13, 16, .getfield 0, .null, [], [3, 1, 3]),
  (16, 17, .iload 1, .null, [], []),
  (17, 18, .aload 0, .null, [], []),
  (18, 21, .getfield 0, .null, [], [2, 7, 1]),
  (21, 22, .iastore, .null, [], []),
  (22, 23, .aload 0, .null, [], []),
  (23, 26, .getfield 0, .null, [], [2, 7, 1]),
  (26, 27, .nop, .int (1 : Int32), [], []),
  (27, 30, .if_icmp .lt 0, .null, [], [40]),
  (30, 31, .aload 0, .null, [], []),
  (31, 34, .getfield 0, .null, [], [2, 7, 1]),
  (34, 37, .nop, .int (255 : Int32), [], []),
  (37, 40, .if_icmp .le 0, .null, [], [48]),
  (40, 41, .aload 0, .null, [], []),
  (41, 42, .nop, .int (2 : Int32), [], []),
  (42, 45, .invokestatic 0, .null, [], [55, 2, 1]),
  (45, 48, .ifCond .eq 0, .null, [], [52]),
  (48, 49, .nop, .int (1 : Int32), [], []),
  (49, 52, .goto 0, .null, [], [53]),
  (52, 53, .nop, .int (0 : Int32), [], []),
  (53, 54, .ireturn, .null, [], [1])]
def zh_63 : List (Nat × List Nat) := [(40, [0, 1]), (48, [0, 1])]
-- 64: PrimeCertificates$Checker.readFactors:(I)Z
def zo_64 : List (Nat × Nat × dzOp) := [
  (0, 1, .aload 0, .null, [], []),
  (1, 4, .invokestatic 0, .null, [], [53, 1, 1]),
  (4, 7, .ifCond .ne 0, .null, [], [9]),
  (7, 8, .nop, .int (0 : Int32), [], []),
  (8, 9, .ireturn, .null, [], [1]),
  (9, 10, .aload 0, .null, [], []),
  (10, 13, .getfield 0, .null, [], [2, 7, 1]),
  (13, 14, .nop, .int (1 : Int32), [], []),
  (14, 17, .if_icmp .lt 0, .null, [], [26]),
  (17, 18, .aload 0, .null, [], []),
  (18, 21, .getfield 0, .null, [], [2, 7, 1]),
  (21, 23, .nop, .int (40 : Int32), [], []),
  (23, 26, .if_icmp .le 0, .null, [], [32]),
  (26, 27, .aload 0, .null, [], []),
  (27, 28, .nop, .int (2 : Int32), [], []),
  (28, 31, .invokestatic 0, .null, [], [55, 2, 1]),
  (31, 32, .ireturn, .null, [], [1]),
  (32, 33, .aload 0, .null, [], []),
  (33, 34, .aload 0, .null, [], []),
  (34, 37, .getfield 0, .null, [], [2, 6, 1]),
  (37, 38, .nop, .int (1 : Int32), [], []),
  (38, 39, .isub, .null, [], []),
  (39, 42, .putfield 0, .null, [], [2, 10, 1]),
  (42, 43, .aload 0, .null, [], []),
  (43, 46, .getfield 0, .null, [], [2, 4, 3]),
  (46, 47, .aload 0, .null, [], []),
  (47, 50, .getfield 0, .null, [], [2, 7, 1]),
  (50, 53, .putfield 0, .null, [], [3, 3, 1]),
  (53, 54, .nop, .int (0 : Int32), [], []),
  (54, 55, .istore 2, .null, [], []),
  (55, 56, .iload 2, .null, [], []),
  (56, 57, .aload 0, .null, [], []),
  (57, 60, .getfield 0, .null, [], [2, 4, 3]),
  (60, 63, .getfield 0, .null, [], [3, 3, 1]),
  (63, 66, .if_icmp .ge 0, .null, [], [121]),
  (66, 67, .aload 0, .null, [], []),
  (67, 68, .iload 2, .null, [], []),
  (68, 69, .iload 1, .null, [], []),
  (69, 72, .invokestatic 0, .null, [], [62, 3, 1]),
  (72, 75, .ifCond .eq 0, .null, [], [83]),
  (75, 76, .aload 0, .null, [], []),
  (76, 77, .iload 2, .null, [], []),
  (77, 80, .invokestatic 0, .null, [], [63, 2, 1]),
  (80, 83, .ifCond .ne 0, .null, [], [85]),
  (83, 84, .nop, .int (0 : Int32), [], []),
  (84, 85, .ireturn, .null, [], [1]),
  (85, 86, .aload 0, .null, [], []),
  (86, 89, .getfield 0, .null, [], [2, 8, 1]),
  (89, 90, .nop, .int (3 : Int32), [], []),
  (90, 93, .if_icmp .ne 0, .null, [], [115]),
  (93, 94, .aload 0, .null, [], []),
  (94, 97, .invokestatic 0, .null, [], [53, 1, 1]),
  (97, 100, .ifCond .ne 0, .null, [], [102]),
  (100, 101, .nop, .int (0 : Int32), [], []),
  (101, 102, .ireturn, .null, [], [1]),
  (102, 103, .aload 0, .null, [], []),
  (103, 106, .getfield 0, .null, [], [2, 4, 3]),
  (106, 109, .getfield 0, .null, [], [3, 2, 3]),
  (109, 110, .iload 2, .null, [], []),
  (110, 111, .aload 0, .null, [], []),
  (111, 114, .getfield 0, .null, [], [2, 7, 1]),
  (114, 115, .iastore, .null, [], []),
  (115, 118, .iinc 2 0, .int (1 : Int32), [], []),
  (118, 121, .goto 0, .null, [], [55]),
  (121, 122, .nop, .int (1 : Int32), [], []),
  (122, 123, .ireturn, .null, [], [1])]
def zh_64 : List (Nat × List Nat) := [(26, [0, 1]), (55, [0, 1, 2]), (115, [0, 1, 2])]
-- 65: PrimeCertificates$Checker.readLine:(I)Z
def zo_65 : List (Nat × Nat × dzOp) := [
  (0, 1, .aload 0, .null, [], []),
  (1, 4, .invokestatic 0, .null, [], [53, 1, 1]),
  (4, 7, .ifCond .ne 0, .null, [], [9]),
  (7, 8, .nop, .int (0 : Int32), [], []),
  (8, 9, .ireturn, .null, [], [1]),
  (9, 10, .aload 0, .null, [], []),
  (10, 11, .aload 0, .null, [], []),
  (11, 14, .getfield 0, .null, [], [2, 7, 1]),
  (14, 17, .putfield 0, .null, [], [2, 8, 1]),
  (17, 18, .aload 0, .null, [], []),
  (18, 21, .getfield 0, .null, [], [2, 1, 3]),
  (21, 24, .getfield 0, .null, [], [4, 0, 3]),
  (24, 25, .iload 1, .null, [], []),
  (25, 26, .aaload, .null, [], []),
  (26, 27, .astore 2, .null, [], []),
  (27, 28, .aload 0, .null, [], []),
  (28, 31, .getfield 0, .null, [], [2, 8, 1]),
  (31, 56, .lookupswitch 0 #[], .null, [(1, 56), (2, 62), (3, 92)], [114]),
  (56, 57, .aload 0, .null, [], []),
  (57, 58, .aload 2, .null, [], []),
  (58, 61, .invokestatic 0, .null, [], [56, 2, 1]),
  (61, 62, .ireturn, .null, [], [1]),
  (62, 63, .aload 0, .null, [], []),
  (63, 64, .aload 2, .null, [], []),
  (64, 67, .invokestatic 0, .null, [], [58, 2, 1]),
  (67, 70, .ifCond .eq 0, .null, [], [90]),
  (70, 71, .aload 0, .null, [], []),
  (71, 72, .aload 2, .null, [], []),
  (72, 75, .invokestatic 0, .null, [], [60, 2, 1]),
  (75, 78, .ifCond .eq 0, .null, [], [90]),
  (78, 79, .aload 0, .null, [], []),
  (79, 80, .iload 1, .null, [], []),
  (80, 83, .invokestatic 0, .null, [], [64, 2, 1]),
  (83, 86, .ifCond .eq 0, .null, [], [90]),
  (86, 87, .nop, .int (1 : Int32), [], []),
  (87, 90, .goto 0, .null, [], [91]),
  (90, 91, .nop, .int (0 : Int32), [], []),
  (91, 92, .ireturn, .null, [], [1]),
  (92, 93, .aload 0, .null, [], []),
  (93, 94, .aload 2, .null, [], []),
  (94, 97, .invokestatic 0, .null, [], [58, 2, 1]),
  (97, 100, .ifCond .eq 0, .null, [], [112]),
  (100, 101, .aload 0, .null, [], []),
  (101, 102, .iload 1, .null, [], []),
  (102, 105, .invokestatic 0, .null, [], [64, 2, 1]),
  (105, 108, .ifCond .eq 0, .null, [], [112]),
  (108, 109, .nop, .int (1 : Int32), [], []),
  (109, 112, .goto 0, .null, [], [113]),
  (112, 113, .nop, .int (0 : Int32), [], []),
  (113, 114, .ireturn, .null, [], [1]),
  (114, 115, .aload 0, .null, [], []),
  (115, 116, .nop, .int (2 : Int32), [], []),
  (116, 119, .invokestatic 0, .null, [], [55, 2, 1]),
  (119, 120, .ireturn, .null, [], [1])]
def zh_65 : List (Nat × List Nat) := []
-- 66: PrimeCertificates$Trial.begin:([I)V
def zo_66 : List (Nat × Nat × dzOp) := [
  (0, 1, .aload 1, .null, [], []),
  (1, 2, .aload 0, .null, [], []),
  (2, 5, .getfield 0, .null, [], [8, 1, 3]),
  (5, 8, .invokestatic 0, .null, [], [14, 2, 0]),
  (8, 9, .aload 0, .null, [], []),
  (9, 12, .getfield 0, .null, [], [8, 1, 3]),
  (12, 13, .aload 0, .null, [], []),
  (13, 16, .getfield 0, .null, [], [8, 3, 3]),
  (16, 17, .aload 0, .null, [], []),
  (17, 20, .getfield 0, .null, [], [8, 2, 3]),
  (20, 23, .invokestatic 0, .null, [], [17, 3, 1]),
  (23, 24, .pop, .null, [], []),
  (24, 25, .return_, .null, [], [])]
def zh_66 : List (Nat × List Nat) := []
-- 67: PrimeCertificates$Checker.multiplyFactors:()Z
def zo_67 : List (Nat × Nat × dzOp) := [
  (0, 1, .aload 0, .null, [], []),
  (1, 4, .getfield 0, .null, [], [2, 5, 3]),
  (4, 5, .nop, .int (1 : Int32), [], []),
  (5, 8, .invokestatic 0, .null, [], [37, 2, 0]),
  (8, 9, .nop, .int (0 : Int32), [], []),
  (9, 10, .istore 1, .null, [], []),
  (10, 11, .iload 1, .null, [], []),
  (11, 12, .aload 0, .null, [], []),
  (12, 15, .getfield 0, .null, [], [2, 4, 3]),
  (15, 18, .getfield 0, .null, [], [3, 3, 1]),
  (18, 21, .if_icmp .ge 0, .null, [], [73]),
  (21, 22, .nop, .int (0 : Int32), [], []),
  (22, 23, .istore 2, .null, [], []),
  (23, 24, .iload 2, .null, [], []),
  (24, 25, .aload 0, .null, [], []),
  (25, 28, .getfield 0, .null, [], [2, 4, 3]),
  (28, 31, .getfield 0, .null, [], [3, 1, 3]),
  (31, 32, .iload 1, .null, [], []),
  (32, 33, .iaload, .null, [], []),
  (33, 36, .if_icmp .ge 0, .null, [], [67]),
  (36, 37, .aload 0, .null, [], []),
  (37, 40, .getfield 0, .null, [], [2, 2, 3]),
  (40, 41, .aload 0, .null, [], []),
  (41, 44, .getfield 0, .null, [], [2, 5, 3]),
  (44, 45, .aload 0, .null, [], []),
  (45, 46, .iload 1, .null, [], []),
  (46, 49, .invokestatic 0, .null, [], [61, 2, 3]),
  (49, 50, .aload 0, .null, [], []),
  (50, 53, .getfield 0, .null, [], [2, 5, 3]),
  (53, 56, .invokestatic 0, .null, [], [22, 4, 1]),
  (56, 59, .ifCond .ne 0, .null, [], [61]),
  (59, 60, .nop, .int (0 : Int32), [], []),
  (60, 61, .ireturn, .null, [], [1]),
  (61, 64, .iinc 2 0, .int (1 : Int32), [], []),
  (64, 67, .goto 0, .null, [], [23]),
  (67, 70, .iinc 1 0, .int (1 : Int32), [], []),
  (70, 73, .goto 0, .null, [], [10]),
  (73, 74, .nop, .int (1 : Int32), [], []),
  (74, 75, .ireturn, .null, [], [1])]
def zh_67 : List (Nat × List Nat) := [(10, [0, 1]), (23, [0, 1, 2])]
-- 68: PrimeCertificates$Sums.divides:([I[I)Z
def zo_68 : List (Nat × Nat × dzOp) := [
  (0, 1, .aload 0, .null, [], []),
  (1, 2, .aload 1, .null, [], []),
  (2, 5, .invokestatic 0, .null, [], [27, 2, 0]),
  (5, 6, .aload 0, .null, [], []),
  (6, 7, .aload 2, .null, [], []),
  (7, 10, .invokestatic 0, .null, [], [28, 2, 0]),
  (10, 11, .aload 0, .null, [], []),
  (11, 14, .invokestatic 0, .null, [], [34, 1, 0]),
  (14, 15, .aload 0, .null, [], []),
  (15, 18, .getfield 0, .null, [], [6, 0, 3]),
  (18, 21, .invokestatic 0, .null, [], [24, 1, 1]),
  (21, 22, .ireturn, .null, [], [1])]
def zh_68 : List (Nat × List Nat) := []
-- 69: PrimeCertificates$Sums.squareIsAbove:([I[I)Z
def zo_69 : List (Nat × Nat × dzOp) := [
  (0, 1, .aload 0, .null, [], []),
  (1, 2, .aload 1, .null, [], []),
  (2, 3, .aload 1, .null, [], []),
  (3, 6, .invokestatic 0, .null, [], [21, 3, 0]),
  (6, 7, .aload 0, .null, [], []),
  (7, 10, .getfield 0, .null, [], [6, 0, 3]),
  (10, 13, .invokestatic 0, .null, [], [19, 1, 1]),
  (13, 15, .nop, .int (8 : Int32), [], []),
  (15, 18, .if_icmp .gt 0, .null, [], [29]),
  (18, 19, .aload 0, .null, [], []),
  (19, 22, .getfield 0, .null, [], [6, 0, 3]),
  (22, 23, .aload 2, .null, [], []),
  (23, 26, .invokestatic 0, .null, [], [42, 2, 1]),
  (26, 29, .ifCond .le 0, .null, [], [33]),
  (29, 30, .nop, .int (1 : Int32), [], []),
  (30, 33, .goto 0, .null, [], [34]),
  (33, 34, .nop, .int (0 : Int32), [], []),
  (34, 35, .ireturn, .null, [], [1])]
def zh_69 : List (Nat × List Nat) := [(29, [0, 1, 2])]
-- 70: PrimeCertificates$Checker.productHolds:()Z
def zo_70 : List (Nat × Nat × dzOp) := [
  (0, 1, .aload 0, .null, [], []),
  (1, 4, .invokestatic 0, .null, [], [67, 1, 1]),
  (4, 7, .ifCond .ne 0, .null, [], [18]),
  (7, 8, .aload 0, .null, [], []),
  (8, 10, .nop, .int (6 : Int32), [], []),
  (10, 11, .aload 0, .null, [], []),
  (11, 14, .getfield 0, .null, [], [2, 10, 1]),
  (14, 17, .invokestatic 0, .null, [], [52, 3, 1]),
  (17, 18, .ireturn, .null, [], [1]),
  (18, 19, .aload 0, .null, [], []),
  (19, 22, .getfield 0, .null, [], [2, 8, 1]),
  (22, 23, .nop, .int (2 : Int32), [], []),
  (23, 26, .if_icmp .ne 0, .null, [], [62]),
  (26, 27, .aload 0, .null, [], []),
  (27, 30, .getfield 0, .null, [], [2, 5, 3]),
  (30, 31, .aload 0, .null, [], []),
  (31, 34, .getfield 0, .null, [], [2, 3, 3]),
  (34, 37, .getfield 0, .null, [], [8, 2, 3]),
  (37, 40, .invokestatic 0, .null, [], [42, 2, 1]),
  (40, 43, .ifCond .eq 0, .null, [], [56]),
  (43, 44, .aload 0, .null, [], []),
  (44, 46, .nop, .int (6 : Int32), [], []),
  (46, 47, .aload 0, .null, [], []),
  (47, 50, .getfield 0, .null, [], [2, 10, 1]),
  (50, 53, .invokestatic 0, .null, [], [52, 3, 1]),
  (53, 56, .ifCond .eq 0, .null, [], [60]),
  (56, 57, .nop, .int (1 : Int32), [], []),
  (57, 60, .goto 0, .null, [], [61]),
  (60, 61, .nop, .int (0 : Int32), [], []),
  (61, 62, .ireturn, .null, [], [1]),
  (62, 63, .aload 0, .null, [], []),
  (63, 66, .getfield 0, .null, [], [2, 2, 3]),
  (66, 67, .aload 0, .null, [], []),
  (67, 70, .getfield 0, .null, [], [2, 5, 3]),
  (70, 71, .aload 0, .null, [], []),
  (71, 74, .getfield 0, .null, [], [2, 3, 3]),
  (74, 77, .getfield 0, .null, [], [8, 2, 3]),
  (77, 80, .invokestatic 0, .null, [], [68, 3, 1]),
  (80, 83, .ifCond .ne 0, .null, [], [94]),
  (83, 84, .aload 0, .null, [], []),
  (84, 86, .nop, .int (6 : Int32), [], []),
  (86, 87, .aload 0, .null, [], []),
  (87, 90, .getfield 0, .null, [], [2, 10, 1]),
  (90, 93, .invokestatic 0, .null, [], [52, 3, 1]),
  (93, 94, .ireturn, .null, [], [1]),
  (94, 95, .aload 0, .null, [], []),
  (95, 98, .getfield 0, .null, [], [2, 2, 3]),
  (98, 99, .aload 0, .null, [], []),
  (99, 102, .getfield 0, .null, [], [2, 5, 3]),
  (102, 103, .aload 0, .null, [], []),
  (103, 106, .getfield 0, .null, [], [2, 3, 3]),
  (106, 109, .getfield 0, .null, [], [8, 1, 3]),
  (109, 112, .invokestatic 0, .null, [], [69, 3, 1]),
  (112, 115, .ifCond .ne 0, .null, [], [128]),
  (115, 116, .aload 0, .null, [], []),
  (116, 118, .nop, .int (7 : Int32), [], []),
  (118, 119, .aload 0, .null, [], []),
  (119, 122, .getfield 0, .null, [], [2, 10, 1]),
  (122, 125, .invokestatic 0, .null, [], [52, 3, 1]),
  (125, 128, .ifCond .eq 0, .null, [], [132]),
  (128, 129, .nop, .int (1 : Int32), [], []),
  (129, 132, .goto 0, .null, [], [133]),
  (132, 133, .nop, .int (0 : Int32), [], []),
  (133, 134, .ireturn, .null, [], [1])]
def zh_70 : List (Nat × List Nat) := [(56, [0]), (128, [0])]
-- 71: PrimeCertificates$Sums.isOne:([I)Z
def zo_71 : List (Nat × Nat × dzOp) := [
  (0, 1, .aload 0, .null, [], []),
  (1, 2, .nop, .int (0 : Int32), [], []),
  (2, 3, .iaload, .null, [], []),
  (3, 4, .nop, .int (1 : Int32), [], []),
  (4, 7, .if_icmp .ne 0, .null, [], [19]),
  (7, 8, .aload 0, .null, [], []),
  (8, 11, .invokestatic 0, .null, [], [19, 1, 1]),
  (11, 12, .nop, .int (1 : Int32), [], []),
  (12, 15, .if_icmp .ne 0, .null, [], [19]),
  (15, 16, .nop, .int (1 : Int32), [], []),
  (16, 19, .goto 0, .null, [], [20]),
  (19, 20, .nop, .int (0 : Int32), [], []),
  (20, 21, .ireturn, .null, [], [1])]
def zh_71 : List (Nat × List Nat) := []
-- 72: PrimeCertificates$Trial.closes:(I)Z
def zo_72 : List (Nat × Nat × dzOp) := [
  (0, 1, .aload 0, .null, [], []),
  (1, 4, .getfield 0, .null, [], [8, 4, 3]),
  (4, 5, .nop, .int (0 : Int32), [], []),
  (5, 6, .iload 1, .null, [], []),
  (6, 7, .iastore, .null, [], []),
  (7, 8, .aload 0, .null, [], []),
  (8, 11, .getfield 0, .null, [], [8, 0, 3]),
  (11, 12, .aload 0, .null, [], []),
  (12, 15, .getfield 0, .null, [], [8, 4, 3]),
  (15, 16, .aload 0, .null, [], []),
  (16, 19, .getfield 0, .null, [], [8, 2, 3]),
  (19, 20, .aload 0, .null, [], []),
  (20, 23, .getfield 0, .null, [], [8, 1, 3]),
  (23, 24, .aload 0, .null, [], []),
  (24, 27, .getfield 0, .null, [], [8, 6, 3]),
  (27, 30, .invokestatic 0, .null, [], [38, 5, 0]),
  (30, 31, .aload 0, .null, [], []),
  (31, 34, .getfield 0, .null, [], [8, 6, 3]),
  (34, 37, .invokestatic 0, .null, [], [71, 1, 1]),
  (37, 38, .ireturn, .null, [], [1])]
def zh_72 : List (Nat × List Nat) := []
-- 73: PrimeCertificates$Trial.parts:(I[I)Z
def zo_73 : List (Nat × Nat × dzOp) := [
  (0, 1, .aload 0, .null, [], []),
  (1, 4, .getfield 0, .null, [], [8, 4, 3]),
  (4, 5, .nop, .int (0 : Int32), [], []),
  (5, 6, .iload 1, .null, [], []),
  (6, 7, .iastore, .null, [], []),
  (7, 8, .aload 0, .null, [], []),
  (8, 11, .getfield 0, .null, [], [8, 0, 3]),
  (11, 12, .aload 0, .null, [], []),
  (12, 15, .getfield 0, .null, [], [8, 2, 3]),
  (15, 16, .aload 2, .null, [], []),
  (16, 17, .aload 0, .null, [], []),
  (17, 20, .getfield 0, .null, [], [8, 5, 3]),
  (20, 21, .aload 0, .null, [], []),
  (21, 24, .getfield 0, .null, [], [8, 6, 3]),
  (24, 27, .invokestatic 0, .null, [], [35, 5, 0]),
  (27, 28, .aload 0, .null, [], []),
  (28, 31, .getfield 0, .null, [], [8, 0, 3]),
  (31, 32, .aload 0, .null, [], []),
  (32, 35, .getfield 0, .null, [], [8, 4, 3]),
  (35, 36, .aload 0, .null, [], []),
  (36, 39, .getfield 0, .null, [], [8, 5, 3]),
  (39, 40, .aload 0, .null, [], []),
  (40, 43, .getfield 0, .null, [], [8, 1, 3]),
  (43, 44, .aload 0, .null, [], []),
  (44, 47, .getfield 0, .null, [], [8, 6, 3]),
  (47, 50, .invokestatic 0, .null, [], [38, 5, 0]),
  (50, 51, .aload 0, .null, [], []),
  (51, 54, .getfield 0, .null, [], [8, 6, 3]),
  (54, 57, .invokestatic 0, .null, [], [71, 1, 1]),
  (57, 60, .ifCond .ne 0, .null, [], [64]),
  (60, 61, .nop, .int (1 : Int32), [], []),
  (61, 64, .goto 0, .null, [], [65]),
  (64, 65, .nop, .int (0 : Int32), [], []),
  (65, 66, .ireturn, .null, [], [1])]
def zh_73 : List (Nat × List Nat) := []
-- 74: PrimeCertificates$Checker.factorPlace:(I)I
def zo_74 : List (Nat × Nat × dzOp) := [
  (0, 1, .aload 0, .null, [], []),
  (1, 4, .getfield 0, .null, [], [2, 10, 1]),
  (4, 5, .nop, .int (1 : Int32), [], []),
  (5, 6, .iadd, .null, [], []),
  (6, 7, .iload 1, .null, [], []),
  (7, 8, .aload 0, .null, [], []),
  (8, 11, .getfield 0, .null, [], [2, 8, 1]),
  (11, 12, .nop, .int (3 : Int32), [], []),
  (12, 15, .if_icmp .ne 0, .null, [], [19]),
  (15, 16, .nop, .int (3 : Int32), [], []),
  (16, 19, .goto 0, .null, [], [20]),
  (19, 20, .nop, .int (2 : Int32), [], []),
  (20, 21, .imul, .null, [], []),
  (21, 22, .iadd, .null, [], []),
  (22, 23, .ireturn, .null, [], [0])]
def zh_74 : List (Nat × List Nat) := [(20, [0, 1])]
-- 75: PrimeCertificates$Checker.rootHolds:()Z
def zo_75 : List (Nat × Nat × dzOp) := [
  (0, 1, .aload 0, .null, [], []),
  (1, 4, .getfield 0, .null, [], [2, 3, 3]),
  (4, 5, .aload 0, .null, [], []),
  (5, 8, .getfield 0, .null, [], [2, 9, 1]),
  (8, 11, .invokestatic 0, .null, [], [72, 2, 1]),
  (11, 14, .ifCond .ne 0, .null, [], [27]),
  (14, 15, .aload 0, .null, [], []),
  (15, 17, .nop, .int (9 : Int32), [], []),
  (17, 18, .aload 0, .null, [], []),
  (18, 21, .getfield 0, .null, [], [2, 10, 1]),
  (21, 22, .nop, .int (1 : Int32), [], []),
  (22, 23, .isub, .null, [], []),
  (23, 26, .invokestatic 0, .null, [], [52, 3, 1]),
  (26, 27, .ireturn, .null, [], [1]),
  (27, 28, .nop, .int (0 : Int32), [], []),
  (28, 29, .istore 1, .null, [], []),
  (29, 30, .iload 1, .null, [], []),
  (30, 31, .aload 0, .null, [], []),
  (31, 34, .getfield 0, .null, [], [2, 4, 3]),
  (34, 37, .getfield 0, .null, [], [3, 3, 1]),
  (37, 40, .if_icmp .ge 0, .null, [], [77]),
  (40, 41, .aload 0, .null, [], []),
  (41, 44, .getfield 0, .null, [], [2, 3, 3]),
  (44, 45, .aload 0, .null, [], []),
  (45, 48, .getfield 0, .null, [], [2, 9, 1]),
  (48, 49, .aload 0, .null, [], []),
  (49, 50, .iload 1, .null, [], []),
  (50, 53, .invokestatic 0, .null, [], [61, 2, 3]),
  (53, 56, .invokestatic 0, .null, [], [73, 3, 1]),
  (56, 59, .ifCond .ne 0, .null, [], [71]),
  (59, 60, .aload 0, .null, [], []),
  (60, 62, .nop, .int (10 : Int32), [], []),
  (62, 63, .aload 0, .null, [], []),
  (63, 64, .iload 1, .null, [], []),
  (64, 67, .invokestatic 0, .null, [], [74, 2, 1]),
  (67, 70, .invokestatic 0, .null, [], [52, 3, 1]),
  (70, 71, .ireturn, .null, [], [1]),
  (71, 74, .iinc 1 0, .int (1 : Int32), [], []),
  (74, 77, .goto 0, .null, [], [29]),
  (77, 78, .nop, .int (1 : Int32), [], []),
  (78, 79, .ireturn, .null, [], [1])]
def zh_75 : List (Nat × List Nat) := [(29, [0, 1])]
-- 76: PrimeCertificates$Trial.partsEverywhere:(I[I)Z
def zo_76 : List (Nat × Nat × dzOp) := [
  (0, 1, .aload 0, .null, [], []),
  (1, 4, .getfield 0, .null, [], [8, 4, 3]),
  (4, 5, .nop, .int (0 : Int32), [], []),
  (5, 6, .iload 1, .null, [], []),
  (6, 7, .iastore, .null, [], []),
  (7, 8, .aload 0, .null, [], []),
  (8, 11, .getfield 0, .null, [], [8, 0, 3]),
  (11, 12, .aload 0, .null, [], []),
  (12, 15, .getfield 0, .null, [], [8, 2, 3]),
  (15, 16, .aload 2, .null, [], []),
  (16, 17, .aload 0, .null, [], []),
  (17, 20, .getfield 0, .null, [], [8, 5, 3]),
  (20, 21, .aload 0, .null, [], []),
  (21, 24, .getfield 0, .null, [], [8, 6, 3]),
  (24, 27, .invokestatic 0, .null, [], [35, 5, 0]),
  (27, 28, .aload 0, .null, [], []),
  (28, 31, .getfield 0, .null, [], [8, 0, 3]),
  (31, 32, .aload 0, .null, [], []),
  (32, 35, .getfield 0, .null, [], [8, 4, 3]),
  (35, 36, .aload 0, .null, [], []),
  (36, 39, .getfield 0, .null, [], [8, 5, 3]),
  (39, 40, .aload 0, .null, [], []),
  (40, 43, .getfield 0, .null, [], [8, 1, 3]),
  (43, 44, .aload 0, .null, [], []),
  (44, 47, .getfield 0, .null, [], [8, 6, 3]),
  (47, 50, .invokestatic 0, .null, [], [38, 5, 0]),
  (50, 51, .aload 0, .null, [], []),
  (51, 54, .getfield 0, .null, [], [8, 6, 3]),
  (54, 55, .aload 0, .null, [], []),
  (55, 58, .getfield 0, .null, [], [8, 3, 3]),
  (58, 59, .aload 0, .null, [], []),
  (59, 62, .getfield 0, .null, [], [8, 6, 3]),
  (62, 65, .invokestatic 0, .null, [], [17, 3, 1]),
  (65, 66, .pop, .null, [], []),
  (66, 67, .aload 0, .null, [], []),
  (67, 70, .getfield 0, .null, [], [8, 0, 3]),
  (70, 71, .aload 0, .null, [], []),
  (71, 74, .getfield 0, .null, [], [8, 6, 3]),
  (74, 75, .aload 0, .null, [], []),
  (75, 78, .getfield 0, .null, [], [8, 1, 3]),
  (78, 79, .aload 0, .null, [], []),
  (79, 82, .getfield 0, .null, [], [8, 6, 3]),
  (82, 85, .invokestatic 0, .null, [], [40, 4, 0]),
  (85, 86, .aload 0, .null, [], []),
  (86, 89, .getfield 0, .null, [], [8, 6, 3]),
  (89, 92, .invokestatic 0, .null, [], [71, 1, 1]),
  (92, 93, .ireturn, .null, [], [1])]
def zh_76 : List (Nat × List Nat) := []
-- 77: PrimeCertificates$Checker.witnessesHold:()Z
def zo_77 : List (Nat × Nat × dzOp) := [
  (0, 1, .nop, .int (0 : Int32), [], []),
  (1, 2, .istore 1, .null, [], []),
  (2, 3, .iload 1, .null, [], []),
  (3, 4, .aload 0, .null, [], []),
  (4, 7, .getfield 0, .null, [], [2, 4, 3]),
  (7, 10, .getfield 0, .null, [], [3, 3, 1]),
  (10, 13, .if_icmp .ge 0, .null, [], [55]),
  (13, 14, .aload 0, .null, [], []),
  (14, 17, .getfield 0, .null, [], [2, 4, 3]),
  (17, 20, .getfield 0, .null, [], [3, 2, 3]),
  (20, 21, .iload 1, .null, [], []),
  (21, 22, .iaload, .null, [], []),
  (22, 23, .aload 0, .null, [], []),
  (23, 26, .getfield 0, .null, [], [2, 3, 3]),
  (26, 29, .getfield 0, .null, [], [8, 1, 3]),
  (29, 32, .invokestatic 0, .null, [], [59, 2, 1]),
  (32, 35, .ifCond .ne 0, .null, [], [49]),
  (35, 36, .aload 0, .null, [], []),
  (36, 38, .nop, .int (8 : Int32), [], []),
  (38, 39, .aload 0, .null, [], []),
  (39, 40, .iload 1, .null, [], []),
  (40, 43, .invokestatic 0, .null, [], [74, 2, 1]),
  (43, 44, .nop, .int (2 : Int32), [], []),
  (44, 45, .iadd, .null, [], []),
  (45, 48, .invokestatic 0, .null, [], [52, 3, 1]),
  (48, 49, .ireturn, .null, [], [1]),
  (49, 52, .iinc 1 0, .int (1 : Int32), [], []),
  (52, 55, .goto 0, .null, [], [2]),
  (55, 56, .nop, .int (0 : Int32), [], []),
  (56, 57, .istore 1, .null, [], []),
  (57, 58, .iload 1, .null, [], []),
  (58, 59, .aload 0, .null, [], []),
  (59, 62, .getfield 0, .null, [], [2, 4, 3]),
  (62, 65, .getfield 0, .null, [], [3, 3, 1]),
  (65, 68, .if_icmp .ge 0, .null, [], [137]),
  (68, 69, .aload 0, .null, [], []),
  (69, 72, .getfield 0, .null, [], [2, 4, 3]),
  (72, 75, .getfield 0, .null, [], [3, 2, 3]),
  (75, 76, .iload 1, .null, [], []),
  (76, 77, .iaload, .null, [], []),
  (77, 78, .istore 2, .null, [], []),
  (78, 79, .aload 0, .null, [], []),
  (79, 82, .getfield 0, .null, [], [2, 3, 3]),
  (82, 83, .iload 2, .null, [], []),
  (83, 86, .invokestatic 0, .null, [], [72, 2, 1]),
  (86, 89, .ifCond .ne 0, .null, [], [103]),
  (89, 90, .aload 0, .null, [], []),
  (90, 92, .nop, .int (9 : Int32), [], []),
  (92, 93, .aload 0, .null, [], []),
  (93, 94, .iload 1, .null, [], []),
  (94, 97, .invokestatic 0, .null, [], [74, 2, 1]),
  (97, 98, .nop, .int (2 : Int32), [], []),
  (98, 99, .iadd, .null, [], []),
  (99, 102, .invokestatic 0, .null, [], [52, 3, 1]),
  (102, 103, .ireturn, .null, [], [1]),
  (103, 104, .aload 0, .null, [], []),
  (104, 107, .getfield 0, .null, [], [2, 3, 3]),
  (107, 108, .iload 2, .null, [], []),
  (108, 109, .aload 0, .null, [], []),
  (109, 110, .iload 1, .null, [], []),
  (110, 113, .invokestatic 0, .null, [], [61, 2, 3]),
  (113, 116, .invokestatic 0, .null, [], [76, 3, 1]),
  (116, 119, .ifCond .ne 0, .null, [], [131]),
  (119, 120, .aload 0, .null, [], []),
  (120, 122, .nop, .int (10 : Int32), [], []),
  (122, 123, .aload 0, .null, [], []),
  (123, 124, .iload 1, .null, [], []),
  (124, 127, .invokestatic 0, .null, [], [74, 2, 1]),
  (127, 130, .invokestatic 0, .null, [], [52, 3, 1]),
  (130, 131, .ireturn, .null, [], [1]),
  (131, 134, .iinc 1 0, .int (1 : Int32), [], []),
  (134, 137, .goto 0, .null, [], [57]),
  (137, 138, .nop, .int (1 : Int32), [], []),
  (138, 139, .ireturn, .null, [], [1])]
def zh_77 : List (Nat × List Nat) := [(2, [0, 1]), (57, [0, 1])]
-- 78: PrimeCertificates$Lines.keepNext:(I)V
def zo_78 : List (Nat × Nat × dzOp) := [
  (0, 1, .aload 0, .null, [], []),
  (1, 4, .getfield 0, .null, [], [4, 2, 1]),
  (4, 7, .nop, .int (200 : Int32), [], []),
  (7, 10, .if_icmp .ge 0, .null, [], [30]),
  (10, 11, .aload 0, .null, [], []),
  (11, 14, .getfield 0, .null, [], [4, 1, 3]),
  (14, 15, .aload 0, .null, [], []),
  (15, 18, .getfield 0, .null, [], [4, 2, 1]),
  (18, 19, .iload 1, .null, [], []),
  (19, 20, .iastore, .null, [], []),
  (20, 21, .aload 0, .null, [], []),
  (21, 22, .dup, .null, [], []),
  (22, 25, .getfield 0, .null, [], [4, 2, 1]),
  (25, 26, .nop, .int (1 : Int32), [], []),
  (26, 27, .iadd, .null, [], []),
  (27, 30, .putfield 0, .null, [], [4, 2, 1]),
  (30, 31, .return_, .null, [], [])]
def zh_78 : List (Nat × List Nat) := []
-- 79: PrimeCertificates$Checker.findFault:()I
def zo_79 : List (Nat × Nat × dzOp) := [
  (0, 1, .aload 0, .null, [], []),
  (1, 2, .nop, .int (0 : Int32), [], []),
  (2, 5, .putfield 0, .null, [], [2, 11, 1]),
  (5, 6, .aload 0, .null, [], []),
  (6, 8, .nop, .int (-2 : Int32), [], []),
  (8, 11, .putfield 0, .null, [], [2, 12, 1]),
  (11, 12, .aload 0, .null, [], []),
  (12, 13, .aload 0, .null, [], []),
  (13, 16, .getfield 0, .null, [], [2, 1, 3]),
  (16, 19, .invokestatic 0, .null, [], [51, 1, 1]),
  (19, 22, .putfield 0, .null, [], [2, 6, 1]),
  (22, 23, .aload 0, .null, [], []),
  (23, 26, .getfield 0, .null, [], [2, 1, 3]),
  (26, 29, .getfield 0, .null, [], [4, 2, 1]),
  (29, 30, .istore 1, .null, [], []),
  (30, 31, .iload 1, .null, [], []),
  (31, 34, .nop, .int (200 : Int32), [], []),
  (34, 37, .if_icmp .ge 0, .null, [], [151]),
  (37, 38, .aload 0, .null, [], []),
  (38, 41, .getfield 0, .null, [], [2, 11, 1]),
  (41, 44, .ifCond .ne 0, .null, [], [151]),
  (44, 45, .aload 0, .null, [], []),
  (45, 48, .getfield 0, .null, [], [2, 6, 1]),
  (48, 49, .aload 0, .null, [], []),
  (49, 52, .getfield 0, .null, [], [2, 0, 3]),
  (52, 55, .getfield 0, .null, [], [7, 1, 1]),
  (55, 58, .if_icmp .ge 0, .null, [], [151]),
  (58, 59, .aload 0, .null, [], []),
  (59, 60, .iload 1, .null, [], []),
  (60, 63, .invokestatic 0, .null, [], [65, 2, 1]),
  (63, 64, .istore 2, .null, [], []),
  (64, 65, .iload 2, .null, [], []),
  (65, 68, .ifCond .eq 0, .null, [], [130]),
  (68, 69, .aload 0, .null, [], []),
  (69, 72, .getfield 0, .null, [], [2, 8, 1]),
  (72, 73, .nop, .int (1 : Int32), [], []),
  (73, 76, .if_icmp .eq 0, .null, [], [130]),
  (76, 77, .aload 0, .null, [], []),
  (77, 80, .getfield 0, .null, [], [2, 3, 3]),
  (80, 81, .aload 0, .null, [], []),
  (81, 84, .getfield 0, .null, [], [2, 1, 3]),
  (84, 87, .getfield 0, .null, [], [4, 0, 3]),
  (87, 88, .iload 1, .null, [], []),
  (88, 89, .aaload, .null, [], []),
  (89, 92, .invokestatic 0, .null, [], [66, 2, 0]),
  (92, 93, .aload 0, .null, [], []),
  (93, 96, .invokestatic 0, .null, [], [70, 1, 1]),
  (96, 99, .ifCond .eq 0, .null, [], [128]),
  (99, 100, .aload 0, .null, [], []),
  (100, 103, .getfield 0, .null, [], [2, 8, 1]),
  (103, 104, .nop, .int (2 : Int32), [], []),
  (104, 107, .if_icmp .ne 0, .null, [], [117]),
  (107, 108, .aload 0, .null, [], []),
  (108, 111, .invokestatic 0, .null, [], [75, 1, 1]),
  (111, 114, .ifCond .eq 0, .null, [], [128]),
  (114, 117, .goto 0, .null, [], [124]),
  (117, 118, .aload 0, .null, [], []),
  (118, 121, .invokestatic 0, .null, [], [77, 1, 1]),
  (121, 124, .ifCond .eq 0, .null, [], [128]),
  (124, 125, .nop, .int (1 : Int32), [], []),
  (125, 128, .goto 0, .null, [], [129]),
  (128, 129, .nop, .int (0 : Int32), [], []),
  (129, 130, .istore 2, .null, [], []),
  (130, 131, .iload 2, .null, [], []),
  (131, 134, .ifCond .eq 0, .null, [], [145]),
  (134, 135, .aload 0, .null, [], []),
  (135, 138, .getfield 0, .null, [], [2, 1, 3]),
  (138, 139, .aload 0, .null, [], []),
  (139, 142, .getfield 0, .null, [], [2, 6, 1]),
  (142, 145, .invokestatic 0, .null, [], [78, 2, 0]),
  (145, 148, .iinc 1 0, .int (1 : Int32), [], []),
  (148, 151, .goto 0, .null, [], [30]),
  (151, 152, .aload 0, .null, [], []),
  (152, 155, .getfield 0, .null, [], [2, 11, 1]),
  (155, 158, .ifCond .ne 0, .null, [], [182]),
  (158, 159, .aload 0, .null, [], []),
  (159, 162, .getfield 0, .null, [], [2, 6, 1]),
  (162, 163, .aload 0, .null, [], []),
  (163, 166, .getfield 0, .null, [], [2, 0, 3]),
  (166, 169, .getfield 0, .null, [], [7, 1, 1]),
  (169, 172, .if_icmp .ge 0, .null, [], [182]),
  (172, 173, .aload 0, .null, [], []),
  (173, 174, .nop, .int (2 : Int32), [], []),
  (174, 175, .aload 0, .null, [], []),
  (175, 178, .getfield 0, .null, [], [2, 6, 1]),
  (178, 181, .invokestatic 0, .null, [], [52, 3, 1]),
  (181, 182, .pop, .null, [], []),
  (182, 183, .aload 0, .null, [], []),
  (183, 186, .getfield 0, .null, [], [2, 1, 3]),
  (186, 187, .aload 0, .null, [], []),
  (187, 190, .getfield 0, .null, [], [2, 11, 1]),
  (190, 193, .ifCond .ne 0, .null, [], [203]),
  (193, 194, .aload 0, .null, [], []),
  (194, 197, .getfield 0, .null, [], [2, 1, 3]),
  (197, 200, .getfield 0, .null, [], [4, 2, 1]),
  (200, 203, .goto 0, .null, [], [204]),
  (203, 204, .nop, .int (0 : Int32), [], []),
  (204, 207, .putfield 0, .null, [], [4, 3, 1]),
  (207, 208, .aload 0, .null, [], []),
  (208, 211, .getfield 0, .null, [], [2, 11, 1]),
  (211, 212, .ireturn, .null, [], [0])]
def zh_79 : List (Nat × List Nat) := [(30, [0, 1]), (124, [0, 1, 2]), (128, [0, 1, 2]), (129, [0, 1, 2]), (130, [0, 1, 2]), (145, [0, 1, 2]), (151, [0, 1]), (182, [0, 1]), (204, [0, 1])]
-- 80: PrimeCertificates.check:()I
def zo_80 : List (Nat × Nat × dzOp) := [
  (0, 1, .aload 0, .null, [], []),
  (1, 4, .getfield 0, .null, [], [0, 6, 3]),
  (4, 7, .invokestatic 0, .null, [], [79, 1, 1]),
  (7, 8, .istore 1, .null, [], []),
  (8, 9, .iload 1, .null, [], []),
  (9, 12, .ifCond .ne 0, .null, [], [22]),
  (12, 13, .aload 0, .null, [], []),
  (13, 16, .getfield 0, .null, [], [0, 5, 3]),
  (16, 19, .getfield 0, .null, [], [4, 2, 1]),
  (19, 22, .goto 0, .null, [], [26]),
  (22, 24, .nop, .int (-100 : Int32), [], []),
  (24, 25, .iload 1, .null, [], []),
  (25, 26, .isub, .null, [], []),
  (26, 27, .ireturn, .null, [], [0])]
def zh_80 : List (Nat × List Nat) := []
-- 81: PrimeCertificates.place:()I
def zo_81 : List (Nat × Nat × dzOp) := [
  (0, 1, .aload 0, .null, [], []),
  (1, 4, .getfield 0, .null, [], [0, 6, 3]),
  (4, 7, .getfield 0, .null, [], [2, 12, 1]),
  (7, 8, .ireturn, .null, [], [0])]
def zh_81 : List (Nat × List Nat) := []
-- 82: PrimeCertificates.tell:(II)Z
def zo_82 : List (Nat × Nat × dzOp) := [
  (0, 1, .iload 1, .null, [], []),
  (1, 4, .ifCond .lt 0, .null, [], [22]),
  (4, 5, .iload 1, .null, [], []),
  (5, 6, .aload 0, .null, [], []),
  (6, 9, .getfield 0, .null, [], [0, 5, 3]),
  (9, 12, .getfield 0, .null, [], [4, 3, 1]),
  (12, 15, .if_icmp .ge 0, .null, [], [22]),
  (15, 16, .iload 2, .null, [], []),
  (16, 19, .invokestatic 0, .null, [], [8, 1, 1]),
  (19, 22, .ifCond .ne 0, .null, [], [24]),
  (22, 23, .nop, .int (0 : Int32), [], []),
  (23, 24, .ireturn, .null, [], [1]),
  (24, 25, .aload 0, .null, [], []),
  (25, 28, .getfield 0, .null, [], [0, 5, 3]),
  (28, 31, .getfield 0, .null, [], [4, 0, 3]),
  (31, 32, .iload 1, .null, [], []),
  (32, 33, .aaload, .null, [], []),
  (33, 34, .aload 0, .null, [], []),
  (34, 37, .getfield 0, .null, [], [0, 0, 3]),
  (37, 38, .iload 2, .null, [], []),
  (38, 39, .aaload, .null, [], []),
  (39, 42, .invokestatic 0, .null, [], [14, 2, 0]),
  (42, 43, .nop, .int (1 : Int32), [], []),
  (43, 44, .ireturn, .null, [], [1])]
def zh_82 : List (Nat × List Nat) := []
-- 83: PrimeCertificates$Lines.lineOf:([I)I
def zo_83 : List (Nat × Nat × dzOp) := [
  (0, 1, .nop, .int (0 : Int32), [], []),
  (1, 2, .istore 2, .null, [], []),
  (2, 3, .iload 2, .null, [], []),
  (3, 4, .aload 0, .null, [], []),
  (4, 7, .getfield 0, .null, [], [4, 2, 1]),
  (7, 10, .if_icmp .ge 0, .null, [], [31]),
  (10, 11, .aload 0, .null, [], []),
  (11, 14, .getfield 0, .null, [], [4, 0, 3]),
  (14, 15, .iload 2, .null, [], []),
  (15, 16, .aaload, .null, [], []),
  (16, 17, .aload 1, .null, [], []),
  (17, 20, .invokestatic 0, .null, [], [42, 2, 1]),
  (20, 23, .ifCond .ne 0, .null, [], [25]),
  (23, 24, .iload 2, .null, [], []),
  (24, 25, .ireturn, .null, [], [0]),
  (25, 28, .iinc 2 0, .int (1 : Int32), [], []),
  (28, 31, .goto 0, .null, [], [2]),
  (31, 33, .nop, .int (-2 : Int32), [], []),
  (33, 34, .ireturn, .null, [], [0])]
def zh_83 : List (Nat × List Nat) := [(2, [0, 1, 2])]
-- 84: PrimeCertificates$Maker.planSmallLine:([I)Z
def zo_84 : List (Nat × Nat × dzOp) := [
  (0, 1, .aload 0, .null, [], []),
  (1, 4, .getfield 0, .null, [], [5, 1, 3]),
  (4, 7, .getfield 0, .null, [], [4, 2, 1]),
  (7, 8, .aload 0, .null, [], []),
  (8, 11, .getfield 0, .null, [], [5, 9, 1]),
  (11, 12, .iadd, .null, [], []),
  (12, 15, .nop, .int (200 : Int32), [], []),
  (15, 18, .if_icmp .lt 0, .null, [], [20]),
  (18, 19, .nop, .int (0 : Int32), [], []),
  (19, 20, .ireturn, .null, [], [1]),
  (20, 21, .aload 1, .null, [], []),
  (21, 22, .aload 0, .null, [], []),
  (22, 25, .getfield 0, .null, [], [5, 1, 3]),
  (25, 28, .getfield 0, .null, [], [4, 0, 3]),
  (28, 29, .aload 0, .null, [], []),
  (29, 32, .getfield 0, .null, [], [5, 1, 3]),
  (32, 35, .getfield 0, .null, [], [4, 2, 1]),
  (35, 36, .aload 0, .null, [], []),
  (36, 39, .getfield 0, .null, [], [5, 9, 1]),
  (39, 40, .iadd, .null, [], []),
  (40, 41, .aaload, .null, [], []),
  (41, 44, .invokestatic 0, .null, [], [14, 2, 0]),
  (44, 45, .aload 0, .null, [], []),
  (45, 46, .dup, .null, [], []),
  (46, 49, .getfield 0, .null, [], [5, 9, 1]),
  (49, 50, .nop, .int (1 : Int32), [], []),
  (50, 51, .iadd, .null, [], []),
  (51, 54, .putfield 0, .null, [], [5, 9, 1]),
  (54, 55, .nop, .int (1 : Int32), [], []),
  (55, 56, .ireturn, .null, [], [1])]
def zh_84 : List (Nat × List Nat) := []
-- 85: PrimeCertificates$Maker.hasRoom:(I)Z
def zo_85 : List (Nat × Nat × dzOp) := [
  (0, 1, .iload 1, .null, [], []),
  (1, 4, .ifCond .ne 0, .null, [], [8]),
  (4, 5, .nop, .int (0 : Int32), [], []),
  (5, 8, .goto 0, .null, [], [9]),
  (8, 9, .nop, .int (1 : Int32), [], []),
  (9, 10, .istore 2, .null, [], []),
  (10, 11, .aload 0, .null, [], []),
  (11, 14, .getfield 0, .null, [], [5, 1, 3]),
  (14, 17, .getfield 0, .null, [], [4, 2, 1]),
  (17, 18, .aload 0, .null, [], []),
  (18, 21, .getfield 0, .null, [], [5, 9, 1]),
  (21, 22, .iadd, .null, [], []),
  (22, 23, .iload 2, .null, [], []),
  (23, 24, .iadd, .null, [], []),
  (24, 27, .nop, .int (200 : Int32), [], []),
  (27, 30, .if_icmp .gt 0, .null, [], [52]),
  (30, 31, .nop, .int (2 : Int32), [], []),
  (31, 32, .aload 0, .null, [], []),
  (32, 35, .getfield 0, .null, [], [5, 9, 1]),
  (35, 36, .imul, .null, [], []),
  (36, 37, .iload 1, .null, [], []),
  (37, 38, .iadd, .null, [], []),
  (38, 39, .aload 0, .null, [], []),
  (39, 42, .getfield 0, .null, [], [5, 0, 3]),
  (42, 45, .invokestatic 0, .null, [], [44, 1, 1]),
  (45, 48, .if_icmp .gt 0, .null, [], [52]),
  (48, 49, .nop, .int (1 : Int32), [], []),
  (49, 52, .goto 0, .null, [], [53]),
  (52, 53, .nop, .int (0 : Int32), [], []),
  (53, 54, .ireturn, .null, [], [1])]
def zh_85 : List (Nat × List Nat) := [(9, [0, 1])]
-- 86: PrimeCertificates$Maker.writeSmallLines:()I
def zo_86 : List (Nat × Nat × dzOp) := [
  (0, 1, .nop, .int (0 : Int32), [], []),
  (1, 2, .istore 1, .null, [], []),
  (2, 3, .iload 1, .null, [], []),
  (3, 4, .aload 0, .null, [], []),
  (4, 7, .getfield 0, .null, [], [5, 9, 1]),
  (7, 10, .if_icmp .ge 0, .null, [], [62]),
  (10, 11, .aload 0, .null, [], []),
  (11, 14, .getfield 0, .null, [], [5, 0, 3]),
  (14, 15, .nop, .int (1 : Int32), [], []),
  (15, 18, .invokestatic 0, .null, [], [45, 2, 0]),
  (18, 19, .aload 0, .null, [], []),
  (19, 22, .getfield 0, .null, [], [5, 0, 3]),
  (22, 23, .aload 0, .null, [], []),
  (23, 26, .getfield 0, .null, [], [5, 1, 3]),
  (26, 29, .getfield 0, .null, [], [4, 0, 3]),
  (29, 30, .aload 0, .null, [], []),
  (30, 33, .getfield 0, .null, [], [5, 1, 3]),
  (33, 36, .getfield 0, .null, [], [4, 2, 1]),
  (36, 37, .aaload, .null, [], []),
  (37, 38, .nop, .int (0 : Int32), [], []),
  (38, 39, .iaload, .null, [], []),
  (39, 42, .invokestatic 0, .null, [], [45, 2, 0]),
  (42, 43, .aload 0, .null, [], []),
  (43, 46, .getfield 0, .null, [], [5, 1, 3]),
  (46, 47, .aload 0, .null, [], []),
  (47, 50, .getfield 0, .null, [], [5, 0, 3]),
  (50, 53, .getfield 0, .null, [], [7, 1, 1]),
  (53, 56, .invokestatic 0, .null, [], [78, 2, 0]),
  (56, 59, .iinc 1 0, .int (1 : Int32), [], []),
  (59, 62, .goto 0, .null, [], [2]),
  (62, 63, .aload 0, .null, [], []),
  (63, 66, .getfield 0, .null, [], [5, 1, 3]),
  (66, 69, .getfield 0, .null, [], [4, 2, 1]),
  (69, 70, .nop, .int (1 : Int32), [], []),
  (70, 71, .isub, .null, [], []),
  (71, 72, .ireturn, .null, [], [0])]
def zh_86 : List (Nat × List Nat) := [(2, [0, 1])]
-- 87: PrimeCertificates$Maker.divideOut:([I)I
def zo_87 : List (Nat × Nat × dzOp) := [
  (0, 1, .nop, .int (0 : Int32), [], []),
  (1, 2, .istore 2, .null, [], []),
  (2, 3, .nop, .int (1 : Int32), [], []),
  (3, 4, .istore 3, .null, [], []),
  (4, 5, .iload 3, .null, [], []),
  (5, 8, .ifCond .eq 0, .null, [], [64]),
  (8, 9, .iload 2, .null, [], []),
  (9, 12, .nop, .int (255 : Int32), [], []),
  (12, 15, .if_icmp .ge 0, .null, [], [64]),
  (15, 16, .aload 0, .null, [], []),
  (16, 19, .getfield 0, .null, [], [5, 2, 3]),
  (19, 20, .aload 0, .null, [], []),
  (20, 23, .getfield 0, .null, [], [5, 5, 3]),
  (23, 24, .aload 1, .null, [], []),
  (24, 25, .aload 0, .null, [], []),
  (25, 28, .getfield 0, .null, [], [5, 6, 3]),
  (28, 29, .aload 0, .null, [], []),
  (29, 32, .getfield 0, .null, [], [5, 7, 3]),
  (32, 35, .invokestatic 0, .null, [], [35, 5, 0]),
  (35, 36, .aload 0, .null, [], []),
  (36, 39, .getfield 0, .null, [], [5, 7, 3]),
  (39, 42, .invokestatic 0, .null, [], [24, 1, 1]),
  (42, 43, .istore 3, .null, [], []),
  (43, 44, .iload 3, .null, [], []),
  (44, 47, .ifCond .eq 0, .null, [], [4]),
  (47, 48, .aload 0, .null, [], []),
  (48, 51, .getfield 0, .null, [], [5, 6, 3]),
  (51, 52, .aload 0, .null, [], []),
  (52, 55, .getfield 0, .null, [], [5, 5, 3]),
  (55, 58, .invokestatic 0, .null, [], [14, 2, 0]),
  (58, 61, .iinc 2 0, .int (1 : Int32), [], []),
  (61, 64, .goto 0, .null, [], [4]),
  (64, 65, .iload 2, .null, [], []),
  (65, 66, .ireturn, .null, [], [0])]
def zh_87 : List (Nat × List Nat) := [(4, [0, 1, 2, 3])]
-- 88: PrimeCertificates$Maker.factorNumber:(I)[I
def zo_88 : List (Nat × Nat × dzOp) := [
  (0, 1, .aload 0, .null, [], []),
  (1, 4, .getfield 0, .null, [], [5, 1, 3]),
  (4, 7, .getfield 0, .null, [], [4, 0, 3]),
  (7, 8, .aload 0, .null, [], []),
  (8, 11, .getfield 0, .null, [], [5, 4, 3]),
  (11, 14, .getfield 0, .null, [], [3, 0, 3]),
  (14, 15, .iload 1, .null, [], []),
  (15, 16, .iaload, .null, [], []),
  (16, 17, .aaload, .null, [], []),
  (17, 18, .areturn, .null, [], [])]
def zh_88 : List (Nat × List Nat) := []
-- 89: PrimeCertificates$Maker.insertFactor:(II)Z
def zo_89 : List (Nat × Nat × dzOp) := [
  (0, 1, .aload 0, .null, [], []),
  (1, 4, .getfield 0, .null, [], [5, 4, 3]),
  (4, 7, .getfield 0, .null, [], [3, 3, 1]),
  (7, 9, .nop, .int (40 : Int32), [], []),
  (9, 12, .if_icmp .lt 0, .null, [], [14]),
  (12, 13, .nop, .int (0 : Int32), [], []),
  (13, 14, .ireturn, .null, [], [1]),
  (14, 15, .aload 0, .null, [], []),
  (15, 18, .getfield 0, .null, [], [5, 4, 3]),
  (18, 21, .getfield 0, .null, [], [3, 3, 1]),
  (21, 22, .istore 3, .null, [], []),
  (22, 23, .iload 3, .null, [], []),
  (23, 26, .ifCond .le 0, .null, [], [94]),
  (26, 27, .aload 0, .null, [], []),
  (27, 28, .iload 3, .null, [], []),
  (28, 29, .nop, .int (1 : Int32), [], []),
  (29, 30, .isub, .null, [], []),
  (30, 33, .invokestatic 0, .null, [], [88, 2, 3]),
  (33, 34, .aload 0, .null, [], []),
  (34, 37, .getfield 0, .null, [], [5, 1, 3]),
  (37, 40, .getfield 0, .null, [], [4, 0, 3]),
  (40, 41, .iload 1, .null, [], []),
  (41, 42, .aaload, .null, [], []),
  (42, 45, .invokestatic 0, .null, [], [42, 2, 1]),
  (45, 48, .ifCond .le 0, .null, [], [94]),
  (48, 49, .aload 0, .null, [], []),
  (49, 52, .getfield 0, .null, [], [5, 4, 3]),
  (52, 55, .getfield 0, .null, [], [3, 0, 3]),
  (55, 56, .iload 3, .null, [], []),
  (56, 57, .aload 0, .null, [], []),
  (57, 60, .getfield 0, .null, [], [5, 4, 3]),
  (60, 63, .getfield 0, .null, [], [3, 0, 3]),
  (63, 64, .iload 3, .null, [], []),
  (64, 65, .nop, .int (1 : Int32), [], []),
  (65, 66, .isub, .null, [], []),
  (66, 67, .iaload, .null, [], []),
  (67, 68, .iastore, .null, [], []),
  (68, 69, .aload 0, .null, [], []),
  (69, 72, .getfield 0, .null, [], [5, 4, 3]),
  (72, 75, .getfield 0, .null, [], [3, 1, 3]),
  (75, 76, .iload 3, .null, [], []),
  (76, 77, .aload 0, .null, [], []),
  (77, 80, .getfield 0, .null, [], [5, 4, 3]),
  (80, 83, .getfield 0, .null, [], [3, 1, 3]),
  (83, 84, .iload 3, .null, [], []),
  (84, 85, .nop, .int (1 : Int32), [], []),
  (85, 86, .isub, .null, [], []),
  (86, 87, .iaload, .null, [], []),
  (87, 88, .iastore, .null, [], []),
  (88, 91, .iinc 3 0, .int (-1 : Int32), [], []),
  (91, 94, .goto 0, .null, [], [22]),
  (94, 95, .aload 0, .null, [], []),
  (95, 98, .getfield 0, .null, [], [5, 4, 3]),
  (98, 101, .getfield 0, .null, [], [3, 0, 3]),
  (101, 102, .iload 3, .null, [], []),
  (102, 103, .iload 1, .null, [], []),
  (103, 104, .iastore, .null, [], []),
  (104, 105, .aload 0, .null, [], []),
  (105, 108, .getfield 0, .null, [], [5, 4, 3]),
  (108, 111, .getfield 0, .null, [], [3, 1, 3]),
  (111, 112, .iload 3, .null, [], []),
  (112, 113, .iload 2, .null, [], []),
  (113, 114, .iastore, .null, [], []),
  (114, 115, .aload 0, .null, [], []),
  (115, 118, .getfield 0, .null, [], [5, 4, 3]),
  (118, 119, .dup, .null, [], []),
  (119, 122, .getfield 0, .null, [], [3, 3, 1]),
  (122, 123, .nop, .int (1 : Int32), [], []),
  (123, 124, .iadd, .null, [], []),
  (124, 127, .putfield 0, .null, [], [3, 3, 1]),
  (127, 128, .nop, .int (1 : Int32), [], []),
  (128, 129, .ireturn, .null, [], [1])]
def zh_89 : List (Nat × List Nat) := [(22, [0, 1, 2, 3]), (94, [0, 1, 2, 3])]
-- 90: PrimeCertificates$Maker.insertPrime:(I)Z
def zo_90 : List (Nat × Nat × dzOp) := [
  (0, 1, .aload 0, .null, [], []),
  (1, 4, .getfield 0, .null, [], [5, 1, 3]),
  (4, 5, .aload 0, .null, [], []),
  (5, 8, .getfield 0, .null, [], [5, 8, 3]),
  (8, 11, .invokestatic 0, .null, [], [83, 2, 1]),
  (11, 12, .istore 2, .null, [], []),
  (12, 13, .iload 2, .null, [], []),
  (13, 15, .nop, .int (-2 : Int32), [], []),
  (15, 18, .if_icmp .eq 0, .null, [], [25]),
  (18, 19, .aload 0, .null, [], []),
  (19, 20, .iload 2, .null, [], []),
  (20, 21, .iload 1, .null, [], []),
  (21, 24, .invokestatic 0, .null, [], [89, 3, 1]),
  (24, 25, .ireturn, .null, [], [1]),
  (25, 26, .aload 0, .null, [], []),
  (26, 27, .aload 0, .null, [], []),
  (27, 30, .getfield 0, .null, [], [5, 8, 3]),
  (30, 33, .invokestatic 0, .null, [], [84, 2, 1]),
  (33, 36, .ifCond .eq 0, .null, [], [62]),
  (36, 37, .aload 0, .null, [], []),
  (37, 38, .aload 0, .null, [], []),
  (38, 41, .getfield 0, .null, [], [5, 1, 3]),
  (41, 44, .getfield 0, .null, [], [4, 2, 1]),
  (44, 45, .aload 0, .null, [], []),
  (45, 48, .getfield 0, .null, [], [5, 9, 1]),
  (48, 49, .iadd, .null, [], []),
  (49, 50, .nop, .int (1 : Int32), [], []),
  (50, 51, .isub, .null, [], []),
  (51, 52, .iload 1, .null, [], []),
  (52, 55, .invokestatic 0, .null, [], [89, 3, 1]),
  (55, 58, .ifCond .eq 0, .null, [], [62]),
  (58, 59, .nop, .int (1 : Int32), [], []),
  (59, 62, .goto 0, .null, [], [63]),
  (62, 63, .nop, .int (0 : Int32), [], []),
  (63, 64, .ireturn, .null, [], [1])]
def zh_90 : List (Nat × List Nat) := []
-- 91: PrimeCertificates$Maker.findFactors:()Z
def zo_91 : List (Nat × Nat × dzOp) := [
  (0, 1, .aload 0, .null, [], []),
  (1, 4, .getfield 0, .null, [], [5, 4, 3]),
  (4, 5, .nop, .int (0 : Int32), [], []),
  (5, 8, .putfield 0, .null, [], [3, 3, 1]),
  (8, 9, .aload 0, .null, [], []),
  (9, 12, .getfield 0, .null, [], [5, 3, 3]),
  (12, 15, .getfield 0, .null, [], [8, 2, 3]),
  (15, 16, .aload 0, .null, [], []),
  (16, 19, .getfield 0, .null, [], [5, 5, 3]),
  (19, 22, .invokestatic 0, .null, [], [14, 2, 0]),
  (22, 23, .nop, .int (2 : Int32), [], []),
  (23, 24, .istore 1, .null, [], []),
  (24, 25, .iload 1, .null, [], []),
  (25, 28, .nop, .int (1009 : Int32), [], []),
  (28, 31, .if_icmp .gt 0, .null, [], [75]),
  (31, 32, .iload 1, .null, [], []),
  (32, 35, .invokestatic 0, .null, [], [54, 1, 1]),
  (35, 38, .ifCond .eq 0, .null, [], [69]),
  (38, 39, .aload 0, .null, [], []),
  (39, 42, .getfield 0, .null, [], [5, 8, 3]),
  (42, 43, .iload 1, .null, [], []),
  (43, 46, .invokestatic 0, .null, [], [37, 2, 0]),
  (46, 47, .aload 0, .null, [], []),
  (47, 48, .aload 0, .null, [], []),
  (48, 51, .getfield 0, .null, [], [5, 8, 3]),
  (51, 54, .invokestatic 0, .null, [], [87, 2, 1]),
  (54, 55, .istore 2, .null, [], []),
  (55, 56, .iload 2, .null, [], []),
  (56, 59, .ifCond .le 0, .null, [], [69]),
  (59, 60, .aload 0, .null, [], []),
  (60, 61, .iload 2, .null, [], []),
  (61, 64, .invokestatic 0, .null, [], [90, 2, 1]),
  (64, 67, .ifCond .ne 0, .null, [], [69]),
  (67, 68, .nop, .int (0 : Int32), [], []),
  (68, 69, .ireturn, .null, [], [1]),
  (69, 72, .iinc 1 0, .int (1 : Int32), [], []),
  (72, 75, .goto 0, .null, [], [24]),
  (75, 76, .nop, .int (0 : Int32), [], []),
  (76, 77, .istore 1, .null, [], []),
  (77, 78, .iload 1, .null, [], []),
  (78, 79, .aload 0, .null, [], []),
  (79, 82, .getfield 0, .null, [], [5, 1, 3]),
  (82, 85, .getfield 0, .null, [], [4, 2, 1]),
  (85, 88, .if_icmp .ge 0, .null, [], [139]),
  (88, 89, .aload 0, .null, [], []),
  (89, 92, .getfield 0, .null, [], [5, 1, 3]),
  (92, 95, .getfield 0, .null, [], [4, 0, 3]),
  (95, 96, .iload 1, .null, [], []),
  (96, 97, .aaload, .null, [], []),
  (97, 98, .astore 2, .null, [], []),
  (98, 99, .aload 2, .null, [], []),
  (99, 102, .nop, .int (1009 : Int32), [], []),
  (102, 105, .invokestatic 0, .null, [], [57, 2, 1]),
  (105, 108, .ifCond .eq 0, .null, [], [112]),
  (108, 109, .nop, .int (0 : Int32), [], []),
  (109, 112, .goto 0, .null, [], [117]),
  (112, 113, .aload 0, .null, [], []),
  (113, 114, .aload 2, .null, [], []),
  (114, 117, .invokestatic 0, .null, [], [87, 2, 1]),
  (117, 118, .istore 3, .null, [], []),
  (118, 119, .iload 3, .null, [], []),
  (119, 122, .ifCond .le 0, .null, [], [133]),
  (122, 123, .aload 0, .null, [], []),
  (123, 124, .iload 1, .null, [], []),
  (124, 125, .iload 3, .null, [], []),
  (125, 128, .invokestatic 0, .null, [], [89, 3, 1]),
  (128, 131, .ifCond .ne 0, .null, [], [133]),
  (131, 132, .nop, .int (0 : Int32), [], []),
  (132, 133, .ireturn, .null, [], [1]),
  (133, 136, .iinc 1 0, .int (1 : Int32), [], []),
  (136, 139, .goto 0, .null, [], [77]),
  (139, 140, .nop, .int (1 : Int32), [], []),
  (140, 141, .ireturn, .null, [], [1])]
def zh_91 : List (Nat × List Nat) := [(24, [0, 1]), (69, [0, 1]), (77, [0, 1]), (117, [0, 1, 2]), (133, [0, 1, 2, 3])]
-- 92: PrimeCertificates$Maker.lastLineInts:(Z)I
def zo_92 : List (Nat × Nat × dzOp) := [
  (0, 1, .aload 0, .null, [], []),
  (1, 4, .getfield 0, .null, [], [5, 3, 3]),
  (4, 7, .getfield 0, .null, [], [8, 1, 3]),
  (7, 10, .invokestatic 0, .null, [], [19, 1, 1]),
  (10, 11, .istore 2, .null, [], []),
  (11, 12, .iload 1, .null, [], []),
  (12, 15, .ifCond .eq 0, .null, [], [31]),
  (15, 16, .nop, .int (4 : Int32), [], []),
  (16, 17, .iload 2, .null, [], []),
  (17, 18, .iadd, .null, [], []),
  (18, 19, .nop, .int (2 : Int32), [], []),
  (19, 20, .aload 0, .null, [], []),
  (20, 23, .getfield 0, .null, [], [5, 4, 3]),
  (23, 26, .getfield 0, .null, [], [3, 3, 1]),
  (26, 27, .imul, .null, [], []),
  (27, 28, .iadd, .null, [], []),
  (28, 31, .goto 0, .null, [], [44]),
  (31, 32, .nop, .int (3 : Int32), [], []),
  (32, 33, .iload 2, .null, [], []),
  (33, 34, .iadd, .null, [], []),
  (34, 35, .nop, .int (3 : Int32), [], []),
  (35, 36, .aload 0, .null, [], []),
  (36, 39, .getfield 0, .null, [], [5, 4, 3]),
  (39, 42, .getfield 0, .null, [], [3, 3, 1]),
  (42, 43, .imul, .null, [], []),
  (43, 44, .iadd, .null, [], []),
  (44, 45, .ireturn, .null, [], [0])]
def zh_92 : List (Nat × List Nat) := []
-- 93: PrimeCertificates$Maker.factorsSuffice:()Z
def zo_93 : List (Nat × Nat × dzOp) := [
  (0, 1, .aload 0, .null, [], []),
  (1, 4, .getfield 0, .null, [], [5, 2, 3]),
  (4, 5, .aload 0, .null, [], []),
  (5, 8, .getfield 0, .null, [], [5, 3, 3]),
  (8, 11, .getfield 0, .null, [], [8, 2, 3]),
  (11, 12, .aload 0, .null, [], []),
  (12, 15, .getfield 0, .null, [], [5, 5, 3]),
  (15, 16, .aload 0, .null, [], []),
  (16, 19, .getfield 0, .null, [], [5, 6, 3]),
  (19, 20, .aload 0, .null, [], []),
  (20, 23, .getfield 0, .null, [], [5, 7, 3]),
  (23, 26, .invokestatic 0, .null, [], [35, 5, 0]),
  (26, 27, .aload 0, .null, [], []),
  (27, 30, .getfield 0, .null, [], [5, 2, 3]),
  (30, 31, .aload 0, .null, [], []),
  (31, 34, .getfield 0, .null, [], [5, 6, 3]),
  (34, 35, .aload 0, .null, [], []),
  (35, 38, .getfield 0, .null, [], [5, 3, 3]),
  (38, 41, .getfield 0, .null, [], [8, 1, 3]),
  (41, 44, .invokestatic 0, .null, [], [69, 3, 1]),
  (44, 45, .ireturn, .null, [], [1])]
def zh_93 : List (Nat × List Nat) := []
-- 94: PrimeCertificates$Maker.findRoot:()Z
def zo_94 : List (Nat × Nat × dzOp) := [
  (0, 1, .nop, .int (2 : Int32), [], []),
  (1, 2, .istore 1, .null, [], []),
  (2, 3, .iload 1, .null, [], []),
  (3, 6, .nop, .int (200 : Int32), [], []),
  (6, 9, .if_icmp .gt 0, .null, [], [75]),
  (9, 10, .nop, .int (0 : Int32), [], []),
  (10, 11, .istore 2, .null, [], []),
  (11, 12, .iload 2, .null, [], []),
  (12, 13, .aload 0, .null, [], []),
  (13, 16, .getfield 0, .null, [], [5, 4, 3]),
  (16, 19, .getfield 0, .null, [], [3, 3, 1]),
  (19, 22, .if_icmp .ge 0, .null, [], [44]),
  (22, 23, .aload 0, .null, [], []),
  (23, 26, .getfield 0, .null, [], [5, 3, 3]),
  (26, 27, .iload 1, .null, [], []),
  (27, 28, .aload 0, .null, [], []),
  (28, 29, .iload 2, .null, [], []),
  (29, 32, .invokestatic 0, .null, [], [88, 2, 3]),
  (32, 35, .invokestatic 0, .null, [], [73, 3, 1]),
  (35, 38, .ifCond .eq 0, .null, [], [44]),
  (38, 41, .iinc 2 0, .int (1 : Int32), [], []),
  (41, 44, .goto 0, .null, [], [11]),
  (44, 45, .iload 2, .null, [], []),
  (45, 46, .aload 0, .null, [], []),
  (46, 49, .getfield 0, .null, [], [5, 4, 3]),
  (49, 52, .getfield 0, .null, [], [3, 3, 1]),
  (52, 55, .if_icmp .ne 0, .null, [], [69]),
  (55, 56, .aload 0, .null, [], []),
  (56, 57, .iload 1, .null, [], []),
  (57, 60, .putfield 0, .null, [], [5, 10, 1]),
  (60, 61, .aload 0, .null, [], []),
  (61, 64, .getfield 0, .null, [], [5, 3, 3]),
  (64, 65, .iload 1, .null, [], []),
  (65, 68, .invokestatic 0, .null, [], [72, 2, 1]),
  (68, 69, .ireturn, .null, [], [1]),
  (69, 72, .iinc 1 0, .int (1 : Int32), [], []),
  (72, 75, .goto 0, .null, [], [2]),
  (75, 76, .nop, .int (0 : Int32), [], []),
  (76, 77, .ireturn, .null, [], [1])]
def zh_94 : List (Nat × List Nat) := [(2, [0, 1]), (11, [0, 1, 2]), (44, [0, 1, 2])]
-- 95: java/lang/Math.max:(II)I
def zo_95 : List (Nat × Nat × dzOp) := [
  (0, 1, .iload 0, .null, [], []),
  (1, 2, .iload 1, .null, [], []),
  (2, 5, .if_icmp .lt 0, .null, [], [9]),
  (5, 6, .iload 0, .null, [], []),
  (6, 9, .goto 0, .null, [], [10]),
  (9, 10, .iload 1, .null, [], []),
  (10, 11, .ireturn, .null, [], [0])]
def zh_95 : List (Nat × List Nat) := []
-- 96: PrimeCertificates$Maker.findWitnesses:()Z
def zo_96 : List (Nat × Nat × dzOp) := [
  (0, 1, .nop, .int (1 : Int32), [], []),
  (1, 2, .istore 1, .null, [], []),
  (2, 3, .nop, .int (0 : Int32), [], []),
  (3, 4, .istore 2, .null, [], []),
  (4, 5, .iload 2, .null, [], []),
  (5, 6, .aload 0, .null, [], []),
  (6, 9, .getfield 0, .null, [], [5, 4, 3]),
  (9, 12, .getfield 0, .null, [], [3, 3, 1]),
  (12, 15, .if_icmp .ge 0, .null, [], [122]),
  (15, 16, .aload 0, .null, [], []),
  (16, 19, .getfield 0, .null, [], [5, 4, 3]),
  (19, 22, .getfield 0, .null, [], [3, 2, 3]),
  (22, 23, .iload 2, .null, [], []),
  (23, 24, .nop, .int (0 : Int32), [], []),
  (24, 25, .iastore, .null, [], []),
  (25, 26, .nop, .int (2 : Int32), [], []),
  (26, 27, .istore 3, .null, [], []),
  (27, 28, .iload 3, .null, [], []),
  (28, 31, .nop, .int (200 : Int32), [], []),
  (31, 34, .if_icmp .gt 0, .null, [], [102]),
  (34, 35, .aload 0, .null, [], []),
  (35, 38, .getfield 0, .null, [], [5, 4, 3]),
  (38, 41, .getfield 0, .null, [], [3, 2, 3]),
  (41, 42, .iload 2, .null, [], []),
  (42, 43, .iaload, .null, [], []),
  (43, 46, .ifCond .ne 0, .null, [], [102]),
  (46, 47, .iload 3, .null, [], []),
  (47, 48, .iload 1, .null, [], []),
  (48, 51, .if_icmp .le 0, .null, [], [64]),
  (51, 52, .aload 0, .null, [], []),
  (52, 55, .getfield 0, .null, [], [5, 3, 3]),
  (55, 56, .iload 3, .null, [], []),
  (56, 59, .invokestatic 0, .null, [], [72, 2, 1]),
  (59, 62, .ifCond .ne 0, .null, [], [64]),
  (62, 63, .nop, .int (0 : Int32), [], []),
  (63, 64, .ireturn, .null, [], [1]),
  (64, 65, .iload 1, .null, [], []),
  (65, 66, .iload 3, .null, [], []),
  (66, 69, .invokestatic 0, .null, [], [95, 2, 1]),
  (69, 70, .istore 1, .null, [], []),
  (70, 71, .aload 0, .null, [], []),
  (71, 74, .getfield 0, .null, [], [5, 3, 3]),
  (74, 75, .iload 3, .null, [], []),
  (75, 76, .aload 0, .null, [], []),
  (76, 77, .iload 2, .null, [], []),
  (77, 80, .invokestatic 0, .null, [], [88, 2, 3]),
  (80, 83, .invokestatic 0, .null, [], [76, 3, 1]),
  (83, 86, .ifCond .eq 0, .null, [], [96]),
  (86, 87, .aload 0, .null, [], []),
  (87, 90, .getfield 0, .null, [], [5, 4, 3]),
  (90, 93, .getfield 0, .null, [], [3, 2, 3]),
  (93, 94, .iload 2, .null, [], []),
  (94, 95, .iload 3, .null, [], []),
  (95, 96, .iastore, .null, [], []),
  (96, 99, .iinc 3 0, .int (1 : Int32), [], []),
  (99, 102, .goto 0, .null, [], [27]),
  (102, 103, .aload 0, .null, [], []),
  (103, 106, .getfield 0, .null, [], [5, 4, 3]),
  (106, 109, .getfield 0, .null, [], [3, 2, 3]),
  (109, 110, .iload 2, .null, [], []),
  (110, 111, .iaload, .null, [], []),
  (111, 114, .ifCond .ne 0, .null, [], [116]),
  (114, 115, .nop, .int (0 : Int32), [], []),
  (115, 116, .ireturn, .null, [], [1]),
  (116, 119, .iinc 2 0, .int (1 : Int32), [], []),
  (119, 122, .goto 0, .null, [], [4]),
  (122, 123, .nop, .int (1 : Int32), [], []),
  (123, 124, .ireturn, .null, [], [1])]
def zh_96 : List (Nat × List Nat) := [(4, [0, 1, 2]), (27, [0, 1, 2, 3]), (64, [0, 1, 2, 3]), (96, [0, 1, 2, 3]), (102, [0, 1, 2, 3])]
-- 97: PrimeCertificates$Maker.writeLastLine:(Z)I
def zo_97 : List (Nat × Nat × dzOp) := [
  (0, 1, .aload 0, .null, [], []),
  (1, 4, .getfield 0, .null, [], [5, 3, 3]),
  (4, 7, .getfield 0, .null, [], [8, 1, 3]),
  (7, 8, .aload 0, .null, [], []),
  (8, 11, .getfield 0, .null, [], [5, 1, 3]),
  (11, 14, .getfield 0, .null, [], [4, 0, 3]),
  (14, 15, .aload 0, .null, [], []),
  (15, 18, .getfield 0, .null, [], [5, 1, 3]),
  (18, 21, .getfield 0, .null, [], [4, 2, 1]),
  (21, 22, .aaload, .null, [], []),
  (22, 25, .invokestatic 0, .null, [], [14, 2, 0]),
  (25, 26, .aload 0, .null, [], []),
  (26, 29, .getfield 0, .null, [], [5, 3, 3]),
  (29, 32, .getfield 0, .null, [], [8, 1, 3]),
  (32, 35, .invokestatic 0, .null, [], [19, 1, 1]),
  (35, 36, .istore 2, .null, [], []),
  (36, 37, .aload 0, .null, [], []),
  (37, 40, .getfield 0, .null, [], [5, 0, 3]),
  (40, 41, .iload 1, .null, [], []),
  (41, 44, .ifCond .eq 0, .null, [], [48]),
  (44, 45, .nop, .int (2 : Int32), [], []),
  (45, 48, .goto 0, .null, [], [49]),
  (48, 49, .nop, .int (3 : Int32), [], []),
  (49, 52, .invokestatic 0, .null, [], [45, 2, 0]),
  (52, 53, .aload 0, .null, [], []),
  (53, 56, .getfield 0, .null, [], [5, 0, 3]),
  (56, 57, .iload 2, .null, [], []),
  (57, 60, .invokestatic 0, .null, [], [45, 2, 0]),
  (60, 61, .nop, .int (0 : Int32), [], []),
  (61, 62, .istore 3, .null, [], []),
  (62, 63, .iload 3, .null, [], []),
  (63, 64, .iload 2, .null, [], []),
  (64, 67, .if_icmp .ge 0, .null, [], [89]),
  (67, 68, .aload 0, .null, [], []),
  (68, 71, .getfield 0, .null, [], [5, 0, 3]),
  (71, 72, .aload 0, .null, [], []),
  (72, 75, .getfield 0, .null, [], [5, 3, 3]),
  (75, 78, .getfield 0, .null, [], [8, 1, 3]),
  (78, 79, .iload 3, .null, [], []),
  (79, 80, .iaload, .null, [], []),
  (80, 83, .invokestatic 0, .null, [], [45, 2, 0]),
  (83, 86, .iinc 3 0, .int (1 : Int32), [], []),
  (86, 89, .goto 0, .null, [], [62]),
  (89, 90, .iload 1, .null, [], []),
  (90, 93, .ifCond .eq 0, .null, [], [104]),
  (93, 94, .aload 0, .null, [], []),
  (94, 97, .getfield 0, .null, [], [5, 0, 3]),
  (97, 98, .aload 0, .null, [], []),
  (98, 101, .getfield 0, .null, [], [5, 10, 1]),
  (101, 104, .invokestatic 0, .null, [], [45, 2, 0]),
  (104, 105, .aload 0, .null, [], []),
  (105, 108, .getfield 0, .null, [], [5, 0, 3]),
  (108, 109, .aload 0, .null, [], []),
  (109, 112, .getfield 0, .null, [], [5, 4, 3]),
  (112, 115, .getfield 0, .null, [], [3, 3, 1]),
  (115, 118, .invokestatic 0, .null, [], [45, 2, 0]),
  (118, 119, .nop, .int (0 : Int32), [], []),
  (119, 120, .istore 3, .null, [], []),
  (120, 121, .iload 3, .null, [], []),
  (121, 122, .aload 0, .null, [], []),
  (122, 125, .getfield 0, .null, [], [5, 4, 3]),
  (125, 128, .getfield 0, .null, [], [3, 3, 1]),
  (128, 131, .if_icmp .ge 0, .null, [], [189]),
  (131, 132, .aload 0, .null, [], []),
  (132, 135, .getfield 0, .null, [], [5, 0, 3]),
  (135, 136, .aload 0, .null, [], []),
  (136, 139, .getfield 0, .null, [], [5, 4, 3]),
  (139, 142, .getfield 0, .null, [], [3, 0, 3]),
  (142, 143, .iload 3, .null, [], []),
  (143, 144, .iaload, .null, [], []),
  (144, 147, .invokestatic 0, .null, [], [45, 2, 0]),
  (147, 148, .aload 0, .null, [], []),
  (148, 151, .getfield 0, .null, [], [5, 0, 3]),
  (151, 152, .aload 0, .null, [], []),
  (152, 155, .getfield 0, .null, [], [5, 4, 3]),
  (155, 158, .getfield 0, .null, [], [3, 1, 3]),
  (158, 159, .iload 3, .null, [], []),
  (159, 160, .iaload, .null, [], []),
  (160, 163, .invokestatic 0, .null, [], [45, 2, 0]),
  (163, 164, .iload 1, .null, [], []),
  (164, 167, .ifCond .ne 0, .null, [], [183]),
  (167, 168, .aload 0, .null, [], []),
  (168, 171, .getfield 0, .null, [], [5, 0, 3]),
  (171, 172, .aload 0, .null, [], []),
  (172, 175, .getfield 0, .null, [], [5, 4, 3]),
  (175, 178, .getfield 0, .null, [], [3, 2, 3]),
  (178, 179, .iload 3, .null, [], []),
  (179, 180, .iaload, .null, [], []),
  (180, 183, .invokestatic 0, .null, [], [45, 2, 0]),
  (183, 186, .iinc 3 0, .int (1 : Int32), [], []),
  (186, 189, .goto 0, .null, [], [120]),
  (189, 190, .aload 0, .null, [], []),
  (190, 193, .getfield 0, .null, [], [5, 1, 3]),
  (193, 194, .aload 0, .null, [], []),
  (194, 197, .getfield 0, .null, [], [5, 0, 3]),
  (197, 200, .getfield 0, .null, [], [7, 1, 1]),
  (200, 203, .invokestatic 0, .null, [], [78, 2, 0]),
  (203, 204, .aload 0, .null, [], []),
  (204, 207, .getfield 0, .null, [], [5, 1, 3]),
  (207, 210, .getfield 0, .null, [], [4, 2, 1]),
  (210, 211, .nop, .int (1 : Int32), [], []),
  (211, 212, .isub, .null, [], []),
  (212, 213, .ireturn, .null, [], [0])]
def zh_97 : List (Nat × List Nat) := [(49, [0, 1, 2]), (62, [0, 1, 2, 3]), (104, [0, 1, 2, 3]), (120, [0, 1, 2, 3]), (183, [0, 1, 2, 3])]
-- 98: PrimeCertificates$Maker.lineFor:([I)I
def zo_98 : List (Nat × Nat × dzOp) := [
  (0, 1, .aload 0, .null, [], []),
  (1, 4, .getfield 0, .null, [], [5, 1, 3]),
  (4, 5, .aload 1, .null, [], []),
  (5, 8, .invokestatic 0, .null, [], [83, 2, 1]),
  (8, 9, .istore 2, .null, [], []),
  (9, 10, .iload 2, .null, [], []),
  (10, 12, .nop, .int (-2 : Int32), [], []),
  (12, 15, .if_icmp .eq 0, .null, [], [17]),
  (15, 16, .iload 2, .null, [], []),
  (16, 17, .ireturn, .null, [], [0]),
  (17, 18, .aload 0, .null, [], []),
  (18, 19, .nop, .int (0 : Int32), [], []),
  (19, 22, .putfield 0, .null, [], [5, 9, 1]),
  (22, 23, .aload 1, .null, [], []),
  (23, 25, .nop, .int (65535 : Int32), [], []),
  (25, 28, .invokestatic 0, .null, [], [57, 2, 1]),
  (28, 31, .ifCond .eq 0, .null, [], [66]),
  (31, 32, .aload 1, .null, [], []),
  (32, 33, .nop, .int (0 : Int32), [], []),
  (33, 34, .iaload, .null, [], []),
  (34, 37, .invokestatic 0, .null, [], [54, 1, 1]),
  (37, 40, .ifCond .eq 0, .null, [], [63]),
  (40, 41, .aload 0, .null, [], []),
  (41, 42, .aload 1, .null, [], []),
  (42, 45, .invokestatic 0, .null, [], [84, 2, 1]),
  (45, 48, .ifCond .eq 0, .null, [], [63]),
  (48, 49, .aload 0, .null, [], []),
  (49, 50, .nop, .int (0 : Int32), [], []),
  (50, 53, .invokestatic 0, .null, [], [85, 2, 1]),
  (53, 56, .ifCond .eq 0, .null, [], [63]),
  (56, 57, .aload 0, .null, [], []),
  (57, 60, .invokestatic 0, .null, [], [86, 1, 1]),
  (60, 63, .goto 0, .null, [], [65]),
  (63, 65, .nop, .int (-2 : Int32), [], []),
  (65, 66, .ireturn, .null, [], [0]),
  (66, 67, .aload 0, .null, [], []),
  (67, 70, .getfield 0, .null, [], [5, 3, 3]),
  (70, 71, .aload 1, .null, [], []),
  (71, 74, .invokestatic 0, .null, [], [66, 2, 0]),
  (74, 75, .aload 0, .null, [], []),
  (75, 78, .invokestatic 0, .null, [], [91, 1, 1]),
  (78, 81, .ifCond .ne 0, .null, [], [84]),
  (81, 83, .nop, .int (-2 : Int32), [], []),
  (83, 84, .ireturn, .null, [], [0]),
  (84, 85, .aload 0, .null, [], []),
  (85, 88, .getfield 0, .null, [], [5, 5, 3]),
  (88, 91, .invokestatic 0, .null, [], [71, 1, 1]),
  (91, 92, .istore 3, .null, [], []),
  (92, 93, .aload 0, .null, [], []),
  (93, 94, .aload 0, .null, [], []),
  (94, 95, .iload 3, .null, [], []),
  (95, 98, .invokestatic 0, .null, [], [92, 2, 1]),
  (98, 101, .invokestatic 0, .null, [], [85, 2, 1]),
  (101, 104, .ifCond .eq 0, .null, [], [115]),
  (104, 105, .iload 3, .null, [], []),
  (105, 108, .ifCond .ne 0, .null, [], [118]),
  (108, 109, .aload 0, .null, [], []),
  (109, 112, .invokestatic 0, .null, [], [93, 1, 1]),
  (112, 115, .ifCond .ne 0, .null, [], [118]),
  (115, 117, .nop, .int (-2 : Int32), [], []),
  (117, 118, .ireturn, .null, [], [0]),
  (118, 119, .iload 3, .null, [], []),
  (119, 122, .ifCond .eq 0, .null, [], [132]),
  (122, 123, .aload 0, .null, [], []),
  (123, 126, .invokestatic 0, .null, [], [94, 1, 1]),
  (126, 129, .ifCond .eq 0, .null, [], [139]),
  (129, 132, .goto 0, .null, [], [142]),
  (132, 133, .aload 0, .null, [], []),
  (133, 136, .invokestatic 0, .null, [], [96, 1, 1]),
  (136, 139, .ifCond .ne 0, .null, [], [142]),
  (139, 141, .nop, .int (-2 : Int32), [], []),
  (141, 142, .ireturn, .null, [], [0]),
  (142, 143, .aload 0, .null, [], []),
  (143, 146, .invokestatic 0, .null, [], [86, 1, 1]),
  (146, 147, .pop, .null, [], []),
  (147, 148, .aload 0, .null, [], []),
  (148, 149, .iload 3, .null, [], []),
  (149, 152, .invokestatic 0, .null, [], [97, 2, 1]),
  (152, 153, .ireturn, .null, [], [0])]
def zh_98 : List (Nat × List Nat) := [(118, [0, 1, 2, 3]), (142, [0, 1, 2, 3])]
-- 99: PrimeCertificates.prove:(I)I
def zo_99 : List (Nat × Nat × dzOp) := [
  (0, 1, .iload 1, .null, [], []),
  (1, 4, .invokestatic 0, .null, [], [8, 1, 1]),
  (4, 7, .ifCond .ne 0, .null, [], [9]),
  (7, 8, .nop, .int (-1 : Int32), [], []),
  (8, 9, .ireturn, .null, [], [0]),
  (9, 10, .aload 0, .null, [], []),
  (10, 13, .getfield 0, .null, [], [0, 6, 3]),
  (13, 16, .invokestatic 0, .null, [], [79, 1, 1]),
  (16, 17, .istore 2, .null, [], []),
  (17, 18, .iload 2, .null, [], []),
  (18, 21, .ifCond .eq 0, .null, [], [26]),
  (21, 23, .nop, .int (-100 : Int32), [], []),
  (23, 24, .iload 2, .null, [], []),
  (24, 25, .isub, .null, [], []),
  (25, 26, .ireturn, .null, [], [0]),
  (26, 27, .aload 0, .null, [], []),
  (27, 30, .getfield 0, .null, [], [0, 7, 3]),
  (30, 31, .aload 0, .null, [], []),
  (31, 34, .getfield 0, .null, [], [0, 0, 3]),
  (34, 35, .iload 1, .null, [], []),
  (35, 36, .aaload, .null, [], []),
  (36, 39, .invokestatic 0, .null, [], [98, 2, 1]),
  (39, 40, .istore 3, .null, [], []),
  (40, 41, .aload 0, .null, [], []),
  (41, 44, .getfield 0, .null, [], [0, 5, 3]),
  (44, 45, .aload 0, .null, [], []),
  (45, 48, .getfield 0, .null, [], [0, 5, 3]),
  (48, 51, .getfield 0, .null, [], [4, 2, 1]),
  (51, 54, .putfield 0, .null, [], [4, 3, 1]),
  (54, 55, .iload 3, .null, [], []),
  (55, 56, .ireturn, .null, [], [0])]
def zh_99 : List (Nat × List Nat) := []
-- 100: PrimeCertificatesModel.set:(IJ)V
def zo_100 : List (Nat × Nat × dzOp) := [
  (0, 1, .nop, .int (0 : Int32), [], []),
  (1, 3, .istore 4, .null, [], []),
  (3, 5, .iload 4, .null, [], []),
  (5, 7, .nop, .int (40 : Int32), [], []),
  (7, 10, .if_icmp .ge 0, .null, [], [50]),
  (10, 11, .aload 0, .null, [], []),
  (11, 14, .getfield 0, .null, [], [1, 0, 3]),
  (14, 16, .nop, .int (40 : Int32), [], []),
  (16, 17, .iload 1, .null, [], []),
  (17, 18, .imul, .null, [], []),
  (18, 20, .iload 4, .null, [], []),
  (20, 21, .iadd, .null, [], []),
  (21, 23, .iload 4, .null, [], []),
  (23, 24, .nop, .int (4 : Int32), [], []),
  (24, 27, .if_icmp .ge 0, .null, [], [42]),
  (27, 28, .lload 2, .null, [], []),
  (28, 30, .nop, .int (16 : Int32), [], []),
  (30, 32, .iload 4, .null, [], []),
  (32, 33, .imul, .null, [], []),
  (33, 34, .lshr, .null, [], []),
  (34, 37, .nop, .long (65535 : Int64), [], []),
  (37, 38, .land, .null, [], []),
  (38, 39, .l2i, .null, [], []),
  (39, 42, .goto 0, .null, [], [43]),
  (42, 43, .nop, .int (0 : Int32), [], []),
  (43, 44, .iastore, .null, [], []),
  (44, 47, .iinc 4 0, .int (1 : Int32), [], []),
  (47, 50, .goto 0, .null, [], [3]),
  (50, 51, .return_, .null, [], [])]
def zh_100 : List (Nat × List Nat) := [(3, [0, 1, 2, 4]), (43, [0, 1, 2, 4])]
-- 101: PrimeCertificatesModel.<init>:()V
def zo_101 : List (Nat × Nat × dzOp) := [
  (0, 1, .aload 0, .null, [], []),
  (1, 4, .invokespecial 0, .null, [], []),
  (4, 5, .aload 0, .null, [], []),
  (5, 8, .nop, .int (9280 : Int32), [], []),
  (8, 10, .newarray .int, .null, [], []),
  (10, 13, .putfield 0, .null, [], [1, 0, 3]),
  (13, 14, .aload 0, .null, [], []),
  (14, 17, .nop, .int (4000 : Int32), [], []),
  (17, 19, .newarray .int, .null, [], []),
  (19, 22, .putfield 0, .null, [], [1, 1, 3]),
  (22, 23, .aload 0, .null, [], []),
  (23, 25, .nop, .int (-2 : Int32), [], []),
  (25, 28, .putfield 0, .null, [], [1, 3, 1]),
  (28, 29, .aload 0, .null, [], []),
  (29, 31, .nop, .int (40 : Int32), [], []),
  (31, 33, .newarray .int, .null, [], []),
  (33, 36, .putfield 0, .null, [], [1, 9, 3]),
  (36, 37, .aload 0, .null, [], []),
  (37, 39, .nop, .int (40 : Int32), [], []),
  (39, 41, .newarray .int, .null, [], []),
  (41, 44, .putfield 0, .null, [], [1, 10, 3]),
  (44, 45, .aload 0, .null, [], []),
  (45, 47, .nop, .int (40 : Int32), [], []),
  (47, 49, .newarray .int, .null, [], []),
  (49, 52, .putfield 0, .null, [], [1, 11, 3]),
  (52, 53, .aload 0, .null, [], []),
  (53, 55, .nop, .int (21 : Int32), [], []),
  (55, 56, .nop, .long (1 : Int64), [], []),
  (56, 59, .invokestatic 0, .null, [], [100, 3, 0]),
  (59, 60, .return_, .null, [], [])]
def zh_101 : List (Nat × List Nat) := []
-- 102: PrimeCertificatesModel.copy:(II)V
def zo_102 : List (Nat × Nat × dzOp) := [
  (0, 1, .nop, .int (0 : Int32), [], []),
  (1, 2, .istore 3, .null, [], []),
  (2, 3, .iload 3, .null, [], []),
  (3, 5, .nop, .int (40 : Int32), [], []),
  (5, 8, .if_icmp .ge 0, .null, [], [36]),
  (8, 9, .aload 0, .null, [], []),
  (9, 12, .getfield 0, .null, [], [1, 0, 3]),
  (12, 14, .nop, .int (40 : Int32), [], []),
  (14, 15, .iload 2, .null, [], []),
  (15, 16, .imul, .null, [], []),
  (16, 17, .iload 3, .null, [], []),
  (17, 18, .iadd, .null, [], []),
  (18, 19, .aload 0, .null, [], []),
  (19, 22, .getfield 0, .null, [], [1, 0, 3]),
  (22, 24, .nop, .int (40 : Int32), [], []),
  (24, 25, .iload 1, .null, [], []),
  (25, 26, .imul, .null, [], []),
  (26, 27, .iload 3, .null, [], []),
  (27, 28, .iadd, .null, [], []),
  (28, 29, .iaload, .null, [], []),
  (29, 30, .iastore, .null, [], []),
  (30, 33, .iinc 3 0, .int (1 : Int32), [], []),
  (33, 36, .goto 0, .null, [], [2]),
  (36, 37, .return_, .null, [], [])]
def zh_102 : List (Nat × List Nat) := [(2, [0, 1, 2, 3])]
-- 103: PrimeCertificatesModel.order:(II)I
def zo_103 : List (Nat × Nat × dzOp) := [
  (0, 2, .nop, .int (39 : Int32), [], []),
  (2, 3, .istore 3, .null, [], []),
  (3, 4, .iload 3, .null, [], []),
  (4, 7, .ifCond .lt 0, .null, [], [38]),
  (7, 8, .aload 0, .null, [], []),
  (8, 11, .getfield 0, .null, [], [1, 0, 3]),
  (11, 13, .nop, .int (40 : Int32), [], []),
  (13, 14, .iload 1, .null, [], []),
  (14, 15, .imul, .null, [], []),
  (15, 16, .iload 3, .null, [], []),
  (16, 17, .iadd, .null, [], []),
  (17, 18, .iaload, .null, [], []),
  (18, 19, .aload 0, .null, [], []),
  (19, 22, .getfield 0, .null, [], [1, 0, 3]),
  (22, 24, .nop, .int (40 : Int32), [], []),
  (24, 25, .iload 2, .null, [], []),
  (25, 26, .imul, .null, [], []),
  (26, 27, .iload 3, .null, [], []),
  (27, 28, .iadd, .null, [], []),
  (28, 29, .iaload, .null, [], []),
  (29, 32, .if_icmp .ne 0, .null, [], [38]),
  (32, 35, .iinc 3 0, .int (-1 : Int32), [], []),
  (35, 38, .goto 0, .null, [], [3]),
  (38, 39, .iload 3, .null, [], []),
  (39, 42, .ifCond .ge 0, .null, [], [46]),
  (42, 43, .nop, .int (0 : Int32), [], []),
  (43, 46, .goto 0, .null, [], [76]),
  (46, 47, .aload 0, .null, [], []),
  (47, 50, .getfield 0, .null, [], [1, 0, 3]),
  (50, 52, .nop, .int (40 : Int32), [], []),
  (52, 53, .iload 1, .null, [], []),
  (53, 54, .imul, .null, [], []),
  (54, 55, .iload 3, .null, [], []),
  (55, 56, .iadd, .null, [], []),
  (56, 57, .iaload, .null, [], []),
  (57, 58, .aload 0, .null, [], []),
  (58, 61, .getfield 0, .null, [], [1, 0, 3]),
  (61, 63, .nop, .int (40 : Int32), [], []),
  (63, 64, .iload 2, .null, [], []),
  (64, 65, .imul, .null, [], []),
  (65, 66, .iload 3, .null, [], []),
  (66, 67, .iadd, .null, [], []),
  (67, 68, .iaload, .null, [], []),
  (68, 71, .if_icmp .ge 0, .null, [], [75]),
  (71, 72, .nop, .int (-1 : Int32), [], []),
  (72, 75, .goto 0, .null, [], [76]),
  (75, 76, .nop, .int (1 : Int32), [], []),
  (76, 77, .ireturn, .null, [], [0])]
def zh_103 : List (Nat × List Nat) := [(3, [0, 1, 2, 3]), (38, [0, 1, 2, 3])]
-- 104: PrimeCertificatesModel.lengthOf:(I)I
def zo_104 : List (Nat × Nat × dzOp) := [
  (0, 2, .nop, .int (40 : Int32), [], []),
  (2, 3, .istore 2, .null, [], []),
  (3, 4, .iload 2, .null, [], []),
  (4, 7, .ifCond .le 0, .null, [], [29]),
  (7, 8, .aload 0, .null, [], []),
  (8, 11, .getfield 0, .null, [], [1, 0, 3]),
  (11, 13, .nop, .int (40 : Int32), [], []),
  (13, 14, .iload 1, .null, [], []),
  (14, 15, .imul, .null, [], []),
  (15, 16, .iload 2, .null, [], []),
  (16, 17, .iadd, .null, [], []),
  (17, 18, .nop, .int (1 : Int32), [], []),
  (18, 19, .isub, .null, [], []),
  (19, 20, .iaload, .null, [], []),
  (20, 23, .ifCond .ne 0, .null, [], [29]),
  (23, 26, .iinc 2 0, .int (-1 : Int32), [], []),
  (26, 29, .goto 0, .null, [], [3]),
  (29, 30, .iload 2, .null, [], []),
  (30, 31, .ireturn, .null, [], [0])]
def zh_104 : List (Nat × List Nat) := [(3, [0, 1, 2])]
-- 105: PrimeCertificatesModel.isZero:(I)Z
def zo_105 : List (Nat × Nat × dzOp) := [
  (0, 1, .aload 0, .null, [], []),
  (1, 2, .iload 1, .null, [], []),
  (2, 5, .invokestatic 0, .null, [], [104, 2, 1]),
  (5, 8, .ifCond .ne 0, .null, [], [12]),
  (8, 9, .nop, .int (1 : Int32), [], []),
  (9, 12, .goto 0, .null, [], [13]),
  (12, 13, .nop, .int (0 : Int32), [], []),
  (13, 14, .ireturn, .null, [], [1])]
def zh_105 : List (Nat × List Nat) := []
-- 106: PrimeCertificatesModel.raise:(II)V
def zo_106 : List (Nat × Nat × dzOp) := [
  (0, 1, .nop, .int (0 : Int32), [], []),
  (1, 2, .istore 3, .null, [], []),
  (2, 3, .nop, .int (0 : Int32), [], []),
  (3, 5, .istore 4, .null, [], []),
  (5, 7, .iload 4, .null, [], []),
  (7, 9, .nop, .int (40 : Int32), [], []),
  (9, 12, .if_icmp .ge 0, .null, [], [70]),
  (12, 13, .aload 0, .null, [], []),
  (13, 16, .getfield 0, .null, [], [1, 0, 3]),
  (16, 18, .nop, .int (40 : Int32), [], []),
  (18, 19, .iload 1, .null, [], []),
  (19, 20, .imul, .null, [], []),
  (20, 22, .iload 4, .null, [], []),
  (22, 23, .iadd, .null, [], []),
  (23, 24, .iaload, .null, [], []),
  (24, 25, .aload 0, .null, [], []),
  (25, 28, .getfield 0, .null, [], [1, 0, 3]),
  (28, 30, .nop, .int (40 : Int32), [], []),
  (30, 31, .iload 2, .null, [], []),
  (31, 32, .imul, .null, [], []),
  (32, 34, .iload 4, .null, [], []),
  (34, 35, .iadd, .null, [], []),
  (35, 36, .iaload, .null, [], []),
  (36, 37, .iadd, .null, [], []),
  (37, 38, .iload 3, .null, [], []),
  (38, 39, .iadd, .null, [], []),
  (39, 41, .istore 5, .null, [], []),
  (41, 42, .aload 0, .null, [], []),
  (42, 45, .getfield 0, .null, [], [1, 0, 3]),
  (45, 47, .nop, .int (40 : Int32), [], []),
  (47, 48, .iload 1, .null, [], []),
  (48, 49, .imul, .null, [], []),
  (49, 51, .iload 4, .null, [], []),
  (51, 52, .iadd, .null, [], []),
  (52, 54, .iload 5, .null, [], []),
  (54, 56, .nop, .int (65535 : Int32), [], []),
  (56, 57, .iand, .null, [], []),
  (57, 58, .iastore, .null, [], []),
  (58, 60, .iload 5, .null, [], []),
  (60, 62, .nop, .int (16 : Int32), [], []),
  (62, 63, .ishr, .null, [], []),
  (63, 64, .istore 3, .null, [], []),
  (64, 67, .iinc 4 0, .int (1 : Int32), [], []),
  (67, 70, .goto 0, .null, [], [5]),
  (70, 71, .return_, .null, [], [])]
def zh_106 : List (Nat × List Nat) := [(5, [0, 1, 2, 3, 4])]
-- 107: PrimeCertificatesModel.lower:(II)V
def zo_107 : List (Nat × Nat × dzOp) := [
  (0, 1, .nop, .int (0 : Int32), [], []),
  (1, 2, .istore 3, .null, [], []),
  (2, 3, .nop, .int (0 : Int32), [], []),
  (3, 5, .istore 4, .null, [], []),
  (5, 7, .iload 4, .null, [], []),
  (7, 9, .nop, .int (40 : Int32), [], []),
  (9, 12, .if_icmp .ge 0, .null, [], [75]),
  (12, 13, .aload 0, .null, [], []),
  (13, 16, .getfield 0, .null, [], [1, 0, 3]),
  (16, 18, .nop, .int (40 : Int32), [], []),
  (18, 19, .iload 1, .null, [], []),
  (19, 20, .imul, .null, [], []),
  (20, 22, .iload 4, .null, [], []),
  (22, 23, .iadd, .null, [], []),
  (23, 24, .iaload, .null, [], []),
  (24, 25, .aload 0, .null, [], []),
  (25, 28, .getfield 0, .null, [], [1, 0, 3]),
  (28, 30, .nop, .int (40 : Int32), [], []),
  (30, 31, .iload 2, .null, [], []),
  (31, 32, .imul, .null, [], []),
  (32, 34, .iload 4, .null, [], []),
  (34, 35, .iadd, .null, [], []),
  (35, 36, .iaload, .null, [], []),
  (36, 37, .isub, .null, [], []),
  (37, 38, .iload 3, .null, [], []),
  (38, 39, .isub, .null, [], []),
  (39, 41, .istore 5, .null, [], []),
  (41, 42, .aload 0, .null, [], []),
  (42, 45, .getfield 0, .null, [], [1, 0, 3]),
  (45, 47, .nop, .int (40 : Int32), [], []),
  (47, 48, .iload 1, .null, [], []),
  (48, 49, .imul, .null, [], []),
  (49, 51, .iload 4, .null, [], []),
  (51, 52, .iadd, .null, [], []),
  (52, 54, .iload 5, .null, [], []),
  (54, 56, .nop, .int (65535 : Int32), [], []),
  (56, 57, .iand, .null, [], []),
  (57, 58, .iastore, .null, [], []),
  (58, 60, .iload 5, .null, [], []),
  (60, 63, .ifCond .ge 0, .null, [], [67]),
  (63, 64, .nop, .int (1 : Int32), [], []),
  (64, 67, .goto 0, .null, [], [68]),
  (67, 68, .nop, .int (0 : Int32), [], []),
  (68, 69, .istore 3, .null, [], []),
  (69, 72, .iinc 4 0, .int (1 : Int32), [], []),
  (72, 75, .goto 0, .null, [], [5]),
  (75, 76, .return_, .null, [], [])]
def zh_107 : List (Nat × List Nat) := [(5, [0, 1, 2, 3, 4]), (68, [0, 1, 2, 3, 4, 5])]
-- 108: PrimeCertificatesModel.times:(III)V
def zo_108 : List (Nat × Nat × dzOp) := [
  (0, 1, .aload 0, .null, [], []),
  (1, 2, .iload 3, .null, [], []),
  (2, 3, .nop, .long (0 : Int64), [], []),
  (3, 6, .invokestatic 0, .null, [], [100, 3, 0]),
  (6, 7, .aload 0, .null, [], []),
  (7, 8, .iload 1, .null, [], []),
  (8, 11, .invokestatic 0, .null, [], [104, 2, 1]),
  (11, 13, .istore 4, .null, [], []),
  (13, 14, .aload 0, .null, [], []),
  (14, 15, .iload 2, .null, [], []),
  (15, 18, .invokestatic 0, .null, [], [104, 2, 1]),
  (18, 20, .istore 5, .null, [], []),
  (20, 21, .nop, .int (0 : Int32), [], []),
  (21, 23, .istore 6, .null, [], []),
  (23, 25, .iload 6, .null, [], []),
  (25, 27, .iload 4, .null, [], []),
  (27, 30, .if_icmp .ge 0, .null, [], [151]),
  (30, 31, .nop, .long (0 : Int64), [], []),
  (31, 33, .lstore 7, .null, [], []),
  (33, 34, .nop, .int (0 : Int32), [], []),
  (34, 36, .istore 9, .null, [], []),
  (36, 38, .iload 9, .null, [], []),
  (38, 40, .iload 5, .null, [], []),
  (40, 43, .if_icmp .lt 0, .null, [], [50]),
  (43, 45, .lload 7, .null, [], []),
  (45, 46, .nop, .long (0 : Int64), [], []),
  (46, 47, .lcmp, .null, [], []),
  (47, 50, .ifCond .le 0, .null, [], [145]),
  (50, 51, .aload 0, .null, [], []),
  (51, 54, .getfield 0, .null, [], [1, 0, 3]),
  (54, 56, .nop, .int (40 : Int32), [], []),
  (56, 57, .iload 3, .null, [], []),
  (57, 58, .imul, .null, [], []),
  (58, 60, .iload 6, .null, [], []),
  (60, 61, .iadd, .null, [], []),
  (61, 63, .iload 9, .null, [], []),
  (63, 64, .iadd, .null, [], []),
  (64, 65, .iaload, .null, [], []),
  (65, 66, .i2l, .null, [], []),
  (66, 68, .lload 7, .null, [], []),
  (68, 69, .ladd, .null, [], []),
  (69, 71, .iload 9, .null, [], []),
  (71, 73, .iload 5, .null, [], []),
  (73, 76, .if_icmp .ge 0, .null, [], [106]),
  (76, 77, .aload 0, .null, [], []),
  (77, 80, .getfield 0, .null, [], [1, 0, 3]),
  (80, 82, .nop, .int (40 : Int32), [], []),
  (82, 83, .iload 1, .null, [], []),
  (83, 84, .imul, .null, [], []),
  (84, 86, .iload 6, .null, [], []),
  (86, 87, .iadd, .null, [], []),
  (87, 88, .iaload, .null, [], []),
  (88, 89, .i2l, .null, [], []),
  (89, 90, .aload 0, .null, [], []),
  (90, 93, .getfield 0, .null, [], [1, 0, 3]),
  (93, 95, .nop, .int (40 : Int32), [], []),
  (95, 96, .iload 2, .null, [], []),
  (96, 97, .imul, .null, [], []),
  (97, 99, .iload 9, .null, [], []),
  (99, 100, .iadd, .null, [], []),
  (100, 101, .iaload, .null, [], []),
  (101, 102, .i2l, .null, [], []),
  (102, 103, .lmul, .null, [], []),
  (103, 106, .goto 0, .null, [], [107]),
  (106, 107, .nop, .long (0 : Int64), [], []),
  (107, 108, .ladd, .null, [], []),
  (108, 110, .lstore 10, .null, [], []),
  (110, 111, .aload 0, .null, [], []),
  (111, 114, .getfield 0, .null, [], [1, 0, 3]),
  (114, 116, .nop, .int (40 : Int32), [], []),
  (116, 117, .iload 3, .null, [], []),
  (117, 118, .imul, .null, [], []),
  (118, 120, .iload 6, .null, [], []),
  (120, 121, .iadd, .null, [], []),
  (121, 123, .iload 9, .null, [], []),
  (123, 124, .iadd, .null, [], []),
  (124, 126, .lload 10, .null, [], []),
  (126, 129, .nop, .long (65535 : Int64), [], []),
  (129, 130, .land, .null, [], []),
  (130, 131, .l2i, .null, [], []),
  (131, 132, .iastore, .null, [], []),
  (132, 134, .lload 10, .null, [], []),
  (134, 136, .nop, .int (16 : Int32), [], []),
  (136, 137, .lshr, .null, [], []),
  (137, 139, .lstore 7, .null, [], []),
  (139, 142, .iinc 9 0, .int (1 : Int32), [], []),
  (142, 145, .goto 0, .null, [], [36]),
  (145, 148, .iinc 6 0, .int (1 : Int32), [], []),
  (148, 151, .goto 0, .null, [], [23]),
  (151, 152, .return_, .null, [], [])]
def zh_108 : List (Nat × List Nat) := [(23, [0, 1, 2, 3, 4, 5, 6]), (36, [0, 1, 2, 3, 4, 5, 6, 7, 9]), (50, [0, 1, 2, 3, 4, 5, 6, 7, 9]), (107, [0, 1, 2, 3, 4, 5, 6, 7, 9])]
-- 109: PrimeCertificatesModel.guess:(IIII)I
def zo_109 : List (Nat × Nat × dzOp) := [
  (0, 1, .aload 0, .null, [], []),
  (1, 4, .getfield 0, .null, [], [1, 0, 3]),
  (4, 6, .nop, .int (40 : Int32), [], []),
  (6, 7, .iload 1, .null, [], []),
  (7, 8, .imul, .null, [], []),
  (8, 9, .iload 2, .null, [], []),
  (9, 10, .iadd, .null, [], []),
  (10, 11, .iaload, .null, [], []),
  (11, 12, .i2l, .null, [], []),
  (12, 14, .nop, .int (16 : Int32), [], []),
  (14, 15, .lshl, .null, [], []),
  (15, 16, .aload 0, .null, [], []),
  (16, 19, .getfield 0, .null, [], [1, 0, 3]),
  (19, 21, .nop, .int (40 : Int32), [], []),
  (21, 22, .iload 1, .null, [], []),
  (22, 23, .imul, .null, [], []),
  (23, 24, .iload 2, .null, [], []),
  (24, 25, .iadd, .null, [], []),
  (25, 26, .nop, .int (1 : Int32), [], []),
  (26, 27, .isub, .null, [], []),
  (27, 28, .iaload, .null, [], []),
  (28, 29, .i2l, .null, [], []),
  (29, 30, .lor, .null, [], []),
  (30, 32, .lstore 5, .null, [], []),
  (32, 34, .lload 5, .null, [], []),
  (34, 35, .iload 3, .null, [], []),
  (35, 36, .nop, .int (1 : Int32), [], []),
  (36, 37, .iadd, .null, [], []),
  (37, 38, .i2l, .null, [], []),
  (38, 39, .ldiv, .null, [], []),
  (39, 40, .l2i, .null, [], []),
  (40, 41, .ireturn, .null, [], [0])]
def zh_109 : List (Nat × List Nat) := []
-- 110: PrimeCertificatesModel.away:(IIIII)V
def zo_110 : List (Nat × Nat × dzOp) := [
  (0, 1, .nop, .long (0 : Int64), [], []),
  (1, 3, .lstore 6, .null, [], []),
  (3, 4, .nop, .int (0 : Int32), [], []),
  (4, 6, .istore 8, .null, [], []),
  (6, 8, .iload 8, .null, [], []),
  (8, 10, .iload 5, .null, [], []),
  (10, 13, .if_icmp .gt 0, .null, [], [97]),
  (13, 14, .aload 0, .null, [], []),
  (14, 17, .getfield 0, .null, [], [1, 0, 3]),
  (17, 19, .nop, .int (40 : Int32), [], []),
  (19, 20, .iload 1, .null, [], []),
  (20, 21, .imul, .null, [], []),
  (21, 22, .iload 3, .null, [], []),
  (22, 23, .iadd, .null, [], []),
  (23, 25, .iload 8, .null, [], []),
  (25, 26, .iadd, .null, [], []),
  (26, 27, .iaload, .null, [], []),
  (27, 28, .i2l, .null, [], []),
  (28, 30, .iload 8, .null, [], []),
  (30, 32, .iload 5, .null, [], []),
  (32, 35, .if_icmp .ge 0, .null, [], [55]),
  (35, 37, .iload 4, .null, [], []),
  (37, 38, .i2l, .null, [], []),
  (38, 39, .aload 0, .null, [], []),
  (39, 42, .getfield 0, .null, [], [1, 0, 3]),
  (42, 44, .nop, .int (40 : Int32), [], []),
  (44, 45, .iload 2, .null, [], []),
  (45, 46, .imul, .null, [], []),
  (46, 48, .iload 8, .null, [], []),
  (48, 49, .iadd, .null, [], []),
  (49, 50, .iaload, .null, [], []),
  (50, 51, .i2l, .null, [], []),
  (51, 52, .lmul, .null, [], []),
  (52, 55, .goto 0, .null, [], [56]),
  (55, 56, .nop, .long (0 : Int64), [], []),
  (56, 57, .lsub, .null, [], []),
  (57, 59, .lload 6, .null, [], []),
  (59, 60, .lsub, .null, [], []),
  (60, 62, .lstore 9, .null, [], []),
  (62, 63, .aload 0, .null, [], []),
  (63, 66, .getfield 0, .null, [], [1, 0, 3]),
  (66, 68, .nop, .int (40 : Int32), [], []),
  (68, 69, .iload 1, .null, [], []),
  (69, 70, .imul, .null, [], []),
  (70, 71, .iload 3, .null, [], []),
  (71, 72, .iadd, .null, [], []),
  (72, 74, .iload 8, .null, [], []),
  (74, 75, .iadd, .null, [], []),
  (75, 77, .lload 9, .null, [], []),
  (77, 80, .nop, .long (65535 : Int64), [], []),
  (80, 81, .land, .null, [], []),
  (81, 82, .l2i, .null, [], []),
  (82, 83, .iastore, .null, [], []),
  (83, 85, .lload 9, .null, [], []),
  (85, 87, .nop, .int (16 : Int32), [], []),
  (87, 88, .lshr, .null, [], []),
  (88, 89, .lneg, .null, [], []),
  (89, 91, .lstore 6, .null, [], []),
  (91, 94, .iinc 8 0, .int (1 : Int32), [], []),
  (94, 97, .goto 0, .null, [], [6]),
  (97, 98, .return_, .null, [], [])]
def zh_110 : List (Nat × List Nat) := [(6, [0, 1, 2, 3, 4, 5, 6, 8]), (56, [0, 1, 2, 3, 4, 5, 6, 8])]
-- 111: PrimeCertificatesModel.isOver:(IIII)Z
def zo_111 : List (Nat × Nat × dzOp) := [
  (0, 1, .aload 0, .null, [], []),
  (1, 4, .getfield 0, .null, [], [1, 0, 3]),
  (4, 6, .nop, .int (40 : Int32), [], []),
  (6, 7, .iload 1, .null, [], []),
  (7, 8, .imul, .null, [], []),
  (8, 9, .iload 3, .null, [], []),
  (9, 10, .iadd, .null, [], []),
  (10, 12, .iload 4, .null, [], []),
  (12, 13, .iadd, .null, [], []),
  (13, 14, .iaload, .null, [], []),
  (14, 17, .ifCond .le 0, .null, [], [19]),
  (17, 18, .nop, .int (1 : Int32), [], []),
  (18, 19, .ireturn, .null, [], [1]),
  (19, 21, .iload 4, .null, [], []),
  (21, 22, .nop, .int (1 : Int32), [], []),
  (22, 23, .isub, .null, [], []),
  (23, 25, .istore 5, .null, [], []),
  (25, 27, .iload 5, .null, [], []),
  (27, 30, .ifCond .lt 0, .null, [], [65]),
  (30, 31, .aload 0, .null, [], []),
  (31, 34, .getfield 0, .null, [], [1, 0, 3]),
  (34, 36, .nop, .int (40 : Int32), [], []),
  (36, 37, .iload 1, .null, [], []),
  (37, 38, .imul, .null, [], []),
  (38, 39, .iload 3, .null, [], []),
  (39, 40, .iadd, .null, [], []),
  (40, 42, .iload 5, .null, [], []),
  (42, 43, .iadd, .null, [], []),
  (43, 44, .iaload, .null, [], []),
  (44, 45, .aload 0, .null, [], []),
  (45, 48, .getfield 0, .null, [], [1, 0, 3]),
  (48, 50, .nop, .int (40 : Int32), [], []),
  (50, 51, .iload 2, .null, [], []),
  (51, 52, .imul, .null, [], []),
  (52, 54, .iload 5, .null, [], []),
  (54, 55, .iadd, .null, [], []),
  (55, 56, .iaload, .null, [], []),
  (56, 59, .if_icmp .ne 0, .null, [], [65]),
  (59, 62, .iinc 5 0, .int (-1 : Int32), [], []),
  (62, 65, .goto 0, .null, [], [25]),
  (65, 67, .iload 5, .null, [], []),
  (67, 70, .ifCond .lt 0, .null, [], [99]),
  (70, 71, .aload 0, .null, [], []),
  (71, 74, .getfield 0, .null, [], [1, 0, 3]),
  (74, 76, .nop, .int (40 : Int32), [], []),
  (76, 77, .iload 1, .null, [], []),
  (77, 78, .imul, .null, [], []),
  (78, 79, .iload 3, .null, [], []),
  (79, 80, .iadd, .null, [], []),
  (80, 82, .iload 5, .null, [], []),
  (82, 83, .iadd, .null, [], []),
  (83, 84, .iaload, .null, [], []),
  (84, 85, .aload 0, .null, [], []),
  (85, 88, .getfield 0, .null, [], [1, 0, 3]),
  (88, 90, .nop, .int (40 : Int32), [], []),
  (90, 91, .iload 2, .null, [], []),
  (91, 92, .imul, .null, [], []),
  (92, 94, .iload 5, .null, [], []),
  (94, 95, .iadd, .null, [], []),
  (95, 96, .iaload, .null, [], []),
  (96, 99, .if_icmp .le 0, .null, [], [103]),
  (99, 100, .nop, .int (1 : Int32), [], []),
  (100, 103, .goto 0, .null, [], [104]),
  (103, 104, .nop, .int (0 : Int32), [], []),
  (104, 105, .ireturn, .null, [], [1])]
def zh_111 : List (Nat × List Nat) := [(25, [0, 1, 2, 3, 4, 5]), (65, [0, 1, 2, 3, 4, 5]), (99, [0, 1, 2, 3, 4, 5])]
-- 112: PrimeCertificatesModel.part:(IIII)V
def zo_112 : List (Nat × Nat × dzOp) := [
  (0, 1, .aload 0, .null, [], []),
  (1, 2, .iload 3, .null, [], []),
  (2, 3, .nop, .long (0 : Int64), [], []),
  (3, 6, .invokestatic 0, .null, [], [100, 3, 0]),
  (6, 7, .aload 0, .null, [], []),
  (7, 8, .iload 1, .null, [], []),
  (8, 10, .iload 4, .null, [], []),
  (10, 13, .invokestatic 0, .null, [], [102, 3, 0]),
  (13, 14, .aload 0, .null, [], []),
  (14, 15, .iload 2, .null, [], []),
  (15, 18, .invokestatic 0, .null, [], [104, 2, 1]),
  (18, 20, .istore 5, .null, [], []),
  (20, 21, .aload 0, .null, [], []),
  (21, 24, .getfield 0, .null, [], [1, 0, 3]),
  (24, 26, .nop, .int (40 : Int32), [], []),
  (26, 27, .iload 2, .null, [], []),
  (27, 28, .imul, .null, [], []),
  (28, 30, .iload 5, .null, [], []),
  (30, 31, .iadd, .null, [], []),
  (31, 32, .nop, .int (1 : Int32), [], []),
  (32, 33, .isub, .null, [], []),
  (33, 34, .iaload, .null, [], []),
  (34, 36, .istore 6, .null, [], []),
  (36, 37, .aload 0, .null, [], []),
  (37, 38, .iload 1, .null, [], []),
  (38, 41, .invokestatic 0, .null, [], [104, 2, 1]),
  (41, 43, .iload 5, .null, [], []),
  (43, 44, .isub, .null, [], []),
  (44, 46, .istore 7, .null, [], []),
  (46, 48, .iload 7, .null, [], []),
  (48, 51, .ifCond .lt 0, .null, [], [165]),
  (51, 52, .nop, .int (0 : Int32), [], []),
  (52, 54, .istore 8, .null, [], []),
  (54, 55, .aload 0, .null, [], []),
  (55, 57, .iload 4, .null, [], []),
  (57, 59, .iload 7, .null, [], []),
  (59, 61, .iload 5, .null, [], []),
  (61, 62, .iadd, .null, [], []),
  (62, 64, .iload 6, .null, [], []),
  (64, 66, .iload 5, .null, [], []),
  (66, 69, .invokestatic 0, .null, [], [109, 5, 1]),
  (69, 71, .istore 9, .null, [], []),
  (71, 73, .iload 9, .null, [], []),
  (73, 76, .ifCond .le 0, .null, [], [116]),
  (76, 77, .aload 0, .null, [], []),
  (77, 79, .iload 4, .null, [], []),
  (79, 80, .iload 2, .null, [], []),
  (80, 82, .iload 7, .null, [], []),
  (82, 84, .iload 9, .null, [], []),
  (84, 86, .iload 5, .null, [], []),
  (86, 89, .invokestatic 0, .null, [], [110, 6, 0]),
  (89, 91, .iload 8, .null, [], []),
  (91, 93, .iload 9, .null, [], []),
  (93, 94, .iadd, .null, [], []),
  (94, 96, .istore 8, .null, [], []),
  (96, 97, .aload 0, .null, [], []),
  (97, 99, .iload 4, .null, [], []),
  (99, 101, .iload 7, .null, [], []),
  (101, 103, .iload 5, .null, [], []),
  (103, 104, .iadd, .null, [], []),
  (104, 106, .iload 6, .null, [], []),
  (106, 108, .iload 5, .null, [], []),
  (108, 111, .invokestatic 0, .null, [], [109, 5, 1]),
  (111, 113, .istore 9, .null, [], []),
  (113, 116, .goto 0, .null, [], [71]),
  (116, 117, .aload 0, .null, [], []),
  (117, 119, .iload 4, .null, [], []),
  (119, 120, .iload 2, .null, [], []),
  (120, 122, .iload 7, .null, [], []),
  (122, 124, .iload 5, .null, [], []),
  (124, 127, .invokestatic 0, .null, [], [111, 5, 1]),
  (127, 130, .ifCond .eq 0, .null, [], [145]),
  (130, 131, .aload 0, .null, [], []),
  (131, 133, .iload 4, .null, [], []),
  (133, 134, .iload 2, .null, [], []),
  (134, 136, .iload 7, .null, [], []),
  (136, 137, .nop, .int (1 : Int32), [], []),
  (137, 139, .iload 5, .null, [], []),
  (139, 142, .invokestatic 0, .null, [], [110, 6, 0]),
  (142, 145, .iinc 8 0, .int (1 : Int32), [], []),
  (145, 146, .aload 0, .null, [], []),
  (146, 149, .getfield 0, .null, [], [1, 0, 3]),
  (149, 151, .nop, .int (40 : Int32), [], []),
  (151, 152, .iload 3, .null, [], []),
  (152, 153, .imul, .null, [], []),
  (153, 155, .iload 7, .null, [], []),
  (155, 156, .iadd, .null, [], []),
  (156, 158, .iload 8, .null, [], []),
  (158, 159, .iastore, .null, [], []),
  (159, 162, .iinc 7 0, .int (-1 : Int32), [], []),
  (162, 165, .goto 0, .null, [], [46]),
  (165, 166, .return_, .null, [], [])]
def zh_112 : List (Nat × List Nat) := [(46, [0, 1, 2, 3, 4, 5, 6, 7]), (71, [0, 1, 2, 3, 4, 5, 6, 7, 8, 9]), (145, [0, 1, 2, 3, 4, 5, 6, 7, 8, 9])]
-- 113: PrimeCertificatesModel.bit:(II)I
def zo_113 : List (Nat × Nat × dzOp) := [
  (0, 1, .aload 0, .null, [], []),
  (1, 4, .getfield 0, .null, [], [1, 0, 3]),
  (4, 6, .nop, .int (40 : Int32), [], []),
  (6, 7, .iload 1, .null, [], []),
  (7, 8, .imul, .null, [], []),
  (8, 9, .iload 2, .null, [], []),
  (9, 11, .nop, .int (16 : Int32), [], []),
  (11, 12, .idiv, .null, [], []),
  (12, 13, .iadd, .null, [], []),
  (13, 14, .iaload, .null, [], []),
  (14, 15, .iload 2, .null, [], []),
  (15, 17, .nop, .int (16 : Int32), [], []),
  (17, 18, .irem, .null, [], []),
  (18, 19, .ishr, .null, [], []),
  (19, 20, .nop, .int (1 : Int32), [], []),
  (20, 21, .iand, .null, [], []),
  (21, 22, .ireturn, .null, [], [0])]
def zh_113 : List (Nat × List Nat) := []
-- 114: PrimeCertificatesModel.raiseTo:(IIII)V
def zo_114 : List (Nat × Nat × dzOp) := [
  (0, 1, .aload 0, .null, [], []),
  (1, 2, .iload 1, .null, [], []),
  (2, 3, .iload 3, .null, [], []),
  (3, 5, .nop, .int (17 : Int32), [], []),
  (5, 7, .nop, .int (18 : Int32), [], []),
  (7, 10, .invokestatic 0, .null, [], [112, 5, 0]),
  (10, 11, .aload 0, .null, [], []),
  (11, 13, .nop, .int (21 : Int32), [], []),
  (13, 14, .iload 3, .null, [], []),
  (14, 16, .nop, .int (17 : Int32), [], []),
  (16, 18, .iload 4, .null, [], []),
  (18, 21, .invokestatic 0, .null, [], [112, 5, 0]),
  (21, 23, .nop, .int (16 : Int32), [], []),
  (23, 24, .aload 0, .null, [], []),
  (24, 25, .iload 2, .null, [], []),
  (25, 28, .invokestatic 0, .null, [], [104, 2, 1]),
  (28, 29, .imul, .null, [], []),
  (29, 30, .nop, .int (1 : Int32), [], []),
  (30, 31, .isub, .null, [], []),
  (31, 33, .istore 5, .null, [], []),
  (33, 35, .iload 5, .null, [], []),
  (35, 38, .ifCond .lt 0, .null, [], [99]),
  (38, 39, .aload 0, .null, [], []),
  (39, 41, .iload 4, .null, [], []),
  (41, 43, .iload 4, .null, [], []),
  (43, 45, .nop, .int (19 : Int32), [], []),
  (45, 48, .invokestatic 0, .null, [], [108, 4, 0]),
  (48, 49, .aload 0, .null, [], []),
  (49, 51, .nop, .int (19 : Int32), [], []),
  (51, 52, .iload 3, .null, [], []),
  (52, 54, .nop, .int (17 : Int32), [], []),
  (54, 56, .iload 4, .null, [], []),
  (56, 59, .invokestatic 0, .null, [], [112, 5, 0]),
  (59, 60, .aload 0, .null, [], []),
  (60, 61, .iload 2, .null, [], []),
  (61, 63, .iload 5, .null, [], []),
  (63, 66, .invokestatic 0, .null, [], [113, 3, 1]),
  (66, 69, .ifCond .ne 0, .null, [], [72]),
  (69, 72, .goto 0, .null, [], [93]),
  (72, 73, .aload 0, .null, [], []),
  (73, 75, .iload 4, .null, [], []),
  (75, 77, .nop, .int (18 : Int32), [], []),
  (77, 79, .nop, .int (19 : Int32), [], []),
  (79, 82, .invokestatic 0, .null, [], [108, 4, 0]),
  (82, 83, .aload 0, .null, [], []),
  (83, 85, .nop, .int (19 : Int32), [], []),
  (85, 86, .iload 3, .null, [], []),
  (86, 88, .nop, .int (17 : Int32), [], []),
  (88, 90, .iload 4, .null, [], []),
  (90, 93, .invokestatic 0, .null, [], [112, 5, 0]),
  (93, 96, .iinc 5 0, .int (-1 : Int32), [], []),
  (96, 99, .goto 0, .null, [], [33]),
  (99, 100, .return_, .null, [], [])]
def zh_114 : List (Nat × List Nat) := [(33, [0, 1, 2, 3, 4, 5]), (93, [0, 1, 2, 3, 4, 5])]
-- 115: PrimeCertificatesModel.divisor:(III)V
def zo_115 : List (Nat × Nat × dzOp) := [
  (0, 1, .aload 0, .null, [], []),
  (1, 2, .iload 1, .null, [], []),
  (2, 3, .iload 3, .null, [], []),
  (3, 6, .invokestatic 0, .null, [], [102, 3, 0]),
  (6, 7, .aload 0, .null, [], []),
  (7, 8, .iload 2, .null, [], []),
  (8, 10, .nop, .int (18 : Int32), [], []),
  (10, 13, .invokestatic 0, .null, [], [102, 3, 0]),
  (13, 14, .aload 0, .null, [], []),
  (14, 16, .nop, .int (18 : Int32), [], []),
  (16, 19, .invokestatic 0, .null, [], [105, 2, 1]),
  (19, 22, .ifCond .ne 0, .null, [], [51]),
  (22, 23, .aload 0, .null, [], []),
  (23, 24, .iload 3, .null, [], []),
  (24, 26, .nop, .int (18 : Int32), [], []),
  (26, 28, .nop, .int (17 : Int32), [], []),
  (28, 30, .nop, .int (19 : Int32), [], []),
  (30, 33, .invokestatic 0, .null, [], [112, 5, 0]),
  (33, 34, .aload 0, .null, [], []),
  (34, 36, .nop, .int (18 : Int32), [], []),
  (36, 37, .iload 3, .null, [], []),
  (37, 40, .invokestatic 0, .null, [], [102, 3, 0]),
  (40, 41, .aload 0, .null, [], []),
  (41, 43, .nop, .int (19 : Int32), [], []),
  (43, 45, .nop, .int (18 : Int32), [], []),
  (45, 48, .invokestatic 0, .null, [], [102, 3, 0]),
  (48, 51, .goto 0, .null, [], [13]),
  (51, 52, .return_, .null, [], [])]
def zh_115 : List (Nat × List Nat) := [(13, [0, 1, 2, 3])]
-- 116: PrimeCertificatesModel.fits:(I)Z
def zo_116 : List (Nat × Nat × dzOp) := [
  (0, 1, .aload 0, .null, [], []),
  (1, 2, .iload 1, .null, [], []),
  (2, 5, .invokestatic 0, .null, [], [104, 2, 1]),
  (5, 7, .nop, .int (16 : Int32), [], []),
  (7, 10, .if_icmp .gt 0, .null, [], [14]),
  (10, 11, .nop, .int (1 : Int32), [], []),
  (11, 14, .goto 0, .null, [], [15]),
  (14, 15, .nop, .int (0 : Int32), [], []),
  (15, 16, .ireturn, .null, [], [1])]
def zh_116 : List (Nat × List Nat) := []
-- 117: PrimeCertificatesModel.isOne:(I)Z
def zo_117 : List (Nat × Nat × dzOp) := [
  (0, 1, .aload 0, .null, [], []),
  (1, 2, .iload 1, .null, [], []),
  (2, 4, .nop, .int (21 : Int32), [], []),
  (4, 7, .invokestatic 0, .null, [], [103, 3, 1]),
  (7, 10, .ifCond .ne 0, .null, [], [14]),
  (10, 11, .nop, .int (1 : Int32), [], []),
  (11, 14, .goto 0, .null, [], [15]),
  (14, 15, .nop, .int (0 : Int32), [], []),
  (15, 16, .ireturn, .null, [], [1])]
def zh_117 : List (Nat × List Nat) := []
-- 118: PrimeCertificatesModel.isRegister:(I)Z
def zo_118 : List (Nat × Nat × dzOp) := [
  (0, 1, .iload 0, .null, [], []),
  (1, 4, .ifCond .lt 0, .null, [], [14]),
  (4, 5, .iload 0, .null, [], []),
  (5, 7, .nop, .int (8 : Int32), [], []),
  (7, 10, .if_icmp .ge 0, .null, [], [14]),
  (10, 11, .nop, .int (1 : Int32), [], []),
  (11, 14, .goto 0, .null, [], [15]),
  (14, 15, .nop, .int (0 : Int32), [], []),
  (15, 16, .ireturn, .null, [], [1])]
def zh_118 : List (Nat × List Nat) := []
-- 119: PrimeCertificatesModel.put:(III)Z
def zo_119 : List (Nat × Nat × dzOp) := [
  (0, 1, .iload 1, .null, [], []),
  (1, 4, .invokestatic 0, .null, [], [118, 1, 1]),
  (4, 7, .ifCond .eq 0, .null, [], [17]),
  (7, 8, .iload 2, .null, [], []),
  (8, 11, .ifCond .lt 0, .null, [], [17]),
  (11, 12, .iload 2, .null, [], []),
  (12, 14, .nop, .int (7 : Int32), [], []),
  (14, 17, .if_icmp .le 0, .null, [], [19]),
  (17, 18, .nop, .int (0 : Int32), [], []),
  (18, 19, .ireturn, .null, [], [1]),
  (19, 20, .nop, .int (0 : Int32), [], []),
  (20, 22, .istore 4, .null, [], []),
  (22, 24, .iload 4, .null, [], []),
  (24, 25, .nop, .int (2 : Int32), [], []),
  (25, 28, .if_icmp .ge 0, .null, [], [60]),
  (28, 29, .aload 0, .null, [], []),
  (29, 32, .getfield 0, .null, [], [1, 0, 3]),
  (32, 34, .nop, .int (40 : Int32), [], []),
  (34, 35, .iload 1, .null, [], []),
  (35, 36, .imul, .null, [], []),
  (36, 37, .nop, .int (2 : Int32), [], []),
  (37, 38, .iload 2, .null, [], []),
  (38, 39, .imul, .null, [], []),
  (39, 40, .iadd, .null, [], []),
  (40, 42, .iload 4, .null, [], []),
  (42, 43, .iadd, .null, [], []),
  (43, 44, .iload 3, .null, [], []),
  (44, 46, .nop, .int (16 : Int32), [], []),
  (46, 48, .iload 4, .null, [], []),
  (48, 49, .imul, .null, [], []),
  (49, 50, .ishr, .null, [], []),
  (50, 52, .nop, .int (65535 : Int32), [], []),
  (52, 53, .iand, .null, [], []),
  (53, 54, .iastore, .null, [], []),
  (54, 57, .iinc 4 0, .int (1 : Int32), [], []),
  (57, 60, .goto 0, .null, [], [22]),
  (60, 61, .nop, .int (1 : Int32), [], []),
  (61, 62, .ireturn, .null, [], [1])]
def zh_119 : List (Nat × List Nat) := [(22, [0, 1, 2, 3, 4])]
-- 120: PrimeCertificatesModel.get:(II)I
def zo_120 : List (Nat × Nat × dzOp) := [
  (0, 1, .iload 1, .null, [], []),
  (1, 4, .invokestatic 0, .null, [], [118, 1, 1]),
  (4, 7, .ifCond .eq 0, .null, [], [17]),
  (7, 8, .iload 2, .null, [], []),
  (8, 11, .ifCond .lt 0, .null, [], [17]),
  (11, 12, .iload 2, .null, [], []),
  (12, 14, .nop, .int (7 : Int32), [], []),
  (14, 17, .if_icmp .le 0, .null, [], [19]),
  (17, 18, .nop, .int (0 : Int32), [], []),
  (18, 19, .ireturn, .null, [], [0]),
  (19, 20, .aload 0, .null, [], []),
  (20, 23, .getfield 0, .null, [], [1, 0, 3]),
  (23, 25, .nop, .int (40 : Int32), [], []),
  (25, 26, .iload 1, .null, [], []),
  (26, 27, .imul, .null, [], []),
  (27, 28, .nop, .int (2 : Int32), [], []),
  (28, 29, .iload 2, .null, [], []),
  (29, 30, .imul, .null, [], []),
  (30, 31, .iadd, .null, [], []),
  (31, 32, .nop, .int (1 : Int32), [], []),
  (32, 33, .iadd, .null, [], []),
  (33, 34, .iaload, .null, [], []),
  (34, 36, .nop, .int (16 : Int32), [], []),
  (36, 37, .ishl, .null, [], []),
  (37, 38, .aload 0, .null, [], []),
  (38, 41, .getfield 0, .null, [], [1, 0, 3]),
  (41, 43, .nop, .int (40 : Int32), [], []),
  (43, 44, .iload 1, .null, [], []),
  (44, 45, .imul, .null, [], []),
  (45, 46, .nop, .int (2 : Int32), [], []),
  (46, 47, .iload 2, .null, [], []),
  (47, 48, .imul, .null, [], []),
  (48, 49, .iadd, .null, [], []),
  (49, 50, .iaload, .null, [], []),
  (50, 51, .ior, .null, [], []),
  (51, 52, .ireturn, .null, [], [0])]
def zh_120 : List (Nat × List Nat) := []
-- 121: PrimeCertificatesModel.are:(III)Z
def zo_121 : List (Nat × Nat × dzOp) := [
  (0, 1, .iload 0, .null, [], []),
  (1, 4, .invokestatic 0, .null, [], [118, 1, 1]),
  (4, 7, .ifCond .eq 0, .null, [], [25]),
  (7, 8, .iload 1, .null, [], []),
  (8, 11, .invokestatic 0, .null, [], [118, 1, 1]),
  (11, 14, .ifCond .eq 0, .null, [], [25]),
  (14, 15, .iload 2, .null, [], []),
  (15, 18, .invokestatic 0, .null, [], [118, 1, 1]),
  (18, 21, .ifCond .eq 0, .null, [], [25]),
  (21, 22, .nop, .int (1 : Int32), [], []),
  (22, 25, .goto 0, .null, [], [26]),
  (25, 26, .nop, .int (0 : Int32), [], []),
  (26, 27, .ireturn, .null, [], [1])]
def zh_121 : List (Nat × List Nat) := []
-- 122: PrimeCertificatesModel.give:(II)I
def zo_122 : List (Nat × Nat × dzOp) := [
  (0, 1, .aload 0, .null, [], []),
  (1, 2, .iload 1, .null, [], []),
  (2, 5, .invokestatic 0, .null, [], [116, 2, 1]),
  (5, 8, .ifCond .ne 0, .null, [], [11]),
  (8, 10, .nop, .int (-3 : Int32), [], []),
  (10, 11, .ireturn, .null, [], [0]),
  (11, 12, .aload 0, .null, [], []),
  (12, 13, .iload 1, .null, [], []),
  (13, 14, .iload 2, .null, [], []),
  (14, 17, .invokestatic 0, .null, [], [102, 3, 0]),
  (17, 18, .nop, .int (0 : Int32), [], []),
  (18, 19, .ireturn, .null, [], [0])]
def zh_122 : List (Nat × List Nat) := []
-- 123: PrimeCertificatesModel.add:(III)I
def zo_123 : List (Nat × Nat × dzOp) := [
  (0, 1, .iload 1, .null, [], []),
  (1, 2, .iload 2, .null, [], []),
  (2, 3, .iload 3, .null, [], []),
  (3, 6, .invokestatic 0, .null, [], [121, 3, 1]),
  (6, 9, .ifCond .ne 0, .null, [], [11]),
  (9, 10, .nop, .int (-1 : Int32), [], []),
  (10, 11, .ireturn, .null, [], [0]),
  (11, 12, .aload 0, .null, [], []),
  (12, 13, .iload 1, .null, [], []),
  (13, 15, .nop, .int (8 : Int32), [], []),
  (15, 18, .invokestatic 0, .null, [], [102, 3, 0]),
  (18, 19, .aload 0, .null, [], []),
  (19, 21, .nop, .int (8 : Int32), [], []),
  (21, 22, .iload 2, .null, [], []),
  (22, 25, .invokestatic 0, .null, [], [106, 3, 0]),
  (25, 26, .aload 0, .null, [], []),
  (26, 28, .nop, .int (8 : Int32), [], []),
  (28, 29, .iload 3, .null, [], []),
  (29, 32, .invokestatic 0, .null, [], [122, 3, 1]),
  (32, 33, .ireturn, .null, [], [0])]
def zh_123 : List (Nat × List Nat) := []
-- 124: PrimeCertificatesModel.subtract:(III)I
def zo_124 : List (Nat × Nat × dzOp) := [
  (0, 1, .iload 1, .null, [], []),
  (1, 2, .iload 2, .null, [], []),
  (2, 3, .iload 3, .null, [], []),
  (3, 6, .invokestatic 0, .null, [], [121, 3, 1]),
  (6, 9, .ifCond .ne 0, .null, [], [11]),
  (9, 10, .nop, .int (-1 : Int32), [], []),
  (10, 11, .ireturn, .null, [], [0]),
  (11, 12, .aload 0, .null, [], []),
  (12, 13, .iload 1, .null, [], []),
  (13, 14, .iload 2, .null, [], []),
  (14, 17, .invokestatic 0, .null, [], [103, 3, 1]),
  (17, 20, .ifCond .ge 0, .null, [], [23]),
  (20, 22, .nop, .int (-2 : Int32), [], []),
  (22, 23, .ireturn, .null, [], [0]),
  (23, 24, .aload 0, .null, [], []),
  (24, 25, .iload 1, .null, [], []),
  (25, 27, .nop, .int (8 : Int32), [], []),
  (27, 30, .invokestatic 0, .null, [], [102, 3, 0]),
  (30, 31, .aload 0, .null, [], []),
  (31, 33, .nop, .int (8 : Int32), [], []),
  (33, 34, .iload 2, .null, [], []),
  (34, 37, .invokestatic 0, .null, [], [107, 3, 0]),
  (37, 38, .aload 0, .null, [], []),
  (38, 40, .nop, .int (8 : Int32), [], []),
  (40, 41, .iload 3, .null, [], []),
  (41, 44, .invokestatic 0, .null, [], [122, 3, 1]),
  (44, 45, .ireturn, .null, [], [0])]
def zh_124 : List (Nat × List Nat) := []
-- 125: PrimeCertificatesModel.multiply:(III)I
def zo_125 : List (Nat × Nat × dzOp) := [
  (0, 1, .iload 1, .null, [], []),
  (1, 2, .iload 2, .null, [], []),
  (2, 3, .iload 3, .null, [], []),
  (3, 6, .invokestatic 0, .null, [], [121, 3, 1]),
  (6, 9, .ifCond .ne 0, .null, [], [11]),
  (9, 10, .nop, .int (-1 : Int32), [], []),
  (10, 11, .ireturn, .null, [], [0]),
  (11, 12, .aload 0, .null, [], []),
  (12, 13, .iload 1, .null, [], []),
  (13, 14, .iload 2, .null, [], []),
  (14, 16, .nop, .int (8 : Int32), [], []),
  (16, 19, .invokestatic 0, .null, [], [108, 4, 0]),
  (19, 20, .aload 0, .null, [], []),
  (20, 22, .nop, .int (8 : Int32), [], []),
  (22, 23, .iload 3, .null, [], []),
  (23, 26, .invokestatic 0, .null, [], [122, 3, 1]),
  (26, 27, .ireturn, .null, [], [0])]
def zh_125 : List (Nat × List Nat) := []
-- 126: PrimeCertificatesModel.divide:(IIII)I
def zo_126 : List (Nat × Nat × dzOp) := [
  (0, 1, .iload 1, .null, [], []),
  (1, 2, .iload 2, .null, [], []),
  (2, 3, .iload 3, .null, [], []),
  (3, 6, .invokestatic 0, .null, [], [121, 3, 1]),
  (6, 9, .ifCond .eq 0, .null, [], [23]),
  (9, 11, .iload 4, .null, [], []),
  (11, 14, .invokestatic 0, .null, [], [118, 1, 1]),
  (14, 17, .ifCond .eq 0, .null, [], [23]),
  (17, 18, .iload 3, .null, [], []),
  (18, 20, .iload 4, .null, [], []),
  (20, 23, .if_icmp .ne 0, .null, [], [25]),
  (23, 24, .nop, .int (-1 : Int32), [], []),
  (24, 25, .ireturn, .null, [], [0]),
  (25, 26, .aload 0, .null, [], []),
  (26, 27, .iload 2, .null, [], []),
  (27, 30, .invokestatic 0, .null, [], [105, 2, 1]),
  (30, 33, .ifCond .eq 0, .null, [], [36]),
  (33, 35, .nop, .int (-2 : Int32), [], []),
  (35, 36, .ireturn, .null, [], [0]),
  (36, 37, .aload 0, .null, [], []),
  (37, 38, .iload 1, .null, [], []),
  (38, 39, .iload 2, .null, [], []),
  (39, 41, .nop, .int (8 : Int32), [], []),
  (41, 43, .nop, .int (9 : Int32), [], []),
  (43, 46, .invokestatic 0, .null, [], [112, 5, 0]),
  (46, 47, .aload 0, .null, [], []),
  (47, 49, .nop, .int (8 : Int32), [], []),
  (49, 50, .iload 3, .null, [], []),
  (50, 53, .invokestatic 0, .null, [], [102, 3, 0]),
  (53, 54, .aload 0, .null, [], []),
  (54, 56, .nop, .int (9 : Int32), [], []),
  (56, 58, .iload 4, .null, [], []),
  (58, 61, .invokestatic 0, .null, [], [102, 3, 0]),
  (61, 62, .nop, .int (0 : Int32), [], []),
  (62, 63, .ireturn, .null, [], [0])]
def zh_126 : List (Nat × List Nat) := []
-- 127: PrimeCertificatesModel.power:(IIII)I
def zo_127 : List (Nat × Nat × dzOp) := [
  (0, 1, .iload 1, .null, [], []),
  (1, 2, .iload 2, .null, [], []),
  (2, 3, .iload 3, .null, [], []),
  (3, 6, .invokestatic 0, .null, [], [121, 3, 1]),
  (6, 9, .ifCond .eq 0, .null, [], [17]),
  (9, 11, .iload 4, .null, [], []),
  (11, 14, .invokestatic 0, .null, [], [118, 1, 1]),
  (14, 17, .ifCond .ne 0, .null, [], [19]),
  (17, 18, .nop, .int (-1 : Int32), [], []),
  (18, 19, .ireturn, .null, [], [0]),
  (19, 20, .aload 0, .null, [], []),
  (20, 21, .iload 3, .null, [], []),
  (21, 24, .invokestatic 0, .null, [], [105, 2, 1]),
  (24, 27, .ifCond .eq 0, .null, [], [30]),
  (27, 29, .nop, .int (-2 : Int32), [], []),
  (29, 30, .ireturn, .null, [], [0]),
  (30, 31, .aload 0, .null, [], []),
  (31, 32, .iload 1, .null, [], []),
  (32, 33, .iload 2, .null, [], []),
  (33, 34, .iload 3, .null, [], []),
  (34, 36, .nop, .int (8 : Int32), [], []),
  (36, 39, .invokestatic 0, .null, [], [114, 5, 0]),
  (39, 40, .aload 0, .null, [], []),
  (40, 42, .nop, .int (8 : Int32), [], []),
  (42, 44, .iload 4, .null, [], []),
  (44, 47, .invokestatic 0, .null, [], [102, 3, 0]),
  (47, 48, .nop, .int (0 : Int32), [], []),
  (48, 49, .ireturn, .null, [], [0])]
def zh_127 : List (Nat × List Nat) := []
-- 128: PrimeCertificatesModel.common:(III)I
def zo_128 : List (Nat × Nat × dzOp) := [
  (0, 1, .iload 1, .null, [], []),
  (1, 2, .iload 2, .null, [], []),
  (2, 3, .iload 3, .null, [], []),
  (3, 6, .invokestatic 0, .null, [], [121, 3, 1]),
  (6, 9, .ifCond .ne 0, .null, [], [11]),
  (9, 10, .nop, .int (-1 : Int32), [], []),
  (10, 11, .ireturn, .null, [], [0]),
  (11, 12, .aload 0, .null, [], []),
  (12, 13, .iload 1, .null, [], []),
  (13, 14, .iload 2, .null, [], []),
  (14, 16, .nop, .int (8 : Int32), [], []),
  (16, 19, .invokestatic 0, .null, [], [115, 4, 0]),
  (19, 20, .aload 0, .null, [], []),
  (20, 22, .nop, .int (8 : Int32), [], []),
  (22, 23, .iload 3, .null, [], []),
  (23, 26, .invokestatic 0, .null, [], [102, 3, 0]),
  (26, 27, .nop, .int (0 : Int32), [], []),
  (27, 28, .ireturn, .null, [], [0])]
def zh_128 : List (Nat × List Nat) := []
-- 129: PrimeCertificatesModel.compare:(II)I
def zo_129 : List (Nat × Nat × dzOp) := [
  (0, 1, .iload 1, .null, [], []),
  (1, 4, .invokestatic 0, .null, [], [118, 1, 1]),
  (4, 7, .ifCond .eq 0, .null, [], [23]),
  (7, 8, .iload 2, .null, [], []),
  (8, 11, .invokestatic 0, .null, [], [118, 1, 1]),
  (11, 14, .ifCond .eq 0, .null, [], [23]),
  (14, 15, .aload 0, .null, [], []),
  (15, 16, .iload 1, .null, [], []),
  (16, 17, .iload 2, .null, [], []),
  (17, 20, .invokestatic 0, .null, [], [103, 3, 1]),
  (20, 23, .goto 0, .null, [], [24]),
  (23, 24, .nop, .int (2 : Int32), [], []),
  (24, 25, .ireturn, .null, [], [0])]
def zh_129 : List (Nat × List Nat) := []
-- 130: PrimeCertificatesModel.say:(I)I
def zo_130 : List (Nat × Nat × dzOp) := [
  (0, 1, .aload 0, .null, [], []),
  (1, 4, .getfield 0, .null, [], [1, 2, 1]),
  (4, 7, .nop, .int (4000 : Int32), [], []),
  (7, 10, .if_icmp .ne 0, .null, [], [13]),
  (10, 12, .nop, .int (-3 : Int32), [], []),
  (12, 13, .ireturn, .null, [], [0]),
  (13, 14, .aload 0, .null, [], []),
  (14, 17, .getfield 0, .null, [], [1, 1, 3]),
  (17, 18, .aload 0, .null, [], []),
  (18, 21, .getfield 0, .null, [], [1, 2, 1]),
  (21, 22, .iload 1, .null, [], []),
  (22, 23, .iastore, .null, [], []),
  (23, 24, .aload 0, .null, [], []),
  (24, 25, .dup, .null, [], []),
  (25, 28, .getfield 0, .null, [], [1, 2, 1]),
  (28, 29, .nop, .int (1 : Int32), [], []),
  (29, 30, .iadd, .null, [], []),
  (30, 33, .putfield 0, .null, [], [1, 2, 1]),
  (33, 34, .aload 0, .null, [], []),
  (34, 37, .getfield 0, .null, [], [1, 2, 1]),
  (37, 38, .ireturn, .null, [], [0])]
def zh_130 : List (Nat × List Nat) := []
-- 131: PrimeCertificatesModel.cut:(I)Z
def zo_131 : List (Nat × Nat × dzOp) := [
  (0, 1, .iload 1, .null, [], []),
  (1, 4, .ifCond .lt 0, .null, [], [12]),
  (4, 5, .iload 1, .null, [], []),
  (5, 6, .aload 0, .null, [], []),
  (6, 9, .getfield 0, .null, [], [1, 2, 1]),
  (9, 12, .if_icmp .le 0, .null, [], [14]),
  (12, 13, .nop, .int (0 : Int32), [], []),
  (13, 14, .ireturn, .null, [], [1]),
  (14, 15, .aload 0, .null, [], []),
  (15, 16, .iload 1, .null, [], []),
  (16, 19, .putfield 0, .null, [], [1, 2, 1]),
  (19, 20, .nop, .int (1 : Int32), [], []),
  (20, 21, .ireturn, .null, [], [1])]
def zh_131 : List (Nat × List Nat) := []
-- 132: PrimeCertificatesModel.length:()I
def zo_132 : List (Nat × Nat × dzOp) := [
  (0, 1, .aload 0, .null, [], []),
  (1, 4, .getfield 0, .null, [], [1, 2, 1]),
  (4, 5, .ireturn, .null, [], [0])]
def zh_132 : List (Nat × List Nat) := []
-- 133: PrimeCertificatesModel.at:(I)I
def zo_133 : List (Nat × Nat × dzOp) := [
  (0, 1, .iload 1, .null, [], []),
  (1, 4, .ifCond .lt 0, .null, [], [21]),
  (4, 5, .iload 1, .null, [], []),
  (5, 6, .aload 0, .null, [], []),
  (6, 9, .getfield 0, .null, [], [1, 2, 1]),
  (9, 12, .if_icmp .ge 0, .null, [], [21]),
  (12, 13, .aload 0, .null, [], []),
  (13, 16, .getfield 0, .null, [], [1, 1, 3]),
  (16, 17, .iload 1, .null, [], []),
  (17, 18, .iaload, .null, [], []),
  (18, 21, .goto 0, .null, [], [22]),
  (21, 22, .nop, .int (0 : Int32), [], []),
  (22, 23, .ireturn, .null, [], [0])]
def zh_133 : List (Nat × List Nat) := []
-- 134: PrimeCertificatesModel.fail:(II)V
def zo_134 : List (Nat × Nat × dzOp) := [
  (0, 1, .aload 0, .null, [], []),
  (1, 4, .getfield 0, .null, [], [1, 7, 1]),
  (4, 7, .ifCond .eq 0, .null, [], [8]),
  (7, 8, .return_, .null, [], []),
  (8, 9, .aload 0, .null, [], []),
  (9, 10, .iload 1, .null, [], []),
  (10, 13, .putfield 0, .null, [], [1, 7, 1]),
  (13, 14, .aload 0, .null, [], []),
  (14, 15, .iload 2, .null, [], []),
  (15, 18, .putfield 0, .null, [], [1, 3, 1]),
  (18, 19, .return_, .null, [], [])]
def zh_134 : List (Nat × List Nat) := []
-- 135: PrimeCertificatesModel.isGood:()Z
def zo_135 : List (Nat × Nat × dzOp) := [
  (0, 1, .aload 0, .null, [], []),
  (1, 4, .getfield 0, .null, [], [1, 7, 1]),
  (4, 7, .ifCond .ne 0, .null, [], [11]),
  (7, 8, .nop, .int (1 : Int32), [], []),
  (8, 11, .goto 0, .null, [], [12]),
  (11, 12, .nop, .int (0 : Int32), [], []),
  (12, 13, .ireturn, .null, [], [1])]
def zh_135 : List (Nat × List Nat) := []
-- 136: PrimeCertificatesModel.next:()I
def zo_136 : List (Nat × Nat × dzOp) := [
  (0, 1, .aload 0, .null, [], []),
  (1, 4, .invokestatic 0, .null, [], [135, 1, 1]),
  (4, 7, .ifCond .ne 0, .null, [], [9]),
  (7, 8, .nop, .int (0 : Int32), [], []),
  (8, 9, .ireturn, .null, [], [0]),
  (9, 10, .aload 0, .null, [], []),
  (10, 13, .getfield 0, .null, [], [1, 6, 1]),
  (13, 14, .aload 0, .null, [], []),
  (14, 17, .getfield 0, .null, [], [1, 2, 1]),
  (17, 20, .if_icmp .ne 0, .null, [], [31]),
  (20, 21, .aload 0, .null, [], []),
  (21, 22, .nop, .int (1 : Int32), [], []),
  (22, 23, .aload 0, .null, [], []),
  (23, 26, .getfield 0, .null, [], [1, 2, 1]),
  (26, 29, .invokestatic 0, .null, [], [134, 3, 0]),
  (29, 30, .nop, .int (0 : Int32), [], []),
  (30, 31, .ireturn, .null, [], [0]),
  (31, 32, .aload 0, .null, [], []),
  (32, 33, .dup, .null, [], []),
  (33, 36, .getfield 0, .null, [], [1, 6, 1]),
  (36, 37, .nop, .int (1 : Int32), [], []),
  (37, 38, .iadd, .null, [], []),
  (38, 41, .putfield 0, .null, [], [1, 6, 1]),
  (41, 42, .aload 0, .null, [], []),
  (42, 45, .getfield 0, .null, [], [1, 1, 3]),
  (45, 46, .aload 0, .null, [], []),
  (46, 49, .getfield 0, .null, [], [1, 6, 1]),
  (49, 50, .nop, .int (1 : Int32), [], []),
  (50, 51, .isub, .null, [], []),
  (51, 52, .iaload, .null, [], []),
  (52, 53, .ireturn, .null, [], [0])]
def zh_136 : List (Nat × List Nat) := []
-- 137: PrimeCertificatesModel.nextIn:(II)I
def zo_137 : List (Nat × Nat × dzOp) := [
  (0, 1, .aload 0, .null, [], []),
  (1, 4, .invokestatic 0, .null, [], [136, 1, 1]),
  (4, 5, .istore 3, .null, [], []),
  (5, 6, .aload 0, .null, [], []),
  (6, 9, .invokestatic 0, .null, [], [135, 1, 1]),
  (9, 12, .ifCond .eq 0, .null, [], [33]),
  (12, 13, .iload 3, .null, [], []),
  (13, 14, .iload 1, .null, [], []),
  (14, 17, .if_icmp .lt 0, .null, [], [22]),
  (17, 18, .iload 3, .null, [], []),
  (18, 19, .iload 2, .null, [], []),
  (19, 22, .if_icmp .le 0, .null, [], [33]),
  (22, 23, .aload 0, .null, [], []),
  (23, 24, .nop, .int (2 : Int32), [], []),
  (24, 25, .aload 0, .null, [], []),
  (25, 28, .getfield 0, .null, [], [1, 6, 1]),
  (28, 29, .nop, .int (1 : Int32), [], []),
  (29, 30, .isub, .null, [], []),
  (30, 33, .invokestatic 0, .null, [], [134, 3, 0]),
  (33, 34, .iload 3, .null, [], []),
  (34, 35, .ireturn, .null, [], [0])]
def zh_137 : List (Nat × List Nat) := [(22, [0, 1, 2, 3])]
-- 138: PrimeCertificatesModel.isSmallPrime:(I)Z
def zo_138 : List (Nat × Nat × dzOp) := [
  (0, 1, .iload 0, .null, [], []),
  (1, 2, .nop, .int (1 : Int32), [], []),
  (2, 5, .if_icmp .le 0, .null, [], [9]),
  (5, 6, .nop, .int (1 : Int32), [], []),
  (6, 9, .goto 0, .null, [], [10]),
  (9, 10, .nop, .int (0 : Int32), [], []),
  (10, 11, .istore 1, .null, [], []),
  (11, 12, .nop, .int (2 : Int32), [], []),
  (12, 13, .istore 2, .null, [], []),
  (13, 14, .iload 2, .null, [], []),
  (14, 15, .iload 2, .null, [], []),
  (15, 16, .imul, .null, [], []),
  (16, 17, .iload 0, .null, [], []),
  (17, 20, .if_icmp .gt 0, .null, [], [42]),
  (20, 21, .iload 1, .null, [], []),
  (21, 24, .ifCond .eq 0, .null, [], [42]),
  (24, 25, .iload 0, .null, [], []),
  (25, 26, .iload 2, .null, [], []),
  (26, 27, .irem, .null, [], []),
  (27, 30, .ifCond .eq 0, .null, [], [34]),
  (30, 31, .nop, .int (1 : Int32), [], []),
  (31, 34, .goto 0, .null, [], [35]),
  (34, 35, .nop, .int (0 : Int32), [], []),
  (35, 36, .istore 1, .null, [], []),
  (36, 39, .iinc 2 0, .int (1 : Int32), [], []),
  (39, 42, .goto 0, .null, [], [13]),
  (42, 43, .iload 1, .null, [], []),
  (43, 44, .ireturn, .null, [], [1])]
def zh_138 : List (Nat × List Nat) := [(10, [0]), (13, [0, 1, 2]), (35, [0, 1, 2])]
-- 139: PrimeCertificatesModel.lineOne:()V
def zo_139 : List (Nat × Nat × dzOp) := [
  (0, 1, .aload 0, .null, [], []),
  (1, 4, .invokestatic 0, .null, [], [136, 1, 1]),
  (4, 5, .istore 1, .null, [], []),
  (5, 6, .aload 0, .null, [], []),
  (6, 9, .invokestatic 0, .null, [], [135, 1, 1]),
  (9, 12, .ifCond .eq 0, .null, [], [41]),
  (12, 13, .iload 1, .null, [], []),
  (13, 14, .nop, .int (2 : Int32), [], []),
  (14, 17, .if_icmp .lt 0, .null, [], [30]),
  (17, 18, .iload 1, .null, [], []),
  (18, 20, .nop, .int (65535 : Int32), [], []),
  (20, 23, .if_icmp .gt 0, .null, [], [30]),
  (23, 24, .iload 1, .null, [], []),
  (24, 27, .invokestatic 0, .null, [], [138, 1, 1]),
  (27, 30, .ifCond .ne 0, .null, [], [41]),
  (30, 31, .aload 0, .null, [], []),
  (31, 32, .nop, .int (3 : Int32), [], []),
  (32, 33, .aload 0, .null, [], []),
  (33, 36, .getfield 0, .null, [], [1, 6, 1]),
  (36, 37, .nop, .int (1 : Int32), [], []),
  (37, 38, .isub, .null, [], []),
  (38, 41, .invokestatic 0, .null, [], [134, 3, 0]),
  (41, 42, .aload 0, .null, [], []),
  (42, 44, .nop, .int (32 : Int32), [], []),
  (44, 45, .aload 0, .null, [], []),
  (45, 48, .getfield 0, .null, [], [1, 4, 1]),
  (48, 49, .iadd, .null, [], []),
  (49, 50, .iload 1, .null, [], []),
  (50, 51, .i2l, .null, [], []),
  (51, 54, .invokestatic 0, .null, [], [100, 3, 0]),
  (54, 55, .return_, .null, [], [])]
def zh_139 : List (Nat × List Nat) := [(30, [0, 1]), (41, [0, 1])]
-- 140: PrimeCertificatesModel.number:()V
def zo_140 : List (Nat × Nat × dzOp) := [
  (0, 1, .aload 0, .null, [], []),
  (1, 4, .getfield 0, .null, [], [1, 6, 1]),
  (4, 5, .istore 1, .null, [], []),
  (5, 6, .aload 0, .null, [], []),
  (6, 7, .nop, .int (1 : Int32), [], []),
  (7, 9, .nop, .int (8 : Int32), [], []),
  (9, 12, .invokestatic 0, .null, [], [137, 3, 1]),
  (12, 13, .istore 2, .null, [], []),
  (13, 14, .nop, .int (1 : Int32), [], []),
  (14, 15, .istore 3, .null, [], []),
  (15, 16, .aload 0, .null, [], []),
  (16, 18, .nop, .int (10 : Int32), [], []),
  (18, 19, .nop, .long (0 : Int64), [], []),
  (19, 22, .invokestatic 0, .null, [], [100, 3, 0]),
  (22, 23, .nop, .int (0 : Int32), [], []),
  (23, 25, .istore 4, .null, [], []),
  (25, 27, .iload 4, .null, [], []),
  (27, 28, .iload 2, .null, [], []),
  (28, 31, .if_icmp .ge 0, .null, [], [85]),
  (31, 32, .aload 0, .null, [], []),
  (32, 35, .invokestatic 0, .null, [], [135, 1, 1]),
  (35, 38, .ifCond .eq 0, .null, [], [85]),
  (38, 39, .aload 0, .null, [], []),
  (39, 42, .invokestatic 0, .null, [], [136, 1, 1]),
  (42, 43, .istore 3, .null, [], []),
  (43, 44, .aload 0, .null, [], []),
  (44, 47, .getfield 0, .null, [], [1, 0, 3]),
  (47, 50, .nop, .int (400 : Int32), [], []),
  (50, 51, .nop, .int (2 : Int32), [], []),
  (51, 53, .iload 4, .null, [], []),
  (53, 54, .imul, .null, [], []),
  (54, 55, .iadd, .null, [], []),
  (55, 56, .iload 3, .null, [], []),
  (56, 58, .nop, .int (65535 : Int32), [], []),
  (58, 59, .iand, .null, [], []),
  (59, 60, .iastore, .null, [], []),
  (60, 61, .aload 0, .null, [], []),
  (61, 64, .getfield 0, .null, [], [1, 0, 3]),
  (64, 67, .nop, .int (400 : Int32), [], []),
  (67, 68, .nop, .int (2 : Int32), [], []),
  (68, 70, .iload 4, .null, [], []),
  (70, 71, .imul, .null, [], []),
  (71, 72, .iadd, .null, [], []),
  (72, 73, .nop, .int (1 : Int32), [], []),
  (73, 74, .iadd, .null, [], []),
  (74, 75, .iload 3, .null, [], []),
  (75, 77, .nop, .int (16 : Int32), [], []),
  (77, 78, .iushr, .null, [], []),
  (78, 79, .iastore, .null, [], []),
  (79, 82, .iinc 4 0, .int (1 : Int32), [], []),
  (82, 85, .goto 0, .null, [], [25]),
  (85, 86, .aload 0, .null, [], []),
  (86, 89, .invokestatic 0, .null, [], [135, 1, 1]),
  (89, 92, .ifCond .eq 0, .null, [], [107]),
  (92, 93, .iload 3, .null, [], []),
  (93, 96, .ifCond .ne 0, .null, [], [107]),
  (96, 97, .aload 0, .null, [], []),
  (97, 98, .nop, .int (2 : Int32), [], []),
  (98, 99, .aload 0, .null, [], []),
  (99, 102, .getfield 0, .null, [], [1, 6, 1]),
  (102, 103, .nop, .int (1 : Int32), [], []),
  (103, 104, .isub, .null, [], []),
  (104, 107, .invokestatic 0, .null, [], [134, 3, 0]),
  (107, 108, .aload 0, .null, [], []),
  (108, 110, .nop, .int (8 : Int32), [], []),
  (110, 113, .nop, .long (3 : Int64), [], []),
  (113, 116, .invokestatic 0, .null, [], [100, 3, 0]),
  (116, 117, .aload 0, .null, [], []),
  (117, 120, .invokestatic 0, .null, [], [135, 1, 1]),
  (120, 123, .ifCond .eq 0, .null, [], [140]),
  (123, 124, .aload 0, .null, [], []),
  (124, 126, .nop, .int (10 : Int32), [], []),
  (126, 128, .nop, .int (8 : Int32), [], []),
  (128, 131, .invokestatic 0, .null, [], [103, 3, 1]),
  (131, 134, .ifCond .ge 0, .null, [], [140]),
  (134, 135, .aload 0, .null, [], []),
  (135, 136, .nop, .int (4 : Int32), [], []),
  (136, 137, .iload 1, .null, [], []),
  (137, 140, .invokestatic 0, .null, [], [134, 3, 0]),
  (140, 141, .aload 0, .null, [], []),
  (141, 143, .nop, .int (10 : Int32), [], []),
  (143, 145, .nop, .int (11 : Int32), [], []),
  (145, 148, .invokestatic 0, .null, [], [102, 3, 0]),
  (148, 149, .aload 0, .null, [], []),
  (149, 152, .invokestatic 0, .null, [], [135, 1, 1]),
  (152, 155, .ifCond .eq 0, .null, [], [163]),
  (155, 156, .aload 0, .null, [], []),
  (156, 158, .nop, .int (11 : Int32), [], []),
  (158, 160, .nop, .int (21 : Int32), [], []),
  (160, 163, .invokestatic 0, .null, [], [107, 3, 0]),
  (163, 164, .return_, .null, [], [])]
def zh_140 : List (Nat × List Nat) := [(25, [0, 1, 2, 3, 4]), (85, [0, 1, 2, 3, 4]), (107, [0, 1, 2, 3, 4]), (140, [0, 1, 2, 3, 4])]
-- 141: PrimeCertificatesModel.witness:(I)V
def zo_141 : List (Nat × Nat × dzOp) := [
  (0, 1, .aload 0, .null, [], []),
  (1, 3, .nop, .int (14 : Int32), [], []),
  (3, 4, .aload 0, .null, [], []),
  (4, 7, .getfield 0, .null, [], [1, 1, 3]),
  (7, 8, .iload 1, .null, [], []),
  (8, 9, .iaload, .null, [], []),
  (9, 10, .i2l, .null, [], []),
  (10, 13, .invokestatic 0, .null, [], [100, 3, 0]),
  (13, 14, .aload 0, .null, [], []),
  (14, 17, .getfield 0, .null, [], [1, 1, 3]),
  (17, 18, .iload 1, .null, [], []),
  (18, 19, .iaload, .null, [], []),
  (19, 20, .nop, .int (2 : Int32), [], []),
  (20, 23, .if_icmp .lt 0, .null, [], [34]),
  (23, 24, .aload 0, .null, [], []),
  (24, 26, .nop, .int (14 : Int32), [], []),
  (26, 28, .nop, .int (10 : Int32), [], []),
  (28, 31, .invokestatic 0, .null, [], [103, 3, 1]),
  (31, 34, .ifCond .lt 0, .null, [], [41]),
  (34, 35, .aload 0, .null, [], []),
  (35, 37, .nop, .int (8 : Int32), [], []),
  (37, 38, .iload 1, .null, [], []),
  (38, 41, .invokestatic 0, .null, [], [134, 3, 0]),
  (41, 42, .return_, .null, [], [])]
def zh_141 : List (Nat × List Nat) := [(34, [0, 1])]
-- 142: PrimeCertificatesModel.factors:(I)V
def zo_142 : List (Nat × Nat × dzOp) := [
  (0, 1, .aload 0, .null, [], []),
  (1, 2, .nop, .int (1 : Int32), [], []),
  (2, 4, .nop, .int (40 : Int32), [], []),
  (4, 7, .invokestatic 0, .null, [], [137, 3, 1]),
  (7, 8, .istore 2, .null, [], []),
  (8, 9, .nop, .int (0 : Int32), [], []),
  (9, 10, .istore 3, .null, [], []),
  (10, 11, .iload 3, .null, [], []),
  (11, 12, .iload 2, .null, [], []),
  (12, 15, .if_icmp .ge 0, .null, [], [110]),
  (15, 16, .aload 0, .null, [], []),
  (16, 19, .invokestatic 0, .null, [], [135, 1, 1]),
  (19, 22, .ifCond .eq 0, .null, [], [110]),
  (22, 23, .aload 0, .null, [], []),
  (23, 24, .nop, .int (0 : Int32), [], []),
  (24, 25, .aload 0, .null, [], []),
  (25, 28, .getfield 0, .null, [], [1, 4, 1]),
  (28, 29, .nop, .int (1 : Int32), [], []),
  (29, 30, .isub, .null, [], []),
  (30, 33, .invokestatic 0, .null, [], [137, 3, 1]),
  (33, 35, .istore 4, .null, [], []),
  (35, 36, .aload 0, .null, [], []),
  (36, 39, .invokestatic 0, .null, [], [135, 1, 1]),
  (39, 42, .ifCond .eq 0, .null, [], [85]),
  (42, 43, .iload 3, .null, [], []),
  (43, 46, .ifCond .le 0, .null, [], [85]),
  (46, 47, .aload 0, .null, [], []),
  (47, 49, .nop, .int (32 : Int32), [], []),
  (49, 50, .aload 0, .null, [], []),
  (50, 53, .getfield 0, .null, [], [1, 1, 3]),
  (53, 54, .aload 0, .null, [], []),
  (54, 57, .getfield 0, .null, [], [1, 6, 1]),
  (57, 58, .nop, .int (1 : Int32), [], []),
  (58, 59, .isub, .null, [], []),
  (59, 60, .iload 1, .null, [], []),
  (60, 61, .isub, .null, [], []),
  (61, 62, .iaload, .null, [], []),
  (62, 63, .iadd, .null, [], []),
  (63, 65, .nop, .int (32 : Int32), [], []),
  (65, 67, .iload 4, .null, [], []),
  (67, 68, .iadd, .null, [], []),
  (68, 71, .invokestatic 0, .null, [], [103, 3, 1]),
  (71, 74, .ifCond .lt 0, .null, [], [85]),
  (74, 75, .aload 0, .null, [], []),
  (75, 76, .nop, .int (5 : Int32), [], []),
  (76, 77, .aload 0, .null, [], []),
  (77, 80, .getfield 0, .null, [], [1, 6, 1]),
  (80, 81, .nop, .int (1 : Int32), [], []),
  (81, 82, .isub, .null, [], []),
  (82, 85, .invokestatic 0, .null, [], [134, 3, 0]),
  (85, 86, .aload 0, .null, [], []),
  (86, 87, .nop, .int (1 : Int32), [], []),
  (87, 90, .nop, .int (255 : Int32), [], []),
  (90, 93, .invokestatic 0, .null, [], [137, 3, 1]),
  (93, 94, .pop, .null, [], []),
  (94, 95, .iload 1, .null, [], []),
  (95, 96, .nop, .int (3 : Int32), [], []),
  (96, 99, .if_icmp .ne 0, .null, [], [104]),
  (99, 100, .aload 0, .null, [], []),
  (100, 103, .invokestatic 0, .null, [], [136, 1, 1]),
  (103, 104, .pop, .null, [], []),
  (104, 107, .iinc 3 0, .int (1 : Int32), [], []),
  (107, 110, .goto 0, .null, [], [10]),
  (110, 111, .return_, .null, [], [])]
def zh_142 : List (Nat × List Nat) := [(10, [0, 1, 2, 3]), (85, [0, 1, 2, 3, 4]), (104, [0, 1, 2, 3, 4])]
-- 143: PrimeCertificatesModel.product:(II)Z
def zo_143 : List (Nat × Nat × dzOp) := [
  (0, 1, .aload 0, .null, [], []),
  (1, 3, .nop, .int (13 : Int32), [], []),
  (3, 4, .nop, .long (1 : Int64), [], []),
  (4, 7, .invokestatic 0, .null, [], [100, 3, 0]),
  (7, 8, .nop, .int (0 : Int32), [], []),
  (8, 9, .istore 3, .null, [], []),
  (9, 10, .iload 3, .null, [], []),
  (10, 11, .aload 0, .null, [], []),
  (11, 14, .getfield 0, .null, [], [1, 1, 3]),
  (14, 15, .iload 1, .null, [], []),
  (15, 16, .iaload, .null, [], []),
  (16, 19, .if_icmp .ge 0, .null, [], [96]),
  (19, 20, .aload 0, .null, [], []),
  (20, 23, .getfield 0, .null, [], [1, 1, 3]),
  (23, 24, .iload 1, .null, [], []),
  (24, 25, .nop, .int (1 : Int32), [], []),
  (25, 26, .iadd, .null, [], []),
  (26, 27, .iload 2, .null, [], []),
  (27, 28, .iload 3, .null, [], []),
  (28, 29, .imul, .null, [], []),
  (29, 30, .iadd, .null, [], []),
  (30, 31, .iaload, .null, [], []),
  (31, 33, .istore 4, .null, [], []),
  (33, 34, .aload 0, .null, [], []),
  (34, 37, .getfield 0, .null, [], [1, 1, 3]),
  (37, 38, .iload 1, .null, [], []),
  (38, 39, .nop, .int (2 : Int32), [], []),
  (39, 40, .iadd, .null, [], []),
  (40, 41, .iload 2, .null, [], []),
  (41, 42, .iload 3, .null, [], []),
  (42, 43, .imul, .null, [], []),
  (43, 44, .iadd, .null, [], []),
  (44, 45, .iaload, .null, [], []),
  (45, 47, .istore 5, .null, [], []),
  (47, 49, .iload 5, .null, [], []),
  (49, 52, .ifCond .le 0, .null, [], [90]),
  (52, 53, .aload 0, .null, [], []),
  (53, 55, .nop, .int (13 : Int32), [], []),
  (55, 57, .nop, .int (32 : Int32), [], []),
  (57, 59, .iload 4, .null, [], []),
  (59, 60, .iadd, .null, [], []),
  (60, 62, .nop, .int (8 : Int32), [], []),
  (62, 65, .invokestatic 0, .null, [], [108, 4, 0]),
  (65, 66, .aload 0, .null, [], []),
  (66, 68, .nop, .int (8 : Int32), [], []),
  (68, 71, .invokestatic 0, .null, [], [116, 2, 1]),
  (71, 74, .ifCond .ne 0, .null, [], [76]),
  (74, 75, .nop, .int (0 : Int32), [], []),
  (75, 76, .ireturn, .null, [], [1]),
  (76, 77, .aload 0, .null, [], []),
  (77, 79, .nop, .int (8 : Int32), [], []),
  (79, 81, .nop, .int (13 : Int32), [], []),
  (81, 84, .invokestatic 0, .null, [], [102, 3, 0]),
  (84, 87, .iinc 5 0, .int (-1 : Int32), [], []),
  (87, 90, .goto 0, .null, [], [47]),
  (90, 93, .iinc 3 0, .int (1 : Int32), [], []),
  (93, 96, .goto 0, .null, [], [9]),
  (96, 97, .nop, .int (1 : Int32), [], []),
  (97, 98, .ireturn, .null, [], [1])]
def zh_143 : List (Nat × List Nat) := [(9, [0, 1, 2, 3]), (47, [0, 1, 2, 3, 4, 5])]
-- 144: PrimeCertificatesModel.isWhole:()Z
def zo_144 : List (Nat × Nat × dzOp) := [
  (0, 1, .aload 0, .null, [], []),
  (1, 3, .nop, .int (14 : Int32), [], []),
  (3, 5, .nop, .int (11 : Int32), [], []),
  (5, 7, .nop, .int (10 : Int32), [], []),
  (7, 9, .nop, .int (16 : Int32), [], []),
  (9, 12, .invokestatic 0, .null, [], [114, 5, 0]),
  (12, 13, .aload 0, .null, [], []),
  (13, 15, .nop, .int (16 : Int32), [], []),
  (15, 18, .invokestatic 0, .null, [], [117, 2, 1]),
  (18, 19, .ireturn, .null, [], [1])]
def zh_144 : List (Nat × List Nat) := []
-- 145: PrimeCertificatesModel.isRight:(IZ)Z
def zo_145 : List (Nat × Nat × dzOp) := [
  (0, 1, .aload 0, .null, [], []),
  (1, 3, .nop, .int (11 : Int32), [], []),
  (3, 5, .nop, .int (32 : Int32), [], []),
  (5, 6, .iload 1, .null, [], []),
  (6, 7, .iadd, .null, [], []),
  (7, 9, .nop, .int (15 : Int32), [], []),
  (9, 11, .nop, .int (16 : Int32), [], []),
  (11, 14, .invokestatic 0, .null, [], [112, 5, 0]),
  (14, 15, .aload 0, .null, [], []),
  (15, 17, .nop, .int (14 : Int32), [], []),
  (17, 19, .nop, .int (15 : Int32), [], []),
  (19, 21, .nop, .int (10 : Int32), [], []),
  (21, 23, .nop, .int (16 : Int32), [], []),
  (23, 26, .invokestatic 0, .null, [], [114, 5, 0]),
  (26, 27, .iload 2, .null, [], []),
  (27, 30, .ifCond .ne 0, .null, [], [45]),
  (30, 31, .aload 0, .null, [], []),
  (31, 33, .nop, .int (16 : Int32), [], []),
  (33, 36, .invokestatic 0, .null, [], [117, 2, 1]),
  (36, 39, .ifCond .ne 0, .null, [], [43]),
  (39, 40, .nop, .int (1 : Int32), [], []),
  (40, 43, .goto 0, .null, [], [44]),
  (43, 44, .nop, .int (0 : Int32), [], []),
  (44, 45, .ireturn, .null, [], [1]),
  (45, 46, .aload 0, .null, [], []),
  (46, 48, .nop, .int (16 : Int32), [], []),
  (48, 51, .invokestatic 0, .null, [], [105, 2, 1]),
  (51, 54, .ifCond .eq 0, .null, [], [62]),
  (54, 55, .aload 0, .null, [], []),
  (55, 57, .nop, .int (10 : Int32), [], []),
  (57, 59, .nop, .int (16 : Int32), [], []),
  (59, 62, .invokestatic 0, .null, [], [102, 3, 0]),
  (62, 63, .aload 0, .null, [], []),
  (63, 65, .nop, .int (16 : Int32), [], []),
  (65, 67, .nop, .int (21 : Int32), [], []),
  (67, 70, .invokestatic 0, .null, [], [107, 3, 0]),
  (70, 71, .aload 0, .null, [], []),
  (71, 73, .nop, .int (16 : Int32), [], []),
  (73, 75, .nop, .int (10 : Int32), [], []),
  (75, 77, .nop, .int (22 : Int32), [], []),
  (77, 80, .invokestatic 0, .null, [], [115, 4, 0]),
  (80, 81, .aload 0, .null, [], []),
  (81, 83, .nop, .int (22 : Int32), [], []),
  (83, 86, .invokestatic 0, .null, [], [117, 2, 1]),
  (86, 87, .ireturn, .null, [], [1])]
def zh_145 : List (Nat × List Nat) := [(62, [0, 1, 2])]
-- 146: PrimeCertificatesModel.lineTwo:()V
def zo_146 : List (Nat × Nat × dzOp) := [
  (0, 1, .aload 0, .null, [], []),
  (1, 4, .invokestatic 0, .null, [], [140, 1, 0]),
  (4, 5, .aload 0, .null, [], []),
  (5, 8, .getfield 0, .null, [], [1, 6, 1]),
  (8, 9, .istore 1, .null, [], []),
  (9, 10, .aload 0, .null, [], []),
  (10, 13, .invokestatic 0, .null, [], [136, 1, 1]),
  (13, 14, .pop, .null, [], []),
  (14, 15, .aload 0, .null, [], []),
  (15, 18, .invokestatic 0, .null, [], [135, 1, 1]),
  (18, 21, .ifCond .eq 0, .null, [], [26]),
  (21, 22, .aload 0, .null, [], []),
  (22, 23, .iload 1, .null, [], []),
  (23, 26, .invokestatic 0, .null, [], [141, 2, 0]),
  (26, 27, .aload 0, .null, [], []),
  (27, 30, .getfield 0, .null, [], [1, 6, 1]),
  (30, 31, .istore 2, .null, [], []),
  (31, 32, .aload 0, .null, [], []),
  (32, 33, .nop, .int (2 : Int32), [], []),
  (33, 36, .invokestatic 0, .null, [], [142, 2, 0]),
  (36, 37, .aload 0, .null, [], []),
  (37, 40, .invokestatic 0, .null, [], [135, 1, 1]),
  (40, 43, .ifCond .ne 0, .null, [], [44]),
  (43, 44, .return_, .null, [], []),
  (44, 45, .aload 0, .null, [], []),
  (45, 46, .iload 2, .null, [], []),
  (46, 47, .nop, .int (2 : Int32), [], []),
  (47, 50, .invokestatic 0, .null, [], [143, 3, 1]),
  (50, 53, .ifCond .eq 0, .null, [], [64]),
  (53, 54, .aload 0, .null, [], []),
  (54, 56, .nop, .int (13 : Int32), [], []),
  (56, 58, .nop, .int (11 : Int32), [], []),
  (58, 61, .invokestatic 0, .null, [], [103, 3, 1]),
  (61, 64, .ifCond .eq 0, .null, [], [71]),
  (64, 65, .aload 0, .null, [], []),
  (65, 67, .nop, .int (6 : Int32), [], []),
  (67, 68, .iload 2, .null, [], []),
  (68, 71, .invokestatic 0, .null, [], [134, 3, 0]),
  (71, 72, .aload 0, .null, [], []),
  (72, 74, .nop, .int (14 : Int32), [], []),
  (74, 75, .aload 0, .null, [], []),
  (75, 78, .getfield 0, .null, [], [1, 1, 3]),
  (78, 79, .iload 1, .null, [], []),
  (79, 80, .iaload, .null, [], []),
  (80, 81, .i2l, .null, [], []),
  (81, 84, .invokestatic 0, .null, [], [100, 3, 0]),
  (84, 85, .aload 0, .null, [], []),
  (85, 88, .invokestatic 0, .null, [], [135, 1, 1]),
  (88, 91, .ifCond .eq 0, .null, [], [105]),
  (91, 92, .aload 0, .null, [], []),
  (92, 95, .invokestatic 0, .null, [], [144, 1, 1]),
  (95, 98, .ifCond .ne 0, .null, [], [105]),
  (98, 99, .aload 0, .null, [], []),
  (99, 101, .nop, .int (9 : Int32), [], []),
  (101, 102, .iload 1, .null, [], []),
  (102, 105, .invokestatic 0, .null, [], [134, 3, 0]),
  (105, 106, .nop, .int (0 : Int32), [], []),
  (106, 107, .istore 3, .null, [], []),
  (107, 108, .iload 3, .null, [], []),
  (108, 109, .aload 0, .null, [], []),
  (109, 112, .getfield 0, .null, [], [1, 1, 3]),
  (112, 113, .iload 2, .null, [], []),
  (113, 114, .iaload, .null, [], []),
  (114, 117, .if_icmp .ge 0, .null, [], [163]),
  (117, 118, .aload 0, .null, [], []),
  (118, 121, .invokestatic 0, .null, [], [135, 1, 1]),
  (121, 124, .ifCond .eq 0, .null, [], [163]),
  (124, 125, .aload 0, .null, [], []),
  (125, 126, .aload 0, .null, [], []),
  (126, 129, .getfield 0, .null, [], [1, 1, 3]),
  (129, 130, .iload 2, .null, [], []),
  (130, 131, .nop, .int (1 : Int32), [], []),
  (131, 132, .iadd, .null, [], []),
  (132, 133, .nop, .int (2 : Int32), [], []),
  (133, 134, .iload 3, .null, [], []),
  (134, 135, .imul, .null, [], []),
  (135, 136, .iadd, .null, [], []),
  (136, 137, .iaload, .null, [], []),
  (137, 138, .nop, .int (0 : Int32), [], []),
  (138, 141, .invokestatic 0, .null, [], [145, 3, 1]),
  (141, 144, .ifCond .ne 0, .null, [], [157]),
  (144, 145, .aload 0, .null, [], []),
  (145, 147, .nop, .int (10 : Int32), [], []),
  (147, 148, .iload 2, .null, [], []),
  (148, 149, .nop, .int (1 : Int32), [], []),
  (149, 150, .iadd, .null, [], []),
  (150, 151, .nop, .int (2 : Int32), [], []),
  (151, 152, .iload 3, .null, [], []),
  (152, 153, .imul, .null, [], []),
  (153, 154, .iadd, .null, [], []),
  (154, 157, .invokestatic 0, .null, [], [134, 3, 0]),
  (157, 160, .iinc 3 0, .int (1 : Int32), [], []),
  (160, 163, .goto 0, .null, [], [107]),
  (163, 164, .aload 0, .null, [], []),
  (164, 166, .nop, .int (10 : Int32), [], []),
  (166, 168, .nop, .int (32 : Int32), [], []),
  (168, 169, .aload 0, .null, [], []),
  (169, 172, .getfield 0, .null, [], [1, 4, 1]),
  (172, 173, .iadd, .null, [], []),
  (173, 176, .invokestatic 0, .null, [], [102, 3, 0]),
  (176, 177, .return_, .null, [], [])]
def zh_146 : List (Nat × List Nat) := [(26, [0, 1]), (64, [0, 1, 2]), (71, [0, 1, 2]), (105, [0, 1, 2]), (107, [0, 1, 2, 3]), (157, [0, 1, 2, 3]), (163, [0, 1, 2, 3])]
-- 147: PrimeCertificatesModel.lineThree:()V
def zo_147 : List (Nat × Nat × dzOp) := [
  (0, 1, .aload 0, .null, [], []),
  (1, 4, .invokestatic 0, .null, [], [140, 1, 0]),
  (4, 5, .aload 0, .null, [], []),
  (5, 8, .getfield 0, .null, [], [1, 6, 1]),
  (8, 9, .istore 1, .null, [], []),
  (9, 10, .aload 0, .null, [], []),
  (10, 11, .nop, .int (3 : Int32), [], []),
  (11, 14, .invokestatic 0, .null, [], [142, 2, 0]),
  (14, 15, .aload 0, .null, [], []),
  (15, 18, .invokestatic 0, .null, [], [135, 1, 1]),
  (18, 21, .ifCond .ne 0, .null, [], [22]),
  (21, 22, .return_, .null, [], []),
  (22, 23, .aload 0, .null, [], []),
  (23, 24, .iload 1, .null, [], []),
  (24, 25, .nop, .int (3 : Int32), [], []),
  (25, 28, .invokestatic 0, .null, [], [143, 3, 1]),
  (28, 31, .ifCond .eq 0, .null, [], [46]),
  (31, 32, .aload 0, .null, [], []),
  (32, 34, .nop, .int (11 : Int32), [], []),
  (34, 36, .nop, .int (13 : Int32), [], []),
  (36, 38, .nop, .int (15 : Int32), [], []),
  (38, 40, .nop, .int (16 : Int32), [], []),
  (40, 43, .invokestatic 0, .null, [], [112, 5, 0]),
  (43, 46, .goto 0, .null, [], [54]),
  (46, 47, .aload 0, .null, [], []),
  (47, 49, .nop, .int (21 : Int32), [], []),
  (49, 51, .nop, .int (16 : Int32), [], []),
  (51, 54, .invokestatic 0, .null, [], [102, 3, 0]),
  (54, 55, .aload 0, .null, [], []),
  (55, 57, .nop, .int (16 : Int32), [], []),
  (57, 60, .invokestatic 0, .null, [], [105, 2, 1]),
  (60, 63, .ifCond .ne 0, .null, [], [70]),
  (63, 64, .aload 0, .null, [], []),
  (64, 66, .nop, .int (6 : Int32), [], []),
  (66, 67, .iload 1, .null, [], []),
  (67, 70, .invokestatic 0, .null, [], [134, 3, 0]),
  (70, 71, .aload 0, .null, [], []),
  (71, 73, .nop, .int (13 : Int32), [], []),
  (73, 75, .nop, .int (13 : Int32), [], []),
  (75, 77, .nop, .int (8 : Int32), [], []),
  (77, 80, .invokestatic 0, .null, [], [108, 4, 0]),
  (80, 81, .aload 0, .null, [], []),
  (81, 83, .nop, .int (8 : Int32), [], []),
  (83, 85, .nop, .int (10 : Int32), [], []),
  (85, 88, .invokestatic 0, .null, [], [103, 3, 1]),
  (88, 91, .ifCond .gt 0, .null, [], [98]),
  (91, 92, .aload 0, .null, [], []),
  (92, 94, .nop, .int (7 : Int32), [], []),
  (94, 95, .iload 1, .null, [], []),
  (95, 98, .invokestatic 0, .null, [], [134, 3, 0]),
  (98, 99, .nop, .int (0 : Int32), [], []),
  (99, 100, .istore 2, .null, [], []),
  (100, 101, .iload 2, .null, [], []),
  (101, 102, .aload 0, .null, [], []),
  (102, 105, .getfield 0, .null, [], [1, 1, 3]),
  (105, 106, .iload 1, .null, [], []),
  (106, 107, .iaload, .null, [], []),
  (107, 110, .if_icmp .ge 0, .null, [], [134]),
  (110, 111, .aload 0, .null, [], []),
  (111, 114, .invokestatic 0, .null, [], [135, 1, 1]),
  (114, 117, .ifCond .eq 0, .null, [], [134]),
  (117, 118, .aload 0, .null, [], []),
  (118, 119, .iload 1, .null, [], []),
  (119, 120, .nop, .int (3 : Int32), [], []),
  (120, 121, .iadd, .null, [], []),
  (121, 122, .nop, .int (3 : Int32), [], []),
  (122, 123, .iload 2, .null, [], []),
  (123, 124, .imul, .null, [], []),
  (124, 125, .iadd, .null, [], []),
  (125, 128, .invokestatic 0, .null, [], [141, 2, 0]),
  (128, 131, .iinc 2 0, .int (1 : Int32), [], []),
  (131, 134, .goto 0, .null, [], [100]),
  (134, 135, .nop, .int (0 : Int32), [], []),
  (135, 136, .istore 2, .null, [], []),
  (136, 137, .iload 2, .null, [], []),
  (137, 138, .aload 0, .null, [], []),
  (138, 141, .getfield 0, .null, [], [1, 1, 3]),
  (141, 142, .iload 1, .null, [], []),
  (142, 143, .iaload, .null, [], []),
  (143, 146, .if_icmp .ge 0, .null, [], [234]),
  (146, 147, .aload 0, .null, [], []),
  (147, 150, .invokestatic 0, .null, [], [135, 1, 1]),
  (150, 153, .ifCond .eq 0, .null, [], [234]),
  (153, 154, .aload 0, .null, [], []),
  (154, 156, .nop, .int (14 : Int32), [], []),
  (156, 157, .aload 0, .null, [], []),
  (157, 160, .getfield 0, .null, [], [1, 1, 3]),
  (160, 161, .iload 1, .null, [], []),
  (161, 162, .nop, .int (3 : Int32), [], []),
  (162, 163, .iadd, .null, [], []),
  (163, 164, .nop, .int (3 : Int32), [], []),
  (164, 165, .iload 2, .null, [], []),
  (165, 166, .imul, .null, [], []),
  (166, 167, .iadd, .null, [], []),
  (167, 168, .iaload, .null, [], []),
  (168, 169, .i2l, .null, [], []),
  (169, 172, .invokestatic 0, .null, [], [100, 3, 0]),
  (172, 173, .aload 0, .null, [], []),
  (173, 176, .invokestatic 0, .null, [], [144, 1, 1]),
  (176, 179, .ifCond .ne 0, .null, [], [195]),
  (179, 180, .aload 0, .null, [], []),
  (180, 182, .nop, .int (9 : Int32), [], []),
  (182, 183, .iload 1, .null, [], []),
  (183, 184, .nop, .int (3 : Int32), [], []),
  (184, 185, .iadd, .null, [], []),
  (185, 186, .nop, .int (3 : Int32), [], []),
  (186, 187, .iload 2, .null, [], []),
  (187, 188, .imul, .null, [], []),
  (188, 189, .iadd, .null, [], []),
  (189, 192, .invokestatic 0, .null, [], [134, 3, 0]),
  (192, 195, .goto 0, .null, [], [228]),
  (195, 196, .aload 0, .null, [], []),
  (196, 197, .aload 0, .null, [], []),
  (197, 200, .getfield 0, .null, [], [1, 1, 3]),
  (200, 201, .iload 1, .null, [], []),
  (201, 202, .nop, .int (1 : Int32), [], []),
  (202, 203, .iadd, .null, [], []),
  (203, 204, .nop, .int (3 : Int32), [], []),
  (204, 205, .iload 2, .null, [], []),
  (205, 206, .imul, .null, [], []),
  (206, 207, .iadd, .null, [], []),
  (207, 208, .iaload, .null, [], []),
  (208, 209, .nop, .int (1 : Int32), [], []),
  (209, 212, .invokestatic 0, .null, [], [145, 3, 1]),
  (212, 215, .ifCond .ne 0, .null, [], [228]),
  (215, 216, .aload 0, .null, [], []),
  (216, 218, .nop, .int (10 : Int32), [], []),
  (218, 219, .iload 1, .null, [], []),
  (219, 220, .nop, .int (1 : Int32), [], []),
  (220, 221, .iadd, .null, [], []),
  (221, 222, .nop, .int (3 : Int32), [], []),
  (222, 223, .iload 2, .null, [], []),
  (223, 224, .imul, .null, [], []),
  (224, 225, .iadd, .null, [], []),
  (225, 228, .invokestatic 0, .null, [], [134, 3, 0]),
  (228, 231, .iinc 2 0, .int (1 : Int32), [], []),
  (231, 234, .goto 0, .null, [], [136]),
  (234, 235, .aload 0, .null, [], []),
  (235, 237, .nop, .int (10 : Int32), [], []),
  (237, 239, .nop, .int (32 : Int32), [], []),
  (239, 240, .aload 0, .null, [], []),
  (240, 243, .getfield 0, .null, [], [1, 4, 1]),
  (243, 244, .iadd, .null, [], []),
  (244, 247, .invokestatic 0, .null, [], [102, 3, 0]),
  (247, 248, .return_, .null, [], [])]
def zh_147 : List (Nat × List Nat) := [(54, [0, 1]), (70, [0, 1]), (98, [0, 1]), (100, [0, 1, 2]), (134, [0, 1, 2]), (136, [0, 1, 2]), (228, [0, 1, 2]), (234, [0, 1, 2])]
-- 148: PrimeCertificatesModel.check:()I
def zo_148 : List (Nat × Nat × dzOp) := [
  (0, 1, .aload 0, .null, [], []),
  (1, 2, .nop, .int (0 : Int32), [], []),
  (2, 5, .putfield 0, .null, [], [1, 5, 1]),
  (5, 6, .aload 0, .null, [], []),
  (6, 8, .nop, .int (-2 : Int32), [], []),
  (8, 11, .putfield 0, .null, [], [1, 3, 1]),
  (11, 12, .aload 0, .null, [], []),
  (12, 13, .nop, .int (0 : Int32), [], []),
  (13, 16, .putfield 0, .null, [], [1, 7, 1]),
  (16, 17, .aload 0, .null, [], []),
  (17, 18, .nop, .int (0 : Int32), [], []),
  (18, 21, .putfield 0, .null, [], [1, 6, 1]),
  (21, 22, .aload 0, .null, [], []),
  (22, 23, .nop, .int (0 : Int32), [], []),
  (23, 26, .putfield 0, .null, [], [1, 4, 1]),
  (26, 27, .aload 0, .null, [], []),
  (27, 30, .invokestatic 0, .null, [], [135, 1, 1]),
  (30, 33, .ifCond .eq 0, .null, [], [128]),
  (33, 34, .aload 0, .null, [], []),
  (34, 37, .getfield 0, .null, [], [1, 6, 1]),
  (37, 38, .aload 0, .null, [], []),
  (38, 41, .getfield 0, .null, [], [1, 2, 1]),
  (41, 44, .if_icmp .ge 0, .null, [], [128]),
  (44, 45, .aload 0, .null, [], []),
  (45, 48, .getfield 0, .null, [], [1, 4, 1]),
  (48, 51, .nop, .int (200 : Int32), [], []),
  (51, 54, .if_icmp .ne 0, .null, [], [63]),
  (54, 55, .aload 0, .null, [], []),
  (55, 56, .nop, .int (2 : Int32), [], []),
  (56, 57, .aload 0, .null, [], []),
  (57, 60, .getfield 0, .null, [], [1, 6, 1]),
  (60, 63, .invokestatic 0, .null, [], [134, 3, 0]),
  (63, 64, .aload 0, .null, [], []),
  (64, 65, .nop, .int (1 : Int32), [], []),
  (65, 66, .nop, .int (3 : Int32), [], []),
  (66, 69, .invokestatic 0, .null, [], [137, 3, 1]),
  (69, 70, .istore 1, .null, [], []),
  (70, 71, .aload 0, .null, [], []),
  (71, 74, .invokestatic 0, .null, [], [135, 1, 1]),
  (74, 77, .ifCond .ne 0, .null, [], [80]),
  (77, 80, .goto 0, .null, [], [26]),
  (80, 81, .iload 1, .null, [], []),
  (81, 82, .nop, .int (1 : Int32), [], []),
  (82, 85, .if_icmp .ne 0, .null, [], [92]),
  (85, 86, .aload 0, .null, [], []),
  (86, 89, .invokestatic 0, .null, [], [139, 1, 0]),
  (89, 92, .goto 0, .null, [], [108]),
  (92, 93, .iload 1, .null, [], []),
  (93, 94, .nop, .int (2 : Int32), [], []),
  (94, 97, .if_icmp .ne 0, .null, [], [104]),
  (97, 98, .aload 0, .null, [], []),
  (98, 101, .invokestatic 0, .null, [], [146, 1, 0]),
  (101, 104, .goto 0, .null, [], [108]),
  (104, 105, .aload 0, .null, [], []),
  (105, 108, .invokestatic 0, .null, [], [147, 1, 0]),
  (108, 109, .aload 0, .null, [], []),
  (109, 112, .invokestatic 0, .null, [], [135, 1, 1]),
  (112, 115, .ifCond .eq 0, .null, [], [125]),
  (115, 116, .aload 0, .null, [], []),
  (116, 117, .dup, .null, [], []),
  (117, 120, .getfield 0, .null, [], [1, 4, 1]),
  (120, 121, .nop, .int (1 : Int32), [], []),
  (121, 122, .iadd, .null, [], []),
  (122, 125, .putfield 0, .null, [], [1, 4, 1]),
  (125, 128, .goto 0, .null, [], [26]),
  (128, 129, .aload 0, .null, [], []),
  (129, 132, .invokestatic 0, .null, [], [135, 1, 1]),
  (132, 135, .ifCond .ne 0, .null, [], [143]),
  (135, 137, .nop, .int (-100 : Int32), [], []),
  (137, 138, .aload 0, .null, [], []),
  (138, 141, .getfield 0, .null, [], [1, 7, 1]),
  (141, 142, .isub, .null, [], []),
  (142, 143, .ireturn, .null, [], [0]),
  (143, 144, .aload 0, .null, [], []),
  (144, 145, .aload 0, .null, [], []),
  (145, 148, .getfield 0, .null, [], [1, 4, 1]),
  (148, 151, .putfield 0, .null, [], [1, 5, 1]),
  (151, 152, .aload 0, .null, [], []),
  (152, 155, .getfield 0, .null, [], [1, 4, 1]),
  (155, 156, .ireturn, .null, [], [0])]
def zh_148 : List (Nat × List Nat) := [(26, [0]), (63, [0]), (108, [0, 1]), (125, [0, 1]), (128, [0])]
-- 149: PrimeCertificatesModel.place:()I
def zo_149 : List (Nat × Nat × dzOp) := [
  (0, 1, .aload 0, .null, [], []),
  (1, 4, .getfield 0, .null, [], [1, 3, 1]),
  (4, 5, .ireturn, .null, [], [0])]
def zh_149 : List (Nat × List Nat) := []
-- 150: PrimeCertificatesModel.tell:(II)Z
def zo_150 : List (Nat × Nat × dzOp) := [
  (0, 1, .iload 1, .null, [], []),
  (1, 4, .ifCond .lt 0, .null, [], [19]),
  (4, 5, .iload 1, .null, [], []),
  (5, 6, .aload 0, .null, [], []),
  (6, 9, .getfield 0, .null, [], [1, 5, 1]),
  (9, 12, .if_icmp .ge 0, .null, [], [19]),
  (12, 13, .iload 2, .null, [], []),
  (13, 16, .invokestatic 0, .null, [], [118, 1, 1]),
  (16, 19, .ifCond .ne 0, .null, [], [21]),
  (19, 20, .nop, .int (0 : Int32), [], []),
  (20, 21, .ireturn, .null, [], [1]),
  (21, 22, .aload 0, .null, [], []),
  (22, 24, .nop, .int (32 : Int32), [], []),
  (24, 25, .iload 1, .null, [], []),
  (25, 26, .iadd, .null, [], []),
  (26, 27, .iload 2, .null, [], []),
  (27, 30, .invokestatic 0, .null, [], [102, 3, 0]),
  (30, 31, .nop, .int (1 : Int32), [], []),
  (31, 32, .ireturn, .null, [], [1])]
def zh_150 : List (Nat × List Nat) := []
-- 151: PrimeCertificatesModel.lineOf:(I)I
def zo_151 : List (Nat × Nat × dzOp) := [
  (0, 1, .nop, .int (0 : Int32), [], []),
  (1, 2, .istore 2, .null, [], []),
  (2, 3, .iload 2, .null, [], []),
  (3, 4, .aload 0, .null, [], []),
  (4, 7, .getfield 0, .null, [], [1, 4, 1]),
  (7, 10, .if_icmp .ge 0, .null, [], [28]),
  (10, 11, .aload 0, .null, [], []),
  (11, 13, .nop, .int (32 : Int32), [], []),
  (13, 14, .iload 2, .null, [], []),
  (14, 15, .iadd, .null, [], []),
  (15, 16, .iload 1, .null, [], []),
  (16, 19, .invokestatic 0, .null, [], [103, 3, 1]),
  (19, 22, .ifCond .eq 0, .null, [], [28]),
  (22, 25, .iinc 2 0, .int (1 : Int32), [], []),
  (25, 28, .goto 0, .null, [], [2]),
  (28, 29, .iload 2, .null, [], []),
  (29, 30, .aload 0, .null, [], []),
  (30, 33, .getfield 0, .null, [], [1, 4, 1]),
  (33, 36, .if_icmp .ge 0, .null, [], [40]),
  (36, 37, .iload 2, .null, [], []),
  (37, 40, .goto 0, .null, [], [41]),
  (40, 41, .nop, .int (-1 : Int32), [], []),
  (41, 42, .ireturn, .null, [], [0])]
def zh_151 : List (Nat × List Nat) := [(2, [0, 1, 2]), (28, [0, 1, 2])]
-- 152: PrimeCertificatesModel.sayOne:(I)Z
def zo_152 : List (Nat × Nat × dzOp) := [
  (0, 1, .aload 0, .null, [], []),
  (1, 4, .getfield 0, .null, [], [1, 4, 1]),
  (4, 7, .nop, .int (200 : Int32), [], []),
  (7, 10, .if_icmp .eq 0, .null, [], [22]),
  (10, 11, .aload 0, .null, [], []),
  (11, 14, .getfield 0, .null, [], [1, 2, 1]),
  (14, 15, .nop, .int (2 : Int32), [], []),
  (15, 16, .iadd, .null, [], []),
  (16, 19, .nop, .int (4000 : Int32), [], []),
  (19, 22, .if_icmp .le 0, .null, [], [24]),
  (22, 23, .nop, .int (0 : Int32), [], []),
  (23, 24, .ireturn, .null, [], [1]),
  (24, 25, .aload 0, .null, [], []),
  (25, 26, .nop, .int (1 : Int32), [], []),
  (26, 29, .invokestatic 0, .null, [], [130, 2, 1]),
  (29, 30, .pop, .null, [], []),
  (30, 31, .aload 0, .null, [], []),
  (31, 32, .iload 1, .null, [], []),
  (32, 35, .invokestatic 0, .null, [], [130, 2, 1]),
  (35, 36, .pop, .null, [], []),
  (36, 37, .aload 0, .null, [], []),
  (37, 39, .nop, .int (32 : Int32), [], []),
  (39, 40, .aload 0, .null, [], []),
  (40, 43, .getfield 0, .null, [], [1, 4, 1]),
  (43, 44, .iadd, .null, [], []),
  (44, 45, .iload 1, .null, [], []),
  (45, 46, .i2l, .null, [], []),
  (46, 49, .invokestatic 0, .null, [], [100, 3, 0]),
  (49, 50, .aload 0, .null, [], []),
  (50, 51, .dup, .null, [], []),
  (51, 54, .getfield 0, .null, [], [1, 4, 1]),
  (54, 55, .nop, .int (1 : Int32), [], []),
  (55, 56, .iadd, .null, [], []),
  (56, 59, .putfield 0, .null, [], [1, 4, 1]),
  (59, 60, .nop, .int (1 : Int32), [], []),
  (60, 61, .ireturn, .null, [], [1])]
def zh_152 : List (Nat × List Nat) := []
-- 153: PrimeCertificatesModel.often:(I)I
def zo_153 : List (Nat × Nat × dzOp) := [
  (0, 1, .nop, .int (0 : Int32), [], []),
  (1, 2, .istore 2, .null, [], []),
  (2, 3, .aload 0, .null, [], []),
  (3, 5, .nop, .int (12 : Int32), [], []),
  (5, 6, .iload 1, .null, [], []),
  (6, 8, .nop, .int (15 : Int32), [], []),
  (8, 10, .nop, .int (16 : Int32), [], []),
  (10, 13, .invokestatic 0, .null, [], [112, 5, 0]),
  (13, 14, .aload 0, .null, [], []),
  (14, 16, .nop, .int (16 : Int32), [], []),
  (16, 19, .invokestatic 0, .null, [], [105, 2, 1]),
  (19, 22, .ifCond .eq 0, .null, [], [47]),
  (22, 23, .aload 0, .null, [], []),
  (23, 25, .nop, .int (15 : Int32), [], []),
  (25, 27, .nop, .int (12 : Int32), [], []),
  (27, 30, .invokestatic 0, .null, [], [102, 3, 0]),
  (30, 33, .iinc 2 0, .int (1 : Int32), [], []),
  (33, 34, .aload 0, .null, [], []),
  (34, 36, .nop, .int (12 : Int32), [], []),
  (36, 37, .iload 1, .null, [], []),
  (37, 39, .nop, .int (15 : Int32), [], []),
  (39, 41, .nop, .int (16 : Int32), [], []),
  (41, 44, .invokestatic 0, .null, [], [112, 5, 0]),
  (44, 47, .goto 0, .null, [], [13]),
  (47, 48, .iload 2, .null, [], []),
  (48, 49, .ireturn, .null, [], [0])]
def zh_153 : List (Nat × List Nat) := [(13, [0, 1, 2])]
-- 154: PrimeCertificatesModel.sort:(I)V
def zo_154 : List (Nat × Nat × dzOp) := [
  (0, 1, .iload 1, .null, [], []),
  (1, 2, .istore 2, .null, [], []),
  (2, 3, .iload 2, .null, [], []),
  (3, 4, .aload 0, .null, [], []),
  (4, 7, .getfield 0, .null, [], [1, 8, 1]),
  (7, 10, .if_icmp .ge 0, .null, [], [128]),
  (10, 11, .iload 1, .null, [], []),
  (11, 12, .istore 3, .null, [], []),
  (12, 13, .iload 3, .null, [], []),
  (13, 14, .nop, .int (1 : Int32), [], []),
  (14, 15, .iadd, .null, [], []),
  (15, 16, .aload 0, .null, [], []),
  (16, 19, .getfield 0, .null, [], [1, 8, 1]),
  (19, 22, .if_icmp .ge 0, .null, [], [122]),
  (22, 23, .aload 0, .null, [], []),
  (23, 25, .nop, .int (32 : Int32), [], []),
  (25, 26, .aload 0, .null, [], []),
  (26, 29, .getfield 0, .null, [], [1, 9, 3]),
  (29, 30, .iload 3, .null, [], []),
  (30, 31, .iaload, .null, [], []),
  (31, 32, .iadd, .null, [], []),
  (32, 34, .nop, .int (32 : Int32), [], []),
  (34, 35, .aload 0, .null, [], []),
  (35, 38, .getfield 0, .null, [], [1, 9, 3]),
  (38, 39, .iload 3, .null, [], []),
  (39, 40, .nop, .int (1 : Int32), [], []),
  (40, 41, .iadd, .null, [], []),
  (41, 42, .iaload, .null, [], []),
  (42, 43, .iadd, .null, [], []),
  (43, 46, .invokestatic 0, .null, [], [103, 3, 1]),
  (46, 49, .ifCond .ge 0, .null, [], [52]),
  (49, 52, .goto 0, .null, [], [116]),
  (52, 53, .aload 0, .null, [], []),
  (53, 56, .getfield 0, .null, [], [1, 9, 3]),
  (56, 57, .iload 3, .null, [], []),
  (57, 58, .iaload, .null, [], []),
  (58, 60, .istore 4, .null, [], []),
  (60, 61, .aload 0, .null, [], []),
  (61, 64, .getfield 0, .null, [], [1, 9, 3]),
  (64, 65, .iload 3, .null, [], []),
  (65, 66, .aload 0, .null, [], []),
  (66, 69, .getfield 0, .null, [], [1, 9, 3]),
  (69, 70, .iload 3, .null, [], []),
  (70, 71, .nop, .int (1 : Int32), [], []),
  (71, 72, .iadd, .null, [], []),
  (72, 73, .iaload, .null, [], []),
  (73, 74, .iastore, .null, [], []),
  (74, 75, .aload 0, .null, [], []),
  (75, 78, .getfield 0, .null, [], [1, 9, 3]),
  (78, 79, .iload 3, .null, [], []),
  (79, 80, .nop, .int (1 : Int32), [], []),
  (80, 81, .iadd, .null, [], []),
  (81, 83, .iload 4, .null, [], []),
  (83, 84, .iastore, .null, [], []),
  (84, 85, .aload 0, .null, [], []),
  (85, 88, .getfield 0, .null, [], [1, 10, 3]),
  (88, 89, .iload 3, .null, [], []),
  (89, 90, .iaload, .null, [], []),
  (90, 92, .istore 5, .null, [], []),
  (92, 93, .aload 0, .null, [], []),
  (93, 96, .getfield 0, .null, [], [1, 10, 3]),
  (96, 97, .iload 3, .null, [], []),
  (97, 98, .aload 0, .null, [], []),
  (98, 101, .getfield 0, .null, [], [1, 10, 3]),
  (101, 102, .iload 3, .null, [], []),
  (102, 103, .nop, .int (1 : Int32), [], []),
  (103, 104, .iadd, .null, [], []),
  (104, 105, .iaload, .null, [], []),
  (105, 106, .iastore, .null, [], []),
  (106, 107, .aload 0, .null, [], []),
  (107, 110, .getfield 0, .null, [], [1, 10, 3]),
  (110, 111, .iload 3, .null, [], []),
  (111, 112, .nop, .int (1 : Int32), [], []),
  (112, 113, .iadd, .null, [], []),
  (113, 115, .iload 5, .null, [], []),
  (115, 116, .iastore, .null, [], []),
  (116, 119, .iinc 3 0, .int (1 : Int32), [], []),
  (119, 122, .goto 0, .null, [], [12]),
  (122, 125, .iinc 2 0, .int (1 : Int32), [], []),
  (125, 128, .goto 0, .null, [], [2]),
  (128, 129, .return_, .null, [], [])]
def zh_154 : List (Nat × List Nat) := [(2, [0, 1, 2]), (12, [0, 1, 2, 3]), (116, [0, 1, 2, 3])]
-- 155: PrimeCertificatesModel.find:()Z
def zo_155 : List (Nat × Nat × dzOp) := [
  (0, 1, .aload 0, .null, [], []),
  (1, 2, .nop, .int (0 : Int32), [], []),
  (2, 5, .putfield 0, .null, [], [1, 8, 1]),
  (5, 6, .nop, .int (2 : Int32), [], []),
  (6, 7, .istore 1, .null, [], []),
  (7, 8, .iload 1, .null, [], []),
  (8, 11, .nop, .int (1009 : Int32), [], []),
  (11, 14, .if_icmp .gt 0, .null, [], [126]),
  (14, 15, .aload 0, .null, [], []),
  (15, 17, .nop, .int (8 : Int32), [], []),
  (17, 18, .iload 1, .null, [], []),
  (18, 19, .i2l, .null, [], []),
  (19, 22, .invokestatic 0, .null, [], [100, 3, 0]),
  (22, 23, .iload 1, .null, [], []),
  (23, 26, .invokestatic 0, .null, [], [138, 1, 1]),
  (26, 29, .ifCond .eq 0, .null, [], [38]),
  (29, 30, .aload 0, .null, [], []),
  (30, 32, .nop, .int (8 : Int32), [], []),
  (32, 35, .invokestatic 0, .null, [], [153, 2, 1]),
  (35, 38, .goto 0, .null, [], [39]),
  (38, 39, .nop, .int (0 : Int32), [], []),
  (39, 40, .istore 2, .null, [], []),
  (40, 41, .iload 2, .null, [], []),
  (41, 44, .ifCond .ne 0, .null, [], [47]),
  (44, 47, .goto 0, .null, [], [120]),
  (47, 48, .aload 0, .null, [], []),
  (48, 50, .nop, .int (8 : Int32), [], []),
  (50, 53, .invokestatic 0, .null, [], [151, 2, 1]),
  (53, 54, .istore 3, .null, [], []),
  (54, 55, .iload 3, .null, [], []),
  (55, 58, .ifCond .ge 0, .null, [], [66]),
  (58, 59, .aload 0, .null, [], []),
  (59, 60, .iload 1, .null, [], []),
  (60, 63, .invokestatic 0, .null, [], [152, 2, 1]),
  (63, 66, .ifCond .eq 0, .null, [], [75]),
  (66, 67, .aload 0, .null, [], []),
  (67, 70, .getfield 0, .null, [], [1, 8, 1]),
  (70, 72, .nop, .int (40 : Int32), [], []),
  (72, 75, .if_icmp .ne 0, .null, [], [77]),
  (75, 76, .nop, .int (0 : Int32), [], []),
  (76, 77, .ireturn, .null, [], [1]),
  (77, 78, .aload 0, .null, [], []),
  (78, 81, .getfield 0, .null, [], [1, 9, 3]),
  (81, 82, .aload 0, .null, [], []),
  (82, 85, .getfield 0, .null, [], [1, 8, 1]),
  (85, 86, .iload 3, .null, [], []),
  (86, 89, .ifCond .ge 0, .null, [], [98]),
  (89, 90, .aload 0, .null, [], []),
  (90, 93, .getfield 0, .null, [], [1, 4, 1]),
  (93, 94, .nop, .int (1 : Int32), [], []),
  (94, 95, .isub, .null, [], []),
  (95, 98, .goto 0, .null, [], [99]),
  (98, 99, .iload 3, .null, [], []),
  (99, 100, .iastore, .null, [], []),
  (100, 101, .aload 0, .null, [], []),
  (101, 104, .getfield 0, .null, [], [1, 10, 3]),
  (104, 105, .aload 0, .null, [], []),
  (105, 108, .getfield 0, .null, [], [1, 8, 1]),
  (108, 109, .iload 2, .null, [], []),
  (109, 110, .iastore, .null, [], []),
  (110, 111, .aload 0, .null, [], []),
  (111, 112, .dup, .null, [], []),
  (112, 115, .getfield 0, .null, [], [1, 8, 1]),
  (115, 116, .nop, .int (1 : Int32), [], []),
  (116, 117, .iadd, .null, [], []),
  (117, 120, .putfield 0, .null, [], [1, 8, 1]),
  (120, 123, .iinc 1 0, .int (1 : Int32), [], []),
  (123, 126, .goto 0, .null, [], [7]),
  (126, 127, .aload 0, .null, [], []),
  (127, 130, .getfield 0, .null, [], [1, 8, 1]),
  (130, 131, .istore 1, .null, [], []),
  (131, 132, .aload 0, .null, [], []),
  (132, 134, .nop, .int (9 : Int32), [], []),
  (134, 137, .nop, .long (1009 : Int64), [], []),
  (137, 140, .invokestatic 0, .null, [], [100, 3, 0]),
  (140, 141, .nop, .int (0 : Int32), [], []),
  (141, 142, .istore 2, .null, [], []),
  (142, 143, .iload 2, .null, [], []),
  (143, 144, .aload 0, .null, [], []),
  (144, 147, .getfield 0, .null, [], [1, 4, 1]),
  (147, 150, .if_icmp .ge 0, .null, [], [230]),
  (150, 151, .aload 0, .null, [], []),
  (151, 153, .nop, .int (32 : Int32), [], []),
  (153, 154, .iload 2, .null, [], []),
  (154, 155, .iadd, .null, [], []),
  (155, 157, .nop, .int (9 : Int32), [], []),
  (157, 160, .invokestatic 0, .null, [], [103, 3, 1]),
  (160, 163, .ifCond .le 0, .null, [], [174]),
  (163, 164, .aload 0, .null, [], []),
  (164, 166, .nop, .int (32 : Int32), [], []),
  (166, 167, .iload 2, .null, [], []),
  (167, 168, .iadd, .null, [], []),
  (168, 171, .invokestatic 0, .null, [], [153, 2, 1]),
  (171, 174, .goto 0, .null, [], [175]),
  (174, 175, .nop, .int (0 : Int32), [], []),
  (175, 176, .istore 3, .null, [], []),
  (176, 177, .iload 3, .null, [], []),
  (177, 180, .ifCond .ne 0, .null, [], [183]),
  (180, 183, .goto 0, .null, [], [224]),
  (183, 184, .aload 0, .null, [], []),
  (184, 187, .getfield 0, .null, [], [1, 8, 1]),
  (187, 189, .nop, .int (40 : Int32), [], []),
  (189, 192, .if_icmp .ne 0, .null, [], [194]),
  (192, 193, .nop, .int (0 : Int32), [], []),
  (193, 194, .ireturn, .null, [], [1]),
  (194, 195, .aload 0, .null, [], []),
  (195, 198, .getfield 0, .null, [], [1, 9, 3]),
  (198, 199, .aload 0, .null, [], []),
  (199, 202, .getfield 0, .null, [], [1, 8, 1]),
  (202, 203, .iload 2, .null, [], []),
  (203, 204, .iastore, .null, [], []),
  (204, 205, .aload 0, .null, [], []),
  (205, 208, .getfield 0, .null, [], [1, 10, 3]),
  (208, 209, .aload 0, .null, [], []),
  (209, 212, .getfield 0, .null, [], [1, 8, 1]),
  (212, 213, .iload 3, .null, [], []),
  (213, 214, .iastore, .null, [], []),
  (214, 215, .aload 0, .null, [], []),
  (215, 216, .dup, .null, [], []),
  (216, 219, .getfield 0, .null, [], [1, 8, 1]),
  (219, 220, .nop, .int (1 : Int32), [], []),
  (220, 221, .iadd, .null, [], []),
  (221, 224, .putfield 0, .null, [], [1, 8, 1]),
  (224, 227, .iinc 2 0, .int (1 : Int32), [], []),
  (227, 230, .goto 0, .null, [], [142]),
  (230, 231, .aload 0, .null, [], []),
  (231, 232, .iload 1, .null, [], []),
  (232, 235, .invokestatic 0, .null, [], [154, 2, 0]),
  (235, 236, .nop, .int (1 : Int32), [], []),
  (236, 237, .ireturn, .null, [], [1])]
def zh_155 : List (Nat × List Nat) := [(7, [0, 1]), (39, [0, 1]), (66, [0, 1, 2, 3]), (99, [0, 1, 2, 3]), (120, [0, 1, 2]), (142, [0, 1, 2]), (175, [0, 1, 2]), (224, [0, 1, 2, 3])]
-- 156: PrimeCertificatesModel.wholeWitness:()I
def zo_156 : List (Nat × Nat × dzOp) := [
  (0, 1, .nop, .int (2 : Int32), [], []),
  (1, 2, .istore 1, .null, [], []),
  (2, 3, .iload 1, .null, [], []),
  (3, 6, .nop, .int (200 : Int32), [], []),
  (6, 9, .if_icmp .gt 0, .null, [], [66]),
  (9, 10, .aload 0, .null, [], []),
  (10, 12, .nop, .int (14 : Int32), [], []),
  (12, 13, .iload 1, .null, [], []),
  (13, 14, .i2l, .null, [], []),
  (14, 17, .invokestatic 0, .null, [], [100, 3, 0]),
  (17, 18, .aload 0, .null, [], []),
  (18, 21, .invokestatic 0, .null, [], [144, 1, 1]),
  (21, 22, .istore 2, .null, [], []),
  (22, 23, .nop, .int (0 : Int32), [], []),
  (23, 24, .istore 3, .null, [], []),
  (24, 25, .iload 3, .null, [], []),
  (25, 26, .aload 0, .null, [], []),
  (26, 29, .getfield 0, .null, [], [1, 8, 1]),
  (29, 32, .if_icmp .ge 0, .null, [], [54]),
  (32, 33, .iload 2, .null, [], []),
  (33, 36, .ifCond .eq 0, .null, [], [54]),
  (36, 37, .aload 0, .null, [], []),
  (37, 38, .aload 0, .null, [], []),
  (38, 41, .getfield 0, .null, [], [1, 9, 3]),
  (41, 42, .iload 3, .null, [], []),
  (42, 43, .iaload, .null, [], []),
  (43, 44, .nop, .int (0 : Int32), [], []),
  (44, 47, .invokestatic 0, .null, [], [145, 3, 1]),
  (47, 48, .istore 2, .null, [], []),
  (48, 51, .iinc 3 0, .int (1 : Int32), [], []),
  (51, 54, .goto 0, .null, [], [24]),
  (54, 55, .iload 2, .null, [], []),
  (55, 58, .ifCond .eq 0, .null, [], [60]),
  (58, 59, .iload 1, .null, [], []),
  (59, 60, .ireturn, .null, [], [0]),
  (60, 63, .iinc 1 0, .int (1 : Int32), [], []),
  (63, 66, .goto 0, .null, [], [2]),
  (66, 67, .nop, .int (0 : Int32), [], []),
  (67, 68, .ireturn, .null, [], [0])]
def zh_156 : List (Nat × List Nat) := [(2, [0, 1]), (24, [0, 1, 2, 3]), (54, [0, 1, 2, 3])]
-- 157: PrimeCertificatesModel.partWitnesses:()Z
def zo_157 : List (Nat × Nat × dzOp) := [
  (0, 1, .nop, .int (0 : Int32), [], []),
  (1, 2, .istore 1, .null, [], []),
  (2, 3, .iload 1, .null, [], []),
  (3, 4, .aload 0, .null, [], []),
  (4, 7, .getfield 0, .null, [], [1, 8, 1]),
  (7, 10, .if_icmp .ge 0, .null, [], [85]),
  (10, 11, .nop, .int (1 : Int32), [], []),
  (11, 12, .istore 2, .null, [], []),
  (12, 13, .nop, .int (0 : Int32), [], []),
  (13, 14, .istore 3, .null, [], []),
  (14, 15, .iload 3, .null, [], []),
  (15, 18, .ifCond .ne 0, .null, [], [66]),
  (18, 19, .iload 2, .null, [], []),
  (19, 22, .nop, .int (200 : Int32), [], []),
  (22, 25, .if_icmp .ge 0, .null, [], [66]),
  (25, 28, .iinc 2 0, .int (1 : Int32), [], []),
  (28, 29, .aload 0, .null, [], []),
  (29, 31, .nop, .int (14 : Int32), [], []),
  (31, 32, .iload 2, .null, [], []),
  (32, 33, .i2l, .null, [], []),
  (33, 36, .invokestatic 0, .null, [], [100, 3, 0]),
  (36, 37, .aload 0, .null, [], []),
  (37, 40, .invokestatic 0, .null, [], [144, 1, 1]),
  (40, 43, .ifCond .eq 0, .null, [], [61]),
  (43, 44, .aload 0, .null, [], []),
  (44, 45, .aload 0, .null, [], []),
  (45, 48, .getfield 0, .null, [], [1, 9, 3]),
  (48, 49, .iload 1, .null, [], []),
  (49, 50, .iaload, .null, [], []),
  (50, 51, .nop, .int (1 : Int32), [], []),
  (51, 54, .invokestatic 0, .null, [], [145, 3, 1]),
  (54, 57, .ifCond .eq 0, .null, [], [61]),
  (57, 58, .nop, .int (1 : Int32), [], []),
  (58, 61, .goto 0, .null, [], [62]),
  (61, 62, .nop, .int (0 : Int32), [], []),
  (62, 63, .istore 3, .null, [], []),
  (63, 66, .goto 0, .null, [], [14]),
  (66, 67, .iload 3, .null, [], []),
  (67, 70, .ifCond .ne 0, .null, [], [72]),
  (70, 71, .nop, .int (0 : Int32), [], []),
  (71, 72, .ireturn, .null, [], [1]),
  (72, 73, .aload 0, .null, [], []),
  (73, 76, .getfield 0, .null, [], [1, 11, 3]),
  (76, 77, .iload 1, .null, [], []),
  (77, 78, .iload 2, .null, [], []),
  (78, 79, .iastore, .null, [], []),
  (79, 82, .iinc 1 0, .int (1 : Int32), [], []),
  (82, 85, .goto 0, .null, [], [2]),
  (85, 86, .nop, .int (1 : Int32), [], []),
  (86, 87, .ireturn, .null, [], [1])]
def zh_157 : List (Nat × List Nat) := [(2, [0, 1]), (14, [0, 1, 2, 3]), (61, [0, 1, 2, 3]), (62, [0, 1, 2, 3]), (66, [0, 1, 2, 3])]
-- 158: PrimeCertificatesModel.sayLine:(II)Z
def zo_158 : List (Nat × Nat × dzOp) := [
  (0, 1, .aload 0, .null, [], []),
  (1, 3, .nop, .int (10 : Int32), [], []),
  (3, 6, .invokestatic 0, .null, [], [104, 2, 1]),
  (6, 7, .nop, .int (1 : Int32), [], []),
  (7, 8, .iadd, .null, [], []),
  (8, 9, .nop, .int (2 : Int32), [], []),
  (9, 10, .idiv, .null, [], []),
  (10, 11, .istore 3, .null, [], []),
  (11, 12, .nop, .int (3 : Int32), [], []),
  (12, 13, .iload 3, .null, [], []),
  (13, 14, .iadd, .null, [], []),
  (14, 15, .iload 1, .null, [], []),
  (15, 16, .nop, .int (2 : Int32), [], []),
  (16, 19, .if_icmp .ne 0, .null, [], [30]),
  (19, 20, .nop, .int (1 : Int32), [], []),
  (20, 21, .nop, .int (2 : Int32), [], []),
  (21, 22, .aload 0, .null, [], []),
  (22, 25, .getfield 0, .null, [], [1, 8, 1]),
  (25, 26, .imul, .null, [], []),
  (26, 27, .iadd, .null, [], []),
  (27, 30, .goto 0, .null, [], [36]),
  (30, 31, .nop, .int (3 : Int32), [], []),
  (31, 32, .aload 0, .null, [], []),
  (32, 35, .getfield 0, .null, [], [1, 8, 1]),
  (35, 36, .imul, .null, [], []),
  (36, 37, .iadd, .null, [], []),
  (37, 39, .istore 4, .null, [], []),
  (39, 40, .aload 0, .null, [], []),
  (40, 43, .getfield 0, .null, [], [1, 4, 1]),
  (43, 46, .nop, .int (200 : Int32), [], []),
  (46, 49, .if_icmp .eq 0, .null, [], [62]),
  (49, 50, .aload 0, .null, [], []),
  (50, 53, .getfield 0, .null, [], [1, 2, 1]),
  (53, 55, .iload 4, .null, [], []),
  (55, 56, .iadd, .null, [], []),
  (56, 59, .nop, .int (4000 : Int32), [], []),
  (59, 62, .if_icmp .le 0, .null, [], [64]),
  (62, 63, .nop, .int (0 : Int32), [], []),
  (63, 64, .ireturn, .null, [], [1]),
  (64, 65, .aload 0, .null, [], []),
  (65, 66, .iload 1, .null, [], []),
  (66, 69, .invokestatic 0, .null, [], [130, 2, 1]),
  (69, 70, .pop, .null, [], []),
  (70, 71, .aload 0, .null, [], []),
  (71, 72, .iload 3, .null, [], []),
  (72, 75, .invokestatic 0, .null, [], [130, 2, 1]),
  (75, 76, .pop, .null, [], []),
  (76, 77, .nop, .int (0 : Int32), [], []),
  (77, 79, .istore 5, .null, [], []),
  (79, 81, .iload 5, .null, [], []),
  (81, 82, .iload 3, .null, [], []),
  (82, 85, .if_icmp .ge 0, .null, [], [128]),
  (85, 86, .aload 0, .null, [], []),
  (86, 87, .aload 0, .null, [], []),
  (87, 90, .getfield 0, .null, [], [1, 0, 3]),
  (90, 93, .nop, .int (400 : Int32), [], []),
  (93, 94, .nop, .int (2 : Int32), [], []),
  (94, 96, .iload 5, .null, [], []),
  (96, 97, .imul, .null, [], []),
  (97, 98, .iadd, .null, [], []),
  (98, 99, .nop, .int (1 : Int32), [], []),
  (99, 100, .iadd, .null, [], []),
  (100, 101, .iaload, .null, [], []),
  (101, 103, .nop, .int (16 : Int32), [], []),
  (103, 104, .ishl, .null, [], []),
  (104, 105, .aload 0, .null, [], []),
  (105, 108, .getfield 0, .null, [], [1, 0, 3]),
  (108, 111, .nop, .int (400 : Int32), [], []),
  (111, 112, .nop, .int (2 : Int32), [], []),
  (112, 114, .iload 5, .null, [], []),
  (114, 115, .imul, .null, [], []),
  (115, 116, .iadd, .null, [], []),
  (116, 117, .iaload, .null, [], []),
  (117, 118, .ior, .null, [], []),
  (118, 121, .invokestatic 0, .null, [], [130, 2, 1]),
  (121, 122, .pop, .null, [], []),
  (122, 125, .iinc 5 0, .int (1 : Int32), [], []),
  (125, 128, .goto 0, .null, [], [79]),
  (128, 129, .iload 1, .null, [], []),
  (129, 130, .nop, .int (2 : Int32), [], []),
  (130, 133, .if_icmp .ne 0, .null, [], [139]),
  (133, 134, .aload 0, .null, [], []),
  (134, 135, .iload 2, .null, [], []),
  (135, 138, .invokestatic 0, .null, [], [130, 2, 1]),
  (138, 139, .pop, .null, [], []),
  (139, 140, .aload 0, .null, [], []),
  (140, 141, .aload 0, .null, [], []),
  (141, 144, .getfield 0, .null, [], [1, 8, 1]),
  (144, 147, .invokestatic 0, .null, [], [130, 2, 1]),
  (147, 148, .pop, .null, [], []),
  (148, 149, .nop, .int (0 : Int32), [], []),
  (149, 151, .istore 5, .null, [], []),
  (151, 153, .iload 5, .null, [], []),
  (153, 154, .aload 0, .null, [], []),
  (154, 157, .getfield 0, .null, [], [1, 8, 1]),
  (157, 160, .if_icmp .ge 0, .null, [], [207]),
  (160, 161, .aload 0, .null, [], []),
  (161, 162, .aload 0, .null, [], []),
  (162, 165, .getfield 0, .null, [], [1, 9, 3]),
  (165, 167, .iload 5, .null, [], []),
  (167, 168, .iaload, .null, [], []),
  (168, 171, .invokestatic 0, .null, [], [130, 2, 1]),
  (171, 172, .pop, .null, [], []),
  (172, 173, .aload 0, .null, [], []),
  (173, 174, .aload 0, .null, [], []),
  (174, 177, .getfield 0, .null, [], [1, 10, 3]),
  (177, 179, .iload 5, .null, [], []),
  (179, 180, .iaload, .null, [], []),
  (180, 183, .invokestatic 0, .null, [], [130, 2, 1]),
  (183, 184, .pop, .null, [], []),
  (184, 185, .iload 1, .null, [], []),
  (185, 186, .nop, .int (3 : Int32), [], []),
  (186, 189, .if_icmp .ne 0, .null, [], [201]),
  (189, 190, .aload 0, .null, [], []),
  (190, 191, .aload 0, .null, [], []),
  (191, 194, .getfield 0, .null, [], [1, 11, 3]),
  (194, 196, .iload 5, .null, [], []),
  (196, 197, .iaload, .null, [], []),
  (197, 200, .invokestatic 0, .null, [], [130, 2, 1]),
  (200, 201, .pop, .null, [], []),
  (201, 204, .iinc 5 0, .int (1 : Int32), [], []),
  (204, 207, .goto 0, .null, [], [151]),
  (207, 208, .aload 0, .null, [], []),
  (208, 210, .nop, .int (10 : Int32), [], []),
  (210, 212, .nop, .int (32 : Int32), [], []),
  (212, 213, .aload 0, .null, [], []),
  (213, 216, .getfield 0, .null, [], [1, 4, 1]),
  (216, 217, .iadd, .null, [], []),
  (217, 220, .invokestatic 0, .null, [], [102, 3, 0]),
  (220, 221, .aload 0, .null, [], []),
  (221, 222, .dup, .null, [], []),
  (222, 225, .getfield 0, .null, [], [1, 4, 1]),
  (225, 226, .nop, .int (1 : Int32), [], []),
  (226, 227, .iadd, .null, [], []),
  (227, 230, .putfield 0, .null, [], [1, 4, 1]),
  (230, 231, .nop, .int (1 : Int32), [], []),
  (231, 232, .ireturn, .null, [], [1])]
def zh_158 : List (Nat × List Nat) := [(36, [0, 1, 2, 3]), (79, [0, 1, 2, 3, 4, 5]), (139, [0, 1, 2, 3, 4, 5]), (151, [0, 1, 2, 3, 4, 5]), (201, [0, 1, 2, 3, 4, 5])]
-- 159: PrimeCertificatesModel.make:()Z
def zo_159 : List (Nat × Nat × dzOp) := [
  (0, 1, .aload 0, .null, [], []),
  (1, 3, .nop, .int (8 : Int32), [], []),
  (3, 6, .nop, .long (65535 : Int64), [], []),
  (6, 9, .invokestatic 0, .null, [], [100, 3, 0]),
  (9, 10, .aload 0, .null, [], []),
  (10, 12, .nop, .int (10 : Int32), [], []),
  (12, 14, .nop, .int (8 : Int32), [], []),
  (14, 17, .invokestatic 0, .null, [], [103, 3, 1]),
  (17, 20, .ifCond .gt 0, .null, [], [50]),
  (20, 21, .aload 0, .null, [], []),
  (21, 24, .getfield 0, .null, [], [1, 0, 3]),
  (24, 27, .nop, .int (400 : Int32), [], []),
  (27, 28, .iaload, .null, [], []),
  (28, 29, .istore 1, .null, [], []),
  (29, 30, .iload 1, .null, [], []),
  (30, 33, .invokestatic 0, .null, [], [138, 1, 1]),
  (33, 36, .ifCond .eq 0, .null, [], [48]),
  (36, 37, .aload 0, .null, [], []),
  (37, 38, .iload 1, .null, [], []),
  (38, 41, .invokestatic 0, .null, [], [152, 2, 1]),
  (41, 44, .ifCond .eq 0, .null, [], [48]),
  (44, 45, .nop, .int (1 : Int32), [], []),
  (45, 48, .goto 0, .null, [], [49]),
  (48, 49, .nop, .int (0 : Int32), [], []),
  (49, 50, .ireturn, .null, [], [1]),
  (50, 51, .aload 0, .null, [], []),
  (51, 53, .nop, .int (10 : Int32), [], []),
  (53, 55, .nop, .int (11 : Int32), [], []),
  (55, 58, .invokestatic 0, .null, [], [102, 3, 0]),
  (58, 59, .aload 0, .null, [], []),
  (59, 61, .nop, .int (11 : Int32), [], []),
  (61, 63, .nop, .int (21 : Int32), [], []),
  (63, 66, .invokestatic 0, .null, [], [107, 3, 0]),
  (66, 67, .aload 0, .null, [], []),
  (67, 69, .nop, .int (11 : Int32), [], []),
  (69, 71, .nop, .int (12 : Int32), [], []),
  (71, 74, .invokestatic 0, .null, [], [102, 3, 0]),
  (74, 75, .aload 0, .null, [], []),
  (75, 78, .invokestatic 0, .null, [], [155, 1, 1]),
  (78, 81, .ifCond .ne 0, .null, [], [83]),
  (81, 82, .nop, .int (0 : Int32), [], []),
  (82, 83, .ireturn, .null, [], [1]),
  (83, 84, .aload 0, .null, [], []),
  (84, 86, .nop, .int (12 : Int32), [], []),
  (86, 89, .invokestatic 0, .null, [], [117, 2, 1]),
  (89, 92, .ifCond .eq 0, .null, [], [116]),
  (92, 93, .aload 0, .null, [], []),
  (93, 96, .invokestatic 0, .null, [], [156, 1, 1]),
  (96, 97, .istore 1, .null, [], []),
  (97, 98, .iload 1, .null, [], []),
  (98, 101, .ifCond .le 0, .null, [], [114]),
  (101, 102, .aload 0, .null, [], []),
  (102, 103, .nop, .int (2 : Int32), [], []),
  (103, 104, .iload 1, .null, [], []),
  (104, 107, .invokestatic 0, .null, [], [158, 3, 1]),
  (107, 110, .ifCond .eq 0, .null, [], [114]),
  (110, 111, .nop, .int (1 : Int32), [], []),
  (111, 114, .goto 0, .null, [], [115]),
  (114, 115, .nop, .int (0 : Int32), [], []),
  (115, 116, .ireturn, .null, [], [1]),
  (116, 117, .aload 0, .null, [], []),
  (117, 119, .nop, .int (11 : Int32), [], []),
  (119, 121, .nop, .int (12 : Int32), [], []),
  (121, 123, .nop, .int (13 : Int32), [], []),
  (123, 125, .nop, .int (16 : Int32), [], []),
  (125, 128, .invokestatic 0, .null, [], [112, 5, 0]),
  (128, 129, .aload 0, .null, [], []),
  (129, 131, .nop, .int (13 : Int32), [], []),
  (131, 133, .nop, .int (13 : Int32), [], []),
  (133, 135, .nop, .int (8 : Int32), [], []),
  (135, 138, .invokestatic 0, .null, [], [108, 4, 0]),
  (138, 139, .aload 0, .null, [], []),
  (139, 141, .nop, .int (8 : Int32), [], []),
  (141, 143, .nop, .int (10 : Int32), [], []),
  (143, 146, .invokestatic 0, .null, [], [103, 3, 1]),
  (146, 149, .ifCond .le 0, .null, [], [169]),
  (149, 150, .aload 0, .null, [], []),
  (150, 153, .invokestatic 0, .null, [], [157, 1, 1]),
  (153, 156, .ifCond .eq 0, .null, [], [169]),
  (156, 157, .aload 0, .null, [], []),
  (157, 158, .nop, .int (3 : Int32), [], []),
  (158, 159, .nop, .int (0 : Int32), [], []),
  (159, 162, .invokestatic 0, .null, [], [158, 3, 1]),
  (162, 165, .ifCond .eq 0, .null, [], [169]),
  (165, 166, .nop, .int (1 : Int32), [], []),
  (166, 169, .goto 0, .null, [], [170]),
  (169, 170, .nop, .int (0 : Int32), [], []),
  (170, 171, .ireturn, .null, [], [1])]
def zh_159 : List (Nat × List Nat) := []
-- 160: PrimeCertificatesModel.prove:(I)I
def zo_160 : List (Nat × Nat × dzOp) := [
  (0, 1, .iload 1, .null, [], []),
  (1, 4, .invokestatic 0, .null, [], [118, 1, 1]),
  (4, 7, .ifCond .ne 0, .null, [], [9]),
  (7, 8, .nop, .int (-1 : Int32), [], []),
  (8, 9, .ireturn, .null, [], [0]),
  (9, 10, .aload 0, .null, [], []),
  (10, 13, .invokestatic 0, .null, [], [148, 1, 1]),
  (13, 14, .istore 2, .null, [], []),
  (14, 15, .iload 2, .null, [], []),
  (15, 18, .ifCond .ge 0, .null, [], [20]),
  (18, 19, .iload 2, .null, [], []),
  (19, 20, .ireturn, .null, [], [0]),
  (20, 21, .aload 0, .null, [], []),
  (21, 22, .iload 1, .null, [], []),
  (22, 24, .nop, .int (10 : Int32), [], []),
  (24, 27, .invokestatic 0, .null, [], [102, 3, 0]),
  (27, 28, .aload 0, .null, [], []),
  (28, 30, .nop, .int (10 : Int32), [], []),
  (30, 33, .invokestatic 0, .null, [], [151, 2, 1]),
  (33, 34, .istore 3, .null, [], []),
  (34, 35, .iload 3, .null, [], []),
  (35, 38, .ifCond .lt 0, .null, [], [40]),
  (38, 39, .iload 3, .null, [], []),
  (39, 40, .ireturn, .null, [], [0]),
  (40, 41, .aload 0, .null, [], []),
  (41, 44, .getfield 0, .null, [], [1, 2, 1]),
  (44, 46, .istore 4, .null, [], []),
  (46, 47, .aload 0, .null, [], []),
  (47, 50, .invokestatic 0, .null, [], [159, 1, 1]),
  (50, 52, .istore 5, .null, [], []),
  (52, 54, .iload 5, .null, [], []),
  (54, 57, .ifCond .ne 0, .null, [], [68]),
  (57, 58, .aload 0, .null, [], []),
  (58, 60, .iload 4, .null, [], []),
  (60, 63, .putfield 0, .null, [], [1, 2, 1]),
  (63, 64, .aload 0, .null, [], []),
  (64, 65, .iload 2, .null, [], []),
  (65, 68, .putfield 0, .null, [], [1, 4, 1]),
  (68, 69, .aload 0, .null, [], []),
  (69, 70, .aload 0, .null, [], []),
  (70, 73, .getfield 0, .null, [], [1, 4, 1]),
  (73, 76, .putfield 0, .null, [], [1, 5, 1]),
  (76, 78, .iload 5, .null, [], []),
  (78, 81, .ifCond .eq 0, .null, [], [90]),
  (81, 82, .aload 0, .null, [], []),
  (82, 85, .getfield 0, .null, [], [1, 4, 1]),
  (85, 86, .nop, .int (1 : Int32), [], []),
  (86, 87, .isub, .null, [], []),
  (87, 90, .goto 0, .null, [], [92]),
  (90, 92, .nop, .int (-2 : Int32), [], []),
  (92, 93, .ireturn, .null, [], [0])]
def zh_160 : List (Nat × List Nat) := [(68, [0, 1, 2, 3, 4, 5])]
-- 161: PrimeCertificatesLaw.law:([I)Z
def zo_161 : List (Nat × Nat × dzOp) := [
  (0, 3, .new 0, .null, [], [0, 8]),
  (3, 4, .dup, .null, [], []),
  (4, 7, .invokestatic 0, .null, [], [7, 1, 0]),
  (7, 8, .astore 1, .null, [], []),
  (8, 11, .new 0, .null, [], [1, 12]),
  (11, 12, .dup, .null, [], []),
  (12, 15, .invokestatic 0, .null, [], [101, 1, 0]),
  (15, 16, .astore 2, .null, [], []),
  (16, 17, .nop, .int (0 : Int32), [], []),
  (17, 18, .istore 3, .null, [], []),
  (18, 19, .iload 3, .null, [], []),
  (19, 20, .aload 0, .null, [], []),
  (20, 21, .arraylength, .null, [], []),
  (21, 22, .nop, .int (5 : Int32), [], []),
  (22, 23, .isub, .null, [], []),
  (23, 26, .if_icmp .gt 0, .null, [], [673]),
  (26, 27, .aload 0, .null, [], []),
  (27, 28, .iload 3, .null, [], []),
  (28, 29, .iaload, .null, [], []),
  (29, 31, .nop, .int (31 : Int32), [], []),
  (31, 32, .iand, .null, [], []),
  (32, 116, .lookupswitch 0 #[], .null, [(0, 116), (1, 159), (2, 192), (3, 235), (4, 278), (5, 321), (6, 374), (7, 427), (8, 470), (9, 503), (10, 526), (11, 549), (12, 562), (13, 585), (14, 598), (15, 611), (16, 644)], [667]),
  (116, 117, .aload 1, .null, [], []),
  (117, 118, .aload 0, .null, [], []),
  (118, 119, .iload 3, .null, [], []),
  (119, 120, .nop, .int (1 : Int32), [], []),
  (120, 121, .iadd, .null, [], []),
  (121, 122, .iaload, .null, [], []),
  (122, 123, .aload 0, .null, [], []),
  (123, 124, .iload 3, .null, [], []),
  (124, 125, .nop, .int (2 : Int32), [], []),
  (125, 126, .iadd, .null, [], []),
  (126, 127, .iaload, .null, [], []),
  (127, 128, .aload 0, .null, [], []),
  (128, 129, .iload 3, .null, [], []),
  (129, 130, .nop, .int (3 : Int32), [], []),
  (130, 131, .iadd, .null, [], []),
  (131, 132, .iaload, .null, [], []),
  (132, 135, .invokestatic 0, .null, [], [10, 4, 1]),
  (135, 136, .aload 2, .null, [], []),
  (136, 137, .aload 0, .null, [], []),
  (137, 138, .iload 3, .null, [], []),
  (138, 139, .nop, .int (1 : Int32), [], []),
  (139, 140, .iadd, .null, [], []),
  (140, 141, .iaload, .null, [], []),
  (141, 142, .aload 0, .null, [], []),
  (142, 143, .iload 3, .null, [], []),
  (143, 144, .nop, .int (2 : Int32), [], []),
  (144, 145, .iadd, .null, [], []),
  (145, 146, .iaload, .null, [], []),
  (146, 147, .aload 0, .null, [], []),
  (147, 148, .iload 3, .null, [], []),
  (148, 149, .nop, .int (3 : Int32), [], []),
  (149, 150, .iadd, .null, [], []),
  (150, 151, .iaload, .null, [], []),
  (151, 154, .invokestatic 0, .null, [], [119, 4, 1]),
  (154, 157, .if_icmp .eq 0, .null, [], [667]),
  (157, 158, .nop, .int (0 : Int32), [], []),
  (158, 159, .ireturn, .null, [], [1]),
  (159, 160, .aload 1, .null, [], []),
  (160, 161, .aload 0, .null, [], []),
  (161, 162, .iload 3, .null, [], []),
  (162, 163, .nop, .int (1 : Int32), [], []),
  (163, 164, .iadd, .null, [], []),
  (164, 165, .iaload, .null, [], []),
  (165, 166, .aload 0, .null, [], []),
  (166, 167, .iload 3, .null, [], []),
  (167, 168, .nop, .int (2 : Int32), [], []),
  (168, 169, .iadd, .null, [], []),
  (169, 170, .iaload, .null, [], []),
  (170, 173, .invokestatic 0, .null, [], [11, 3, 1]),
  (173, 174, .aload 2, .null, [], []),
  (174, 175, .aload 0, .null, [], []),
  (175, 176, .iload 3, .null, [], []),
  (176, 177, .nop, .int (1 : Int32), [], []),
  (177, 178, .iadd, .null, [], []),
  (178, 179, .iaload, .null, [], []),
  (179, 180, .aload 0, .null, [], []),
  (180, 181, .iload 3, .null, [], []),
  (181, 182, .nop, .int (2 : Int32), [], []),
  (182, 183, .iadd, .null, [], []),
  (183, 184, .iaload, .null, [], []),
  (184, 187, .invokestatic 0, .null, [], [120, 3, 1]),
  (187, 190, .if_icmp .eq 0, .null, [], [667]),
  (190, 191, .nop, .int (0 : Int32), [], []),
  (191, 192, .ireturn, .null, [], [1]),
  (192, 193, .aload 1, .null, [], []),
  (193, 194, .aload 0, .null, [], []),
  (194, 195, .iload 3, .null, [], []),
  (195, 196, .nop, .int (1 : Int32), [], []),
  (196, 197, .iadd, .null, [], []),
  (197, 198, .iaload, .null, [], []),
  (198, 199, .aload 0, .null, [], []),
  (199, 200, .iload 3, .null, [], []),
  (200, 201, .nop, .int (2 : Int32), [], []),
  (201, 202, .iadd, .null, [], []),
  (202, 203, .iaload, .null, [], []),
  (203, 204, .aload 0, .null, [], []),
  (204, 205, .iload 3, .null, [], []),
  (205, 206, .nop, .int (3 : Int32), [], []),
  (206, 207, .iadd, .null, [], []),
  (207, 208, .iaload, .null, [], []),
  (208, 211, .invokestatic 0, .null, [], [16, 4, 1]),
  (211, 212, .aload 2, .null, [], []),
  (212, 213, .aload 0, .null, [], []),
  (213, 214, .iload 3, .null, [], []),
  (214, 215, .nop, .int (1 : Int32), [], []),
  (215, 216, .iadd, .null, [], []),
  (216, 217, .iaload, .null, [], []),
  (217, 218, .aload 0, .null, [], []),
  (218, 219, .iload 3, .null, [], []),
  (219, 220, .nop, .int (2 : Int32), [], []),
  (220, 221, .iadd, .null, [], []),
  (221, 222, .iaload, .null, [], []),
  (222, 223, .aload 0, .null, [], []),
  (223, 224, .iload 3, .null, [], []),
  (224, 225, .nop, .int (3 : Int32), [], []),
  (225, 226, .iadd, .null, [], []),
  (226, 227, .iaload, .null, [], []),
  (227, 230, .invokestatic 0, .null, [], [123, 4, 1]),
  (230, 233, .if_icmp .eq 0, .null, [], [667]),
  (233, 234, .nop, .int (0 : Int32), [], []),
  (234, 235, .ireturn, .null, [], [1]),
  (235, 236, .aload 1, .null, [], []),
  (236, 237, .aload 0, .null, [], []),
  (237, 238, .iload 3, .null, [], []),
  (238, 239, .nop, .int (1 : Int32), [], []),
  (239, 240, .iadd, .null, [], []),
  (240, 241, .iaload, .null, [], []),
  (241, 242, .aload 0, .null, [], []),
  (242, 243, .iload 3, .null, [], []),
  (243, 244, .nop, .int (2 : Int32), [], []),
  (244, 245, .iadd, .null, [], []),
  (245, 246, .iaload, .null, [], []),
  (246, 247, .aload 0, .null, [], []),
  (247, 248, .iload 3, .null, [], []),
  (248, 249, .nop, .int (3 : Int32), [], []),
  (249, 250, .iadd, .null, [], []),
  (250, 251, .iaload, .null, [], []),
  (251, 254, .invokestatic 0, .null, [], [18, 4, 1]),
  (254, 255, .aload 2, .null, [], []),
  (255, 256, .aload 0, .null, [], []),
  (256, 257, .iload 3, .null, [], []),
  (257, 258, .nop, .int (1 : Int32), [], []),
  (258, 259, .iadd, .null, [], []),
  (259, 260, .iaload, .null, [], []),
  (260, 261, .aload 0, .null, [], []),
  (261, 262, .iload 3, .null, [], []),
  (262, 263, .nop, .int (2 : Int32), [], []),
  (263, 264, .iadd, .null, [], []),
  (264, 265, .iaload, .null, [], []),
  (265, 266, .aload 0, .null, [], []),
  (266, 267, .iload 3, .null, [], []),
  (267, 268, .nop, .int (3 : Int32), [], []),
  (268, 269, .iadd, .null, [], []),
  (269, 270, .iaload, .null, [], []),
  (270, 273, .invokestatic 0, .null, [], [124, 4, 1]),
  (273, 276, .if_icmp .eq 0, .null, [], [667]),
  (276, 277, .nop, .int (0 : Int32), [], []),
  (277, 278, .ireturn, .null, [], [1]),
  (278, 279, .aload 1, .null, [], []),
  (279, 280, .aload 0, .null, [], []),
  (280, 281, .iload 3, .null, [], []),
  (281, 282, .nop, .int (1 : Int32), [], []),
  (282, 283, .iadd, .null, [], []),
  (283, 284, .iaload, .null, [], []),
  (284, 285, .aload 0, .null, [], []),
  (285, 286, .iload 3, .null, [], []),
  (286, 287, .nop, .int (2 : Int32), [], []),
  (287, 288, .iadd, .null, [], []),
  (288, 289, .iaload, .null, [], []),
  (289, 290, .aload 0, .null, [], []),
  (290, 291, .iload 3, .null, [], []),
  (291, 292, .nop, .int (3 : Int32), [], []),
  (292, 293, .iadd, .null, [], []),
  (293, 294, .iaload, .null, [], []),
  (294, 297, .invokestatic 0, .null, [], [23, 4, 1]),
  (297, 298, .aload 2, .null, [], []),
  (298, 299, .aload 0, .null, [], []),
  (299, 300, .iload 3, .null, [], []),
  (300, 301, .nop, .int (1 : Int32), [], []),
  (301, 302, .iadd, .null, [], []),
  (302, 303, .iaload, .null, [], []),
  (303, 304, .aload 0, .null, [], []),
  (304, 305, .iload 3, .null, [], []),
  (305, 306, .nop, .int (2 : Int32), [], []),
  (306, 307, .iadd, .null, [], []),
  (307, 308, .iaload, .null, [], []),
  (308, 309, .aload 0, .null, [], []),
  (309, 310, .iload 3, .null, [], []),
  (310, 311, .nop, .int (3 : Int32), [], []),
  (311, 312, .iadd, .null, [], []),
  (312, 313, .iaload, .null, [], []),
  (313, 316, .invokestatic 0, .null, [], [125, 4, 1]),
  (316, 319, .if_icmp .eq 0, .null, [], [667]),
  (319, 320, .nop, .int (0 : Int32), [], []),
  (320, 321, .ireturn, .null, [], [1]),
  (321, 322, .aload 1, .null, [], []),
  (322, 323, .aload 0, .null, [], []),
  (323, 324, .iload 3, .null, [], []),
  (324, 325, .nop, .int (1 : Int32), [], []),
  (325, 326, .iadd, .null, [], []),
  (326, 327, .iaload, .null, [], []),
  (327, 328, .aload 0, .null, [], []),
  (328, 329, .iload 3, .null, [], []),
  (329, 330, .nop, .int (2 : Int32), [], []),
  (330, 331, .iadd, .null, [], []),
  (331, 332, .iaload, .null, [], []),
  (332, 333, .aload 0, .null, [], []),
  (333, 334, .iload 3, .null, [], []),
  (334, 335, .nop, .int (3 : Int32), [], []),
  (335, 336, .iadd, .null, [], []),
  (336, 337, .iaload, .null, [], []),
  (337, 338, .aload 0, .null, [], []),
  (338, 339, .iload 3, .null, [], []),
  (339, 340, .nop, .int (4 : Int32), [], []),
  (340, 341, .iadd, .null, [], []),
  (341, 342, .iaload, .null, [], []),
  (342, 345, .invokestatic 0, .null, [], [36, 5, 1]),
  (345, 346, .aload 2, .null, [], []),
  (346, 347, .aload 0, .null, [], []),
  (347, 348, .iload 3, .null, [], []),
  (348, 349, .nop, .int (1 : Int32), [], []),
  (349, 350, .iadd, .null, [], []),
  (350, 351, .iaload, .null, [], []),
  (351, 352, .aload 0, .null, [], []),
  (352, 353, .iload 3, .null, [], []),
  (353, 354, .nop, .int (2 : Int32), [], []),
  (354, 355, .iadd, .null, [], []),
  (355, 356, .iaload, .null, [], []),
  (356, 357, .aload 0, .null, [], []),
  (357, 358, .iload 3, .null, [], []),
  (358, 359, .nop, .int (3 : Int32), [], []),
  (359, 360, .iadd, .null, [], []),
  (360, 361, .iaload, .null, [], []),
  (361, 362, .aload 0, .null, [], []),
  (362, 363, .iload 3, .null, [], []),
  (363, 364, .nop, .int (4 : Int32), [], []),
  (364, 365, .iadd, .null, [], []),
  (365, 366, .iaload, .null, [], []),
  (366, 369, .invokestatic 0, .null, [], [126, 5, 1]),
  (369, 372, .if_icmp .eq 0, .null, [], [667]),
  (372, 373, .nop, .int (0 : Int32), [], []),
  (373, 374, .ireturn, .null, [], [1]),
  (374, 375, .aload 1, .null, [], []),
  (375, 376, .aload 0, .null, [], []),
  (376, 377, .iload 3, .null, [], []),
  (377, 378, .nop, .int (1 : Int32), [], []),
  (378, 379, .iadd, .null, [], []),
  (379, 380, .iaload, .null, [], []),
  (380, 381, .aload 0, .null, [], []),
  (381, 382, .iload 3, .null, [], []),
  (382, 383, .nop, .int (2 : Int32), [], []),
  (383, 384, .iadd, .null, [], []),
  (384, 385, .iaload, .null, [], []),
  (385, 386, .aload 0, .null, [], []),
  (386, 387, .iload 3, .null, [], []),
  (387, 388, .nop, .int (3 : Int32), [], []),
  (388, 389, .iadd, .null, [], []),
  (389, 390, .iaload, .null, [], []),
  (390, 391, .aload 0, .null, [], []),
  (391, 392, .iload 3, .null, [], []),
  (392, 393, .nop, .int (4 : Int32), [], []),
  (393, 394, .iadd, .null, [], []),
  (394, 395, .iaload, .null, [], []),
  (395, 398, .invokestatic 0, .null, [], [39, 5, 1]),
  (398, 399, .aload 2, .null, [], []),
  (399, 400, .aload 0, .null, [], []),
  (400, 401, .iload 3, .null, [], []),
  (401, 402, .nop, .int (1 : Int32), [], []),
  (402, 403, .iadd, .null, [], []),
  (403, 404, .iaload, .null, [], []),
  (404, 405, .aload 0, .null, [], []),
  (405, 406, .iload 3, .null, [], []),
  (406, 407, .nop, .int (2 : Int32), [], []),
  (407, 408, .iadd, .null, [], []),
  (408, 409, .iaload, .null, [], []),
  (409, 410, .aload 0, .null, [], []),
  (410, 411, .iload 3, .null, [], []),
  (411, 412, .nop, .int (3 : Int32), [], []),
  (412, 413, .iadd, .null, [], []),
  (413, 414, .iaload, .null, [], []),
  (414, 415, .aload 0, .null, [], []),
  (415, 416, .iload 3, .null, [], []),
  (416, 417, .nop, .int (4 : Int32), [], []),
  (417, 418, .iadd, .null, [], []),
  (418, 419, .iaload, .null, [], []),
  (419, 422, .invokestatic 0, .null, [], [127, 5, 1]),
  (422, 425, .if_icmp .eq 0, .null, [], [667]),
  (425, 426, .nop, .int (0 : Int32), [], []),
  (426, 427, .ireturn, .null, [], [1]),
  (427, 428, .aload 1, .null, [], []),
  (428, 429, .aload 0, .null, [], []),
  (429, 430, .iload 3, .null, [], []),
  (430, 431, .nop, .int (1 : Int32), [], []),
  (431, 432, .iadd, .null, [], []),
  (432, 433, .iaload, .null, [], []),
  (433, 434, .aload 0, .null, [], []),
  (434, 435, .iload 3, .null, [], []),
  (435, 436, .nop, .int (2 : Int32), [], []),
  (436, 437, .iadd, .null, [], []),
  (437, 438, .iaload, .null, [], []),
  (438, 439, .aload 0, .null, [], []),
  (439, 440, .iload 3, .null, [], []),
  (440, 441, .nop, .int (3 : Int32), [], []),
  (441, 442, .iadd, .null, [], []),
  (442, 443, .iaload, .null, [], []),
  (443, 446, .invokestatic 0, .null, [], [41, 4, 1]),
  (446, 447, .aload 2, .null, [], []),
  (447, 448, .aload 0, .null, [], []),
  (448, 449, .iload 3, .null, [], []),
  (449, 450, .nop, .int (1 : Int32), [], []),
  (450, 451, .iadd, .null, [], []),
  (451, 452, .iaload, .null, [], []),
  (452, 453, .aload 0, .null, [], []),
  (453, 454, .iload 3, .null, [], []),
  (454, 455, .nop, .int (2 : Int32), [], []),
  (455, 456, .iadd, .null, [], []),
  (456, 457, .iaload, .null, [], []),
  (457, 458, .aload 0, .null, [], []),
  (458, 459, .iload 3, .null, [], []),
  (459, 460, .nop, .int (3 : Int32), [], []),
  (460, 461, .iadd, .null, [], []),
  (461, 462, .iaload, .null, [], []),
  (462, 465, .invokestatic 0, .null, [], [128, 4, 1]),
  (465, 468, .if_icmp .eq 0, .null, [], [667]),
  (468, 469, .nop, .int (0 : Int32), [], []),
  (469, 470, .ireturn, .null, [], [1]),
  (470, 471, .aload 1, .null, [], []),
  (471, 472, .aload 0, .null, [], []),
  (472, 473, .iload 3, .null, [], []),
  (473, 474, .nop, .int (1 : Int32), [], []),
  (474, 475, .iadd, .null, [], []),
  (475, 476, .iaload, .null, [], []),
  (476, 477, .aload 0, .null, [], []),
  (477, 478, .iload 3, .null, [], []),
  (478, 479, .nop, .int (2 : Int32), [], []),
  (479, 480, .iadd, .null, [], []),
  (480, 481, .iaload, .null, [], []),
  (481, 484, .invokestatic 0, .null, [], [43, 3, 1]),
  (484, 485, .aload 2, .null, [], []),
  (485, 486, .aload 0, .null, [], []),
  (486, 487, .iload 3, .null, [], []),
  (487, 488, .nop, .int (1 : Int32), [], []),
  (488, 489, .iadd, .null, [], []),
  (489, 490, .iaload, .null, [], []),
  (490, 491, .aload 0, .null, [], []),
  (491, 492, .iload 3, .null, [], []),
  (492, 493, .nop, .int (2 : Int32), [], []),
  (493, 494, .iadd, .null, [], []),
  (494, 495, .iaload, .null, [], []),
  (495, 498, .invokestatic 0, .null, [], [129, 3, 1]),
  (498, 501, .if_icmp .eq 0, .null, [], [667]),
  (501, 502, .nop, .int (0 : Int32), [], []),
  (502, 503, .ireturn, .null, [], [1]),
  (503, 504, .aload 1, .null, [], []),
  (504, 505, .aload 0, .null, [], []),
  (505, 506, .iload 3, .null, [], []),
  (506, 507, .nop, .int (1 : Int32), [], []),
  (507, 508, .iadd, .null, [], []),
  (508, 509, .iaload, .null, [], []),
  (509, 512, .invokestatic 0, .null, [], [46, 2, 1]),
  (512, 513, .aload 2, .null, [], []),
  (513, 514, .aload 0, .null, [], []),
  (514, 515, .iload 3, .null, [], []),
  (515, 516, .nop, .int (1 : Int32), [], []),
  (516, 517, .iadd, .null, [], []),
  (517, 518, .iaload, .null, [], []),
  (518, 521, .invokestatic 0, .null, [], [130, 2, 1]),
  (521, 524, .if_icmp .eq 0, .null, [], [667]),
  (524, 525, .nop, .int (0 : Int32), [], []),
  (525, 526, .ireturn, .null, [], [1]),
  (526, 527, .aload 1, .null, [], []),
  (527, 528, .aload 0, .null, [], []),
  (528, 529, .iload 3, .null, [], []),
  (529, 530, .nop, .int (1 : Int32), [], []),
  (530, 531, .iadd, .null, [], []),
  (531, 532, .iaload, .null, [], []),
  (532, 535, .invokestatic 0, .null, [], [48, 2, 1]),
  (535, 536, .aload 2, .null, [], []),
  (536, 537, .aload 0, .null, [], []),
  (537, 538, .iload 3, .null, [], []),
  (538, 539, .nop, .int (1 : Int32), [], []),
  (539, 540, .iadd, .null, [], []),
  (540, 541, .iaload, .null, [], []),
  (541, 544, .invokestatic 0, .null, [], [131, 2, 1]),
  (544, 547, .if_icmp .eq 0, .null, [], [667]),
  (547, 548, .nop, .int (0 : Int32), [], []),
  (548, 549, .ireturn, .null, [], [1]),
  (549, 550, .aload 1, .null, [], []),
  (550, 553, .invokestatic 0, .null, [], [49, 1, 1]),
  (553, 554, .aload 2, .null, [], []),
  (554, 557, .invokestatic 0, .null, [], [132, 1, 1]),
  (557, 560, .if_icmp .eq 0, .null, [], [667]),
  (560, 561, .nop, .int (0 : Int32), [], []),
  (561, 562, .ireturn, .null, [], [1]),
  (562, 563, .aload 1, .null, [], []),
  (563, 564, .aload 0, .null, [], []),
  (564, 565, .iload 3, .null, [], []),
  (565, 566, .nop, .int (1 : Int32), [], []),
  (566, 567, .iadd, .null, [], []),
  (567, 568, .iaload, .null, [], []),
  (568, 571, .invokestatic 0, .null, [], [50, 2, 1]),
  (571, 572, .aload 2, .null, [], []),
  (572, 573, .aload 0, .null, [], []),
  (573, 574, .iload 3, .null, [], []),
  (574, 575, .nop, .int (1 : Int32), [], []),
  (575, 576, .iadd, .null, [], []),
  (576, 577, .iaload, .null, [], []),
  (577, 580, .invokestatic 0, .null, [], [133, 2, 1]),
  (580, 583, .if_icmp .eq 0, .null, [], [667]),
  (583, 584, .nop, .int (0 : Int32), [], []),
  (584, 585, .ireturn, .null, [], [1]),
  (585, 586, .aload 1, .null, [], []),
  (586, 589, .invokestatic 0, .null, [], [80, 1, 1]),
  (589, 590, .aload 2, .null, [], []),
  (590, 593, .invokestatic 0, .null, [], [148, 1, 1]),
  (593, 596, .if_icmp .eq 0, .null, [], [667]),
  (596, 597, .nop, .int (0 : Int32), [], []),
  (597, 598, .ireturn, .null, [], [1]),
  (598, 599, .aload 1, .null, [], []),
  (599, 602, .invokestatic 0, .null, [], [81, 1, 1]),
  (602, 603, .aload 2, .null, [], []),
  (603, 606, .invokestatic 0, .null, [], [149, 1, 1]),
  (606, 609, .if_icmp .eq 0, .null, [], [667]),
  (609, 610, .nop, .int (0 : Int32), [], []),
  (610, 611, .ireturn, .null, [], [1]),
  (611, 612, .aload 1, .null, [], []),
  (612, 613, .aload 0, .null, [], []),
  (613, 614, .iload 3, .null, [], []),
  (614, 615, .nop, .int (1 : Int32), [], []),
  (615, 616, .iadd, .null, [], []),
  (616, 617, .iaload, .null, [], []),
  (617, 618, .aload 0, .null, [], []),
  (618, 619, .iload 3, .null, [], []),
  (619, 620, .nop, .int (2 : Int32), [], []),
  (620, 621, .iadd, .null, [], []),
  (621, 622, .iaload, .null, [], []),
  (622, 625, .invokestatic 0, .null, [], [82, 3, 1]),
  (625, 626, .aload 2, .null, [], []),
  (626, 627, .aload 0, .null, [], []),
  (627, 628, .iload 3, .null, [], []),
  (628, 629, .nop, .int (1 : Int32), [], []),
  (629, 630, .iadd, .null, [], []),
  (630, 631, .iaload, .null, [], []),
  (631, 632, .aload 0, .null, [], []),
  (632, 633, .iload 3, .null, [], []),
  (633, 634, .nop, .int (2 : Int32), [], []),
  (634, 635, .iadd, .null, [], []),
  (635, 636, .iaload, .null, [], []),
  (636, 639, .invokestatic 0, .null, [], [150, 3, 1]),
  (639, 642, .if_icmp .eq 0, .null, [], [667]),
  (642, 643, .nop, .int (0 : Int32), [], []),
  (643, 644, .ireturn, .null, [], [1]),
  (644, 645, .aload 1, .null, [], []),
  (645, 646, .aload 0, .null, [], []),
  (646, 647, .iload 3, .null, [], []),
  (647, 648, .nop, .int (1 : Int32), [], []),
  (648, 649, .iadd, .null, [], []),
  (649, 650, .iaload, .null, [], []),
  (650, 653, .invokestatic 0, .null, [], [99, 2, 1]),
  (653, 654, .aload 2, .null, [], []),
  (654, 655, .aload 0, .null, [], []),
  (655, 656, .iload 3, .null, [], []),
  (656, 657, .nop, .int (1 : Int32), [], []),
  (657, 658, .iadd, .null, [], []),
  (658, 659, .iaload, .null, [], []),
  (659, 662, .invokestatic 0, .null, [], [160, 2, 1]),
  (662, 665, .if_icmp .eq 0, .null, [], [667]),
  (665, 666, .nop, .int (0 : Int32), [], []),
  (666, 667, .ireturn, .null, [], [1]),
  (667, 670, .iinc 3 0, .int (5 : Int32), [], []),
  (670, 673, .goto 0, .null, [], [18]),
  (673, 674, .nop, .int (1 : Int32), [], []),
  (674, 675, .ireturn, .null, [], [1])]
def zh_161 : List (Nat × List Nat) := [(18, [0, 1, 2, 3]), (667, [0, 1, 2, 3])]
def zo_all : List (List (Nat × Nat × dzOp)) := [zo_0, zo_1, zo_2, zo_3, zo_4, zo_5, zo_6, zo_7, zo_8, zo_9, zo_10, zo_11, zo_12, zo_13, zo_14, zo_15, zo_16, zo_17, zo_18, zo_19, zo_20, zo_21, zo_22, zo_23, zo_24, zo_25, zo_26, zo_27, zo_28, zo_29, zo_30, zo_31, zo_32, zo_33, zo_34, zo_35, zo_36, zo_37, zo_38, zo_39, zo_40, zo_41, zo_42, zo_43, zo_44, zo_45, zo_46, zo_47, zo_48, zo_49, zo_50, zo_51, zo_52, zo_53, zo_54, zo_55, zo_56, zo_57, zo_58, zo_59, zo_60, zo_61, zo_62, zo_63, zo_64, zo_65, zo_66, zo_67, zo_68, zo_69, zo_70, zo_71, zo_72, zo_73, zo_74, zo_75, zo_76, zo_77, zo_78, zo_79, zo_80, zo_81, zo_82, zo_83, zo_84, zo_85, zo_86, zo_87, zo_88, zo_89, zo_90, zo_91, zo_92, zo_93, zo_94, zo_95, zo_96, zo_97, zo_98, zo_99, zo_100, zo_101, zo_102, zo_103, zo_104, zo_105, zo_106, zo_107, zo_108, zo_109, zo_110, zo_111, zo_112, zo_113, zo_114, zo_115, zo_116, zo_117, zo_118, zo_119, zo_120, zo_121, zo_122, zo_123, zo_124, zo_125, zo_126, zo_127, zo_128, zo_129, zo_130, zo_131, zo_132, zo_133, zo_134, zo_135, zo_136, zo_137, zo_138, zo_139, zo_140, zo_141, zo_142, zo_143, zo_144, zo_145, zo_146, zo_147, zo_148, zo_149, zo_150, zo_151, zo_152, zo_153, zo_154, zo_155, zo_156, zo_157, zo_158, zo_159, zo_160, zo_161]
def zh_all : List (List (Nat × List Nat)) := [zh_0, zh_1, zh_2, zh_3, zh_4, zh_5, zh_6, zh_7, zh_8, zh_9, zh_10, zh_11, zh_12, zh_13, zh_14, zh_15, zh_16, zh_17, zh_18, zh_19, zh_20, zh_21, zh_22, zh_23, zh_24, zh_25, zh_26, zh_27, zh_28, zh_29, zh_30, zh_31, zh_32, zh_33, zh_34, zh_35, zh_36, zh_37, zh_38, zh_39, zh_40, zh_41, zh_42, zh_43, zh_44, zh_45, zh_46, zh_47, zh_48, zh_49, zh_50, zh_51, zh_52, zh_53, zh_54, zh_55, zh_56, zh_57, zh_58, zh_59, zh_60, zh_61, zh_62, zh_63, zh_64, zh_65, zh_66, zh_67, zh_68, zh_69, zh_70, zh_71, zh_72, zh_73, zh_74, zh_75, zh_76, zh_77, zh_78, zh_79, zh_80, zh_81, zh_82, zh_83, zh_84, zh_85, zh_86, zh_87, zh_88, zh_89, zh_90, zh_91, zh_92, zh_93, zh_94, zh_95, zh_96, zh_97, zh_98, zh_99, zh_100, zh_101, zh_102, zh_103, zh_104, zh_105, zh_106, zh_107, zh_108, zh_109, zh_110, zh_111, zh_112, zh_113, zh_114, zh_115, zh_116, zh_117, zh_118, zh_119, zh_120, zh_121, zh_122, zh_123, zh_124, zh_125, zh_126, zh_127, zh_128, zh_129, zh_130, zh_131, zh_132, zh_133, zh_134, zh_135, zh_136, zh_137, zh_138, zh_139, zh_140, zh_141, zh_142, zh_143, zh_144, zh_145, zh_146, zh_147, zh_148, zh_149, zh_150, zh_151, zh_152, zh_153, zh_154, zh_155, zh_156, zh_157, zh_158, zh_159, zh_160, zh_161]
def zt_rcv : List (Option Nat) := [none, none, none, none, none, none, none, none, none, none, some 0, some 0, none, none, none, some 0, some 0, none, some 0, none, none, some 6, some 6, some 0, none, none, some 6, some 6, some 6, none, some 6, some 6, some 6, some 6, some 6, some 6, some 0, none, some 6, some 0, some 6, some 0, none, some 0, some 7, some 7, some 0, some 4, some 0, some 0, some 0, some 4, some 2, some 2, none, some 2, some 2, none, some 2, none, some 2, some 2, some 2, some 2, some 2, some 2, some 8, some 2, some 6, some 6, some 2, none, some 8, some 8, some 2, some 2, some 8, some 2, some 4, some 2, some 0, some 0, some 0, some 4, some 5, some 5, some 5, some 5, some 5, some 5, some 5, some 5, some 5, some 5, some 5, none, some 5, some 5, some 5, some 0, some 1, none, some 1, some 1, some 1, some 1, some 1, some 1, some 1, some 1, some 1, some 1, some 1, some 1, some 1, some 1, some 1, some 1, none, some 1, some 1, none, some 1, some 1, some 1, some 1, some 1, some 1, some 1, some 1, some 1, some 1, some 1, some 1, some 1, some 1, some 1, some 1, none, some 1, some 1, some 1, some 1, some 1, some 1, some 1, some 1, some 1, some 1, some 1, some 1, some 1, some 1, some 1, some 1, some 1, some 1, some 1, some 1, some 1, some 1, none]
def zt_mc : List Nat := [7, 1, 202, 6, 3, 5, 8, 246, 0, 0, 0, 0, 0, 0, 0, 0, 0, 0, 0, 0, 0, 0, 0, 0, 0, 0, 0, 0, 0, 0, 0, 0, 0, 0, 0, 0, 0, 0, 0, 0, 0, 0, 0, 0, 0, 0, 0, 0, 0, 0, 0, 0, 0, 0, 0, 0, 0, 0, 0, 0, 0, 0, 0, 0, 0, 0, 0, 0, 0, 0, 0, 0, 0, 0, 0, 0, 0, 0, 0, 0, 0, 0, 0, 0, 0, 0, 0, 0, 0, 0, 0, 0, 0, 0, 0, 0, 0, 0, 0, 0, 0, 5, 0, 0, 0, 0, 0, 0, 0, 0, 0, 0, 0, 0, 0, 0, 0, 0, 0, 0, 0, 0, 0, 0, 0, 0, 0, 0, 0, 0, 0, 0, 0, 0, 0, 0, 0, 0, 0, 0, 0, 0, 0, 0, 0, 0, 0, 0, 0, 0, 0, 0, 0, 0, 0, 0, 0, 0, 0, 0, 0, 600000]
def zt_ms : List Nat := [74, 4000, 2000, 48, 120, 132, 156, 6544, 0, 0, 0, 0, 0, 0, 0, 0, 0, 0, 0, 0, 0, 0, 0, 0, 0, 0, 0, 0, 0, 0, 0, 0, 0, 0, 0, 0, 0, 0, 0, 0, 0, 0, 0, 0, 0, 0, 0, 0, 0, 0, 0, 0, 0, 0, 0, 0, 0, 0, 0, 0, 0, 0, 0, 0, 0, 0, 0, 0, 0, 0, 0, 0, 0, 0, 0, 0, 0, 0, 0, 0, 0, 0, 0, 0, 0, 0, 0, 0, 0, 0, 0, 0, 0, 0, 0, 0, 0, 0, 0, 0, 0, 13400, 0, 0, 0, 0, 0, 0, 0, 0, 0, 0, 0, 0, 0, 0, 0, 0, 0, 0, 0, 0, 0, 0, 0, 0, 0, 0, 0, 0, 0, 0, 0, 0, 0, 0, 0, 0, 0, 0, 0, 0, 0, 0, 0, 0, 0, 0, 0, 0, 0, 0, 0, 0, 0, 0, 0, 0, 0, 0, 0, 7302250]
def zt_fr : List Nat := [1, 1, 1, 1, 1, 2, 2, 3, 0, 0, 1, 1, 1, 0, 1, 2, 3, 0, 3, 0, 0, 1, 2, 3, 1, 0, 0, 1, 2, 0, 1, 0, 0, 0, 2, 3, 4, 1, 3, 4, 3, 4, 0, 1, 0, 0, 1, 0, 1, 0, 0, 0, 0, 1, 0, 1, 2, 1, 2, 2, 3, 0, 2, 2, 3, 4, 2, 3, 3, 2, 4, 1, 4, 4, 0, 5, 4, 5, 0, 6, 7, 0, 2, 1, 2, 1, 1, 4, 0, 1, 3, 5, 1, 4, 5, 0, 5, 2, 6, 7, 0, 1, 0, 0, 0, 1, 0, 0, 1, 0, 0, 0, 1, 0, 2, 2, 1, 1, 0, 1, 1, 1, 2, 3, 3, 3, 2, 3, 3, 1, 0, 0, 0, 0, 0, 0, 1, 2, 0, 2, 3, 1, 3, 2, 3, 3, 4, 4, 5, 0, 1, 1, 1, 2, 1, 3, 4, 4, 1, 5, 6, 10]
def zt_lo : List Nat := [24, 24, 24, 24, 24, 44, 44, 68, 0, 0, 20, 20, 20, 0, 40, 61, 82, 0, 82, 0, 0, 23, 61, 84, 21, 0, 0, 26, 61, 0, 23, 0, 0, 0, 59, 83, 107, 23, 83, 108, 83, 107, 0, 22, 0, 0, 21, 0, 21, 0, 0, 0, 0, 22, 0, 22, 44, 21, 43, 42, 63, 0, 43, 43, 65, 87, 61, 84, 83, 53, 106, 21, 108, 108, 0, 130, 108, 130, 0, 152, 174, 0, 61, 22, 61, 20, 21, 107, 0, 22, 82, 130, 21, 107, 130, 0, 130, 61, 153, 176, 0, 24, 0, 0, 0, 22, 0, 0, 24, 0, 0, 0, 30, 0, 59, 59, 22, 23, 0, 20, 20, 20, 43, 65, 65, 65, 59, 84, 82, 23, 0, 0, 0, 0, 0, 0, 22, 42, 0, 42, 65, 24, 65, 55, 84, 84, 106, 106, 129, 0, 23, 23, 24, 59, 23, 81, 106, 106, 23, 129, 150, 398]
def zt_mx : List Nat := [1, 1, 1, 2, 1, 5, 5, 2, 1, 1, 4, 3, 3, 6, 2, 2, 4, 6, 4, 2, 4, 11, 4, 4, 1, 2, 7, 2, 2, 4, 17, 11, 5, 6, 5, 5, 5, 2, 6, 5, 5, 4, 3, 3, 1, 2, 2, 2, 2, 1, 2, 1, 3, 1, 2, 2, 2, 2, 5, 2, 2, 2, 3, 2, 3, 3, 2, 3, 3, 3, 1, 1, 2, 3, 2, 2, 3, 3, 2, 3, 2, 1, 3, 3, 2, 3, 2, 4, 2, 4, 3, 4, 3, 1, 3, 2, 4, 4, 4, 4, 5, 1, 4, 4, 3, 2, 6, 6, 12, 7, 11, 6, 10, 3, 6, 4, 2, 2, 1, 5, 3, 3, 3, 4, 4, 4, 5, 5, 4, 3, 2, 2, 1, 2, 3, 1, 1, 4, 3, 2, 5, 2, 5, 6, 1, 3, 4, 3, 2, 1, 3, 3, 2, 3, 6, 4, 4, 4, 6, 2, 6, 4]
def dzOps (mid : Nat) : List (Nat × Nat × dzOp) := zo_all.getD mid []
def dzHd (mid : Nat) : List (Nat × List Nat) := zh_all.getD mid []
def dzRcv (mid : Nat) : Option Nat := zt_rcv.getD mid none
def dzMc (mid : Nat) : Nat := zt_mc.getD mid 0
def dzMs (mid : Nat) : Nat := zt_ms.getD mid 0
def dzFr (mid : Nat) : Nat := zt_fr.getD mid 0
def dzLo (mid : Nat) : Nat := zt_lo.getD mid 0
def dzMx (mid : Nat) : Nat := zt_mx.getD mid 0
def dzFit (mid c : Nat) (u : Nat × Nat) : Bool := Nat.ble (dzFr c + 1) (dzFr mid) && Nat.ble (8 + (dzMx c + 11) + dzLo c) (dzLo mid) && Nat.ble (u.1 + dzMc c) (dzMc mid) && Nat.ble (u.2 + dzMs c) (dzMs mid)
def zt_def : List (List Value) := [[.null, .null, .null, .null, .null, .null, .null, .null], [.null, .null, .int 0, .int 0, .int 0, .int 0, .int 0, .int 0, .int 0, .null, .null, .null], [.null, .null, .null, .null, .null, .null, .int 0, .int 0, .int 0, .int 0, .int 0, .int 0, .int 0], [.null, .null, .null, .int 0], [.null, .null, .int 0, .int 0], [.null, .null, .null, .null, .null, .null, .null, .null, .null, .int 0, .int 0], [.null, .null, .null, .int 0, .int 0, .null, .null, .null, .null], [.null, .int 0], [.null, .null, .null, .null, .null, .null, .null]]
def dzDef (ci : Nat) : List Value := zt_def.getD ci []
end
section
/-! the deep interpreter: what a method's bytecode does, over an abstract heap (addresses to entries) -/
abbrev dzE : Type := (Nat × (Nat → Int32)) ⊕ ((Nat × (Nat → Option Nat)) ⊕ ((Nat × List Value) ⊕ (Nat × (Nat → Int32))))
abbrev dzH : Type := Nat × (Nat → Option dzE)
abbrev dzR : Type := Option Value × dzH
abbrev dzKt : Type := Nat → dzL → List Value → Nat × Nat → dzH → Option dzR
abbrev dzCt : Type := Nat → List Value → dzH → Option dzR
/-- an int row, a row of references, an object (its class's number, its fields), the script -/
abbrev eI (n : Nat) (f : Nat → Int32) : dzE := .inl (n, f)
abbrev eA (n : Nat) (f : Nat → Option Nat) : dzE := .inr (.inl (n, f))
abbrev eO (c : Nat) (fs : List Value) : dzE := .inr (.inr (.inl (c, fs)))
abbrev eX (n : Nat) (f : Nat → Int32) : dzE := .inr (.inr (.inr (n, f)))
-- operations that the machine has in its own way
def k_ishl (x y : Int32) : Int32 := x <<< (y &&& 31)
def k_ishr (x y : Int32) : Int32 := x >>> (y &&& 31)
def k_iushr (x y : Int32) : Int32 := (x.toUInt32 >>> (y.toUInt32 &&& Int32.toUInt32 31)).toInt32
def k_irem (x y : Int32) : Int32 := x - x / y * y
def k_lshl (x : Int64) (y : Int32) : Int64 := x <<< (y.toInt64 &&& 63)
def k_lshr (x : Int64) (y : Int32) : Int64 := x >>> (y.toInt64 &&& 63)
def k_lushr (x : Int64) (y : Int32) : Int64 := (x.toUInt64 >>> (y.toInt64.toUInt64 &&& Int64.toUInt64 63)).toInt64
def k_lrem (x y : Int64) : Int64 := x - x / y * y
def k_lcmp (x y : Int64) : Int32 := lg_cmp x y
-- fields
def dgV (h : dzH) (a ci k : Nat) : Option Value := match h.2 a with
  | some (.inr (.inr (.inl (c, fs)))) => if c = ci then fs[k]? else none
  | _ => none
def dgI (h : dzH) (a ci k : Nat) : Option Int32 := match dgV h a ci k with
  | some (.int x) => some x
  | _ => none
def dgJ (h : dzH) (a ci k : Nat) : Option Int64 := match dgV h a ci k with
  | some (.long x) => some x
  | _ => none
def dgA (h : dzH) (a ci k : Nat) : Option Nat := match dgV h a ci k with
  | some (.ref x) => some x
  | _ => none
def dpF (h : dzH) (a ci k : Nat) (v : Value) : Option dzH := match h.2 a with
  | some (.inr (.inr (.inl (c, fs)))) => if c = ci ∧ k < fs.length then some (h.1, va_up h.2 a (some (eO c (fs.set k v)))) else none
  | _ => none
-- rows
def drI (h : dzH) (a : Nat) (i : Int32) : Option Int32 := match h.2 a with
  | some (.inl (n, f)) => if ¬ (i < 0 ∨ n ≤ i.toNatClampNeg) then some (f i.toNatClampNeg) else none
  | some (.inr (.inr (.inr (n, f)))) => if ¬ (i < 0 ∨ n ≤ i.toNatClampNeg) then some (f i.toNatClampNeg) else none
  | _ => none
def dwI (h : dzH) (a : Nat) (i x : Int32) : Option dzH := match h.2 a with
  | some (.inl (n, f)) => if ¬ (i < 0 ∨ n ≤ i.toNatClampNeg) then some (h.1, va_up h.2 a (some (eI n (upd f i.toNatClampNeg x)))) else none
  | _ => none
def drA (h : dzH) (a : Nat) (i : Int32) : Option Nat := match h.2 a with
  | some (.inr (.inl (n, f))) => if ¬ (i < 0 ∨ n ≤ i.toNatClampNeg) then f i.toNatClampNeg else none
  | _ => none
def dln (h : dzH) (a : Nat) : Option Int32 := match h.2 a with
  | some (.inl (n, _)) => some (Int32.ofNat n)
  | some (.inr (.inl (n, _))) => some (Int32.ofNat n)
  | some (.inr (.inr (.inr (n, _)))) => some (Int32.ofNat n)
  | _ => none
def dcp (h : dzH) (a : Nat) (sp : Int32) (b : Nat) (dp n : Int32) : Option dzH := match h.2 a, h.2 b with
  | some (.inl (n0, f)), some (.inl (n1, g)) =>
    if ¬ sp < 0 ∧ ¬ dp < 0 ∧ ¬ n < 0 ∧ sp.toNatClampNeg + n.toNatClampNeg ≤ n0 ∧ dp.toNatClampNeg + n.toNatClampNeg ≤ n1 then
      some (h.1, va_up h.2 b (some (eI n1 (va_cpy f g sp.toNatClampNeg dp.toNatClampNeg n.toNatClampNeg)))) else none
  | _, _ => none
-- new cells
def dnO (h : dzH) (ci : Nat) : dzH := (h.1 + 1, va_up h.2 h.1 (some (eO ci (dzDef ci))))
def dnI (h : dzH) (n : Int32) : Option dzH := if ¬ n < 0 ∧ n.toNatClampNeg ≤ 100000 then some (h.1 + 1, va_up h.2 h.1 (some (eI n.toNatClampNeg (fun _ => 0)))) else none
def dnM (h : dzH) (n m : Int32) : Option dzH :=
  if ¬ n < 0 ∧ ¬ m < 0 ∧ n.toNatClampNeg ≤ 1000 ∧ m.toNatClampNeg ≤ 1000 then
    some (h.1 + 1 + n.toNatClampNeg, fun q => if q = h.1 then some (eA n.toNatClampNeg (fun i => some (h.1 + 1 + i))) else if h.1 < q ∧ q ≤ h.1 + n.toNatClampNeg then some (eI m.toNatClampNeg (fun _ => 0)) else h.2 q)
  else none
-- locals
def dzLI (L : dzL) (i : Nat) : Option Int32 := match dzFnd L i with
  | some (.int x) => some x
  | _ => none
def dzLJ (L : dzL) (i : Nat) : Option Int64 := match dzFnd L i with
  | some (.long x) => some x
  | _ => none
def dzLA (L : dzL) (i : Nat) : Option Nat := match dzFnd L i with
  | some (.ref x) => some x
  | _ => none
def dzIn (i : Nat) (v : Value) : dzL → dzL
  | [] => [(i, v)]
  | (j, w) :: r => match Nat.ble i j with
    | true => (i, v) :: (j, w) :: r
    | false => (j, w) :: dzIn i v r
def dzP1 (L : dzL) (i : Nat) (v : Value) : dzL := dzIn i v (L.filter (fun q => !(q.1 == i) && !(q.1 + 1 == i && q.2.category == 2)))
def dzP2 (L : dzL) (i : Nat) (v : Value) : dzL := dzIn i v (L.filter (fun q => !(q.1 == i) && (!(q.1 == i + 1) && !(q.1 + 1 == i && q.2.category == 2))))
def dzRs (ks : List Nat) (L : dzL) : dzL := L.filter (fun q => dzMem ks q.1)
-- answers
def dzRI (o : Option dzR) : Option (Int32 × dzH) := match o with
  | some (some (.int x), h) => some (x, h)
  | _ => none
def dzRJ (o : Option dzR) : Option (Int64 × dzH) := match o with
  | some (some (.long x), h) => some (x, h)
  | _ => none
def dzRA (o : Option dzR) : Option (Nat × dzH) := match o with
  | some (some (.ref x), h) => some (x, h)
  | _ => none
def dzRV (o : Option dzR) : Option dzH := match o with
  | some (none, h) => some h
  | _ => none
def dzB01 (x : Int32) : Option Int32 := if x = 0 then some 0 else if x = 1 then some 1 else none
-- the operand stack
def dz1I (S : List Value) (k : Int32 → List Value → Option dzR) : Option dzR := match S with
  | .int x :: r => k x r
  | _ => none
def dz1J (S : List Value) (k : Int64 → List Value → Option dzR) : Option dzR := match S with
  | .long x :: r => k x r
  | _ => none
def dz1A (S : List Value) (k : Nat → List Value → Option dzR) : Option dzR := match S with
  | .ref x :: r => k x r
  | _ => none
def dz2I (S : List Value) (k : Int32 → Int32 → List Value → Option dzR) : Option dzR := match S with
  | .int y :: .int x :: r => k x y r
  | _ => none
def dz2J (S : List Value) (k : Int64 → Int64 → List Value → Option dzR) : Option dzR := match S with
  | .long y :: .long x :: r => k x y r
  | _ => none
def dzJI (S : List Value) (k : Int64 → Int32 → List Value → Option dzR) : Option dzR := match S with
  | .int y :: .long x :: r => k x y r
  | _ => none
def dzAI (S : List Value) (k : Nat → Int32 → List Value → Option dzR) : Option dzR := match S with
  | .int y :: .ref x :: r => k x y r
  | _ => none
def dzAII (S : List Value) (k : Nat → Int32 → Int32 → List Value → Option dzR) : Option dzR := match S with
  | .int z :: .int y :: .ref x :: r => k x y z r
  | _ => none
def dzAV (S : List Value) (k : Nat → Value → List Value → Option dzR) : Option dzR := match S with
  | v :: .ref x :: r => k x v r
  | _ => none
def dzTk : Nat → List Value → List Value → Option (List Value × List Value)
  | 0, acc, S => some (acc, S)
  | _ + 1, _, [] => none
  | n + 1, acc, v :: S => dzTk n (v :: acc) S
def dzSw (x : Int32) (k : Nat → Option dzR) : List (Int32 × Nat) → Nat → Option dzR
  | [], d => k d
  | (c, t) :: r, d => if x = c then k t else dzSw x k r d
def dzPl (pl : List Nat) (k : Nat) : Nat := pl.getD k 0
/-- the value's kind: 1 int, 2 long, 3 reference -/
def dzKd (v : Value) : Nat := match v with
  | .int _ => 1
  | .long _ => 2
  | .ref _ => 3
  | _ => 0
/-- one instruction; K: what comes behind it; C: a call -/
def dz1 (mid : Nat) (K : dzKt) (C : dzCt) (nx : Nat) (L : dzL) (S : List Value) (u : Nat × Nat) (h : dzH) (i : dzIns) (v : Value) (sw : List (Int32 × Nat)) (pl : List Nat) : Option dzR :=
  match i with
  | .nop => K nx L (v :: S) u h
  | .iload j => (dzLI L j).bind fun x => K nx L (.int x :: S) u h
  | .lload j => (dzLJ L j).bind fun x => K nx L (.long x :: S) u h
  | .aload j => (dzLA L j).bind fun x => K nx L (.ref x :: S) u h
  | .istore j => dz1I S fun x r => K nx (dzP1 L j (.int x)) r u h
  | .lstore j => dz1J S fun x r => K nx (dzP2 L j (.long x)) r u h
  | .astore j => dz1A S fun x r => K nx (dzP1 L j (.ref x)) r u h
  | .iinc j _ => (dzLI L j).bind fun x => match v with
    | .int c => K nx (dzP1 L j (.int (x + c))) S u h
    | _ => none
  | .iadd => dz2I S fun x y r => K nx L (.int (x + y) :: r) u h
  | .isub => dz2I S fun x y r => K nx L (.int (x - y) :: r) u h
  | .imul => dz2I S fun x y r => K nx L (.int (x * y) :: r) u h
  | .iand => dz2I S fun x y r => K nx L (.int (x &&& y) :: r) u h
  | .ior => dz2I S fun x y r => K nx L (.int (x ||| y) :: r) u h
  | .ixor => dz2I S fun x y r => K nx L (.int (x ^^^ y) :: r) u h
  | .ishl => dz2I S fun x y r => K nx L (.int (k_ishl x y) :: r) u h
  | .ishr => dz2I S fun x y r => K nx L (.int (k_ishr x y) :: r) u h
  | .iushr => dz2I S fun x y r => K nx L (.int (k_iushr x y) :: r) u h
  | .idiv => dz2I S fun x y r => if y = 0 then none else K nx L (.int (x / y) :: r) u h
  | .irem => dz2I S fun x y r => if y = 0 then none else K nx L (.int (k_irem x y) :: r) u h
  | .ineg => dz1I S fun x r => K nx L (.int (-x) :: r) u h
  | .ladd => dz2J S fun x y r => K nx L (.long (x + y) :: r) u h
  | .lsub => dz2J S fun x y r => K nx L (.long (x - y) :: r) u h
  | .lmul => dz2J S fun x y r => K nx L (.long (x * y) :: r) u h
  | .land => dz2J S fun x y r => K nx L (.long (x &&& y) :: r) u h
  | .lor => dz2J S fun x y r => K nx L (.long (x ||| y) :: r) u h
  | .lxor => dz2J S fun x y r => K nx L (.long (x ^^^ y) :: r) u h
  | .ldiv => dz2J S fun x y r => if y = 0 then none else K nx L (.long (x / y) :: r) u h
  | .lrem => dz2J S fun x y r => if y = 0 then none else K nx L (.long (k_lrem x y) :: r) u h
  | .lneg => dz1J S fun x r => K nx L (.long (-x) :: r) u h
  | .lshl => dzJI S fun x y r => K nx L (.long (k_lshl x y) :: r) u h
  | .lshr => dzJI S fun x y r => K nx L (.long (k_lshr x y) :: r) u h
  | .lushr => dzJI S fun x y r => K nx L (.long (k_lushr x y) :: r) u h
  | .lcmp => dz2J S fun x y r => K nx L (.int (k_lcmp x y) :: r) u h
  | .i2l => dz1I S fun x r => K nx L (.long x.toInt64 :: r) u h
  | .l2i => dz1J S fun x r => K nx L (.int x.toInt32 :: r) u h
  | .dup => match S with
    | .int x :: r => K nx L (.int x :: .int x :: r) u h
    | .ref x :: r => K nx L (.ref x :: .ref x :: r) u h
    | _ => none
  | .dup2 => match S with
    | .long x :: r => K nx L (.long x :: .long x :: r) u h
    | .int y :: .ref x :: r => K nx L (.int y :: .ref x :: .int y :: .ref x :: r) u h
    | _ => none
  | .pop => match S with
    | .int _ :: r => K nx L r u h
    | .ref _ :: r => K nx L r u h
    | _ => none
  | .ifCond .eq _ => dz1I S fun x r => if x = 0 then K (dzPl pl 0) L r u h else K nx L r u h
  | .ifCond .ne _ => dz1I S fun x r => if x = 0 then K nx L r u h else K (dzPl pl 0) L r u h
  | .ifCond .lt _ => dz1I S fun x r => if x < 0 then K (dzPl pl 0) L r u h else K nx L r u h
  | .ifCond .ge _ => dz1I S fun x r => if x < 0 then K nx L r u h else K (dzPl pl 0) L r u h
  | .ifCond .le _ => dz1I S fun x r => if x ≤ 0 then K (dzPl pl 0) L r u h else K nx L r u h
  | .ifCond .gt _ => dz1I S fun x r => if x ≤ 0 then K nx L r u h else K (dzPl pl 0) L r u h
  | .if_icmp .eq _ => dz2I S fun x y r => if x = y then K (dzPl pl 0) L r u h else K nx L r u h
  | .if_icmp .ne _ => dz2I S fun x y r => if x = y then K nx L r u h else K (dzPl pl 0) L r u h
  | .if_icmp .lt _ => dz2I S fun x y r => if x < y then K (dzPl pl 0) L r u h else K nx L r u h
  | .if_icmp .ge _ => dz2I S fun x y r => if x < y then K nx L r u h else K (dzPl pl 0) L r u h
  | .if_icmp .le _ => dz2I S fun x y r => if x ≤ y then K (dzPl pl 0) L r u h else K nx L r u h
  | .if_icmp .gt _ => dz2I S fun x y r => if x ≤ y then K nx L r u h else K (dzPl pl 0) L r u h
  | .goto _ => K (dzPl pl 0) L S u h
  | .lookupswitch _ _ => dz1I S fun x r => dzSw x (fun t => K t L r u h) sw (dzPl pl 0)
  | .iaload => dzAI S fun a j r => (drI h a j).bind fun x => K nx L (.int x :: r) u h
  | .aaload => dzAI S fun a j r => (drA h a j).bind fun x => K nx L (.ref x :: r) u h
  | .iastore => dzAII S fun a j x r => (dwI h a j x).bind fun h => K nx L r u h
  | .arraylength => dz1A S fun a r => (dln h a).bind fun x => K nx L (.int x :: r) u h
  | .getfield _ => dz1A S fun a r => match dzPl pl 2 with
    | 1 => (dgI h a (dzPl pl 0) (dzPl pl 1)).bind fun x => K nx L (.int x :: r) u h
    | 2 => (dgJ h a (dzPl pl 0) (dzPl pl 1)).bind fun x => K nx L (.long x :: r) u h
    | 3 => (dgA h a (dzPl pl 0) (dzPl pl 1)).bind fun x => K nx L (.ref x :: r) u h
    | _ => none
  | .putfield _ => dzAV S fun a v r => match Nat.beq (dzKd v) (dzPl pl 2) with
    | true => (dpF h a (dzPl pl 0) (dzPl pl 1) v).bind fun h => K nx L r u h
    | false => none
  | .swap => match S with
    | .int n :: .int dp :: .ref b :: .int sp :: .ref a :: r => match Nat.ble (r.map fun v => v.category).sum 8 with
      | true => (dcp h a sp b dp n).bind fun h => K nx L r u h
      | false => none
    | _ => none
  | .invokespecial _ => dz1A S fun _ r => match Nat.ble (r.map fun v => v.category).sum 8 with
    | true => K nx L r u h
    | false => none
  | .invokestatic _ => match dzTk (dzPl pl 1) [] S with
    | some (av, r) => match dzFit mid (dzPl pl 0) u && Nat.ble (r.map fun v => v.category).sum 8 with
      | true => match dzPl pl 2 with
        | 0 => (dzRV (C (dzPl pl 0) av h)).bind fun h => K nx L r (u.1 + dzMc (dzPl pl 0), u.2 + dzMs (dzPl pl 0)) h
        | 1 => (dzRI (C (dzPl pl 0) av h)).bind fun q => K nx L (.int q.1 :: r) (u.1 + dzMc (dzPl pl 0), u.2 + dzMs (dzPl pl 0)) q.2
        | 2 => (dzRJ (C (dzPl pl 0) av h)).bind fun q => K nx L (.long q.1 :: r) (u.1 + dzMc (dzPl pl 0), u.2 + dzMs (dzPl pl 0)) q.2
        | 3 => (dzRA (C (dzPl pl 0) av h)).bind fun q => K nx L (.ref q.1 :: r) (u.1 + dzMc (dzPl pl 0), u.2 + dzMs (dzPl pl 0)) q.2
        | _ => none
      | false => none
    | none => none
  | .new _ => match Nat.ble (u.1 + 1) (dzMc mid) && Nat.ble (u.2 + dzPl pl 1) (dzMs mid) with
    | true => K nx L (.ref h.1 :: S) (u.1 + 1, u.2 + dzPl pl 1) (dnO h (dzPl pl 0))
    | false => none
  | .newarray _ => dz1I S fun n r => match Nat.ble (u.1 + 1) (dzMc mid) && Nat.ble (u.2 + n.toNatClampNeg) (dzMs mid) with
    | true => (dnI h n).bind fun h1 => K nx L (.ref h.1 :: r) (u.1 + 1, u.2 + n.toNatClampNeg) h1
    | false => none
  | .multianewarray _ _ => dz2I S fun n m r => match Nat.ble (u.1 + (1 + n.toNatClampNeg)) (dzMc mid) && Nat.ble (u.2 + (n.toNatClampNeg + n.toNatClampNeg * m.toNatClampNeg)) (dzMs mid) with
    | true => (dnM h n m).bind fun h1 => K nx L (.ref h.1 :: r) (u.1 + (1 + n.toNatClampNeg), u.2 + (n.toNatClampNeg + n.toNatClampNeg * m.toNatClampNeg)) h1
    | false => none
  | .ireturn => match S with
    | [.int x] => match dzPl pl 0 with
      | 0 => some (some (.int x), h)
      | _ => (dzB01 x).bind fun y => some (some (.int y), h)
    | _ => none
  | .lreturn => match S with
    | [.long x] => some (some (.long x), h)
    | _ => none
  | .areturn => match S with
    | [.ref x] => some (some (.ref x), h)
    | _ => none
  | .return_ => match S with
    | [] => some (none, h)
    | _ => none
  | _ => none
def dzS (mid : Nat) (K : dzKt) (C : dzCt) : dzKt := fun pc L S u h => match dzFnd (dzOps mid) pc with
  | some (nx, i, v, sw, pl) => dz1 mid K C nx L S u h i v sw pl
  | none => none
/-- a call's start: an instance method's receiver is an object of its class -/
def dzGo (k : dzKt) (c : Nat) (av : List Value) (h : dzH) : Option dzR := match dzRcv c with
  | none => k 0 (lv_args 0 av) [] (0, 0) h
  | some ci => match av with
    | .ref a :: _ => match h.2 a with
      | some (.inr (.inr (.inl (c', _)))) => if c' = ci then k 0 (lv_args 0 av) [] (0, 0) h else none
      | _ => none
    | _ => none
/-- where a jump arrives only the locals that all roads set are kept -/
def dzJ (mid : Nat) (k : dzKt) : dzKt := fun pc L S u h => match dzFnd (dzHd mid) pc with
  | some ks => k pc (dzRs ks L) S u h
  | none => k pc L S u h
def dzRun : Nat → Nat → dzKt
  | 0, _ => fun _ _ _ _ _ => none
  | n + 1, mid => fun pc L S u h => dzS mid (dzJ mid (dzRun n mid)) (fun c => dzGo (dzRun n c) c) pc L S u h
end
section
/-! the limit of the runs: one equation an instruction, no fuel -/
def dzUse (Φ : dzKt → dzCt → Option dzR) : Prop := ∀ (K : dzKt) (C : dzCt) (r : dzR), Φ K C = some r →
  (∀ (K' : dzKt) (C' : dzCt), Φ K' C' = some r) ∨
  (∃ (pc : Nat) (L : dzL) (S : List Value) (u : Nat × Nat) (h : dzH), K pc L S u h = some r ∧ ∀ (K' : dzKt) (C' : dzCt), K' pc L S u h = some r → Φ K' C' = some r) ∨
  (∃ (c : Nat) (av : List Value) (h1 : dzH) (q : dzR) (pc : Nat) (L : dzL) (S : List Value) (u : Nat × Nat) (h : dzH), C c av h1 = some q ∧ K pc L S u h = some r ∧ ∀ (K' : dzKt) (C' : dzCt), C' c av h1 = some q → K' pc L S u h = some r → Φ K' C' = some r)
theorem dzUse_none : dzUse (fun _ _ => none) := fun _ _ _ h => by cases h
theorem dzUse_some (r : dzR) : dzUse (fun _ _ => some r) := fun _ _ _ h => Or.inl (fun _ _ => h)
theorem dzUse_K (pc : Nat) (L : dzL) (S : List Value) (u : Nat × Nat) (h : dzH) : dzUse (fun K _ => K pc L S u h) :=
  fun _ _ _ hd => Or.inr (Or.inl ⟨pc, L, S, u, h, hd, fun _ _ h' => h'⟩)
theorem dzUse_bind {α : Type} (o : Option α) {f : α → dzKt → dzCt → Option dzR} (hf : ∀ x, dzUse (f x)) : dzUse (fun K C => o.bind fun x => f x K C) := by
  cases o with
  | none => exact dzUse_none
  | some x => exact hf x
theorem dzUse_ite (p : Prop) [d : Decidable p] {f g : dzKt → dzCt → Option dzR} (hf : dzUse f) (hg : dzUse g) : dzUse (fun K C => if p then f K C else g K C) := by
  by_cases hp : p
  · have e : (fun K C => if p then f K C else g K C) = f := by funext K C; rw [if_pos hp]
    rw [e]; exact hf
  · have e : (fun K C => if p then f K C else g K C) = g := by funext K C; rw [if_neg hp]
    rw [e]; exact hg
theorem dzUse_1I (S : List Value) {f : Int32 → List Value → dzKt → dzCt → Option dzR} (hf : ∀ x r, dzUse (f x r)) : dzUse (fun K C => dz1I S fun x r => f x r K C) := by
  unfold dz1I
  split
  · exact hf _ _
  · exact dzUse_none
theorem dzUse_1J (S : List Value) {f : Int64 → List Value → dzKt → dzCt → Option dzR} (hf : ∀ x r, dzUse (f x r)) : dzUse (fun K C => dz1J S fun x r => f x r K C) := by
  unfold dz1J
  split
  · exact hf _ _
  · exact dzUse_none
theorem dzUse_1A (S : List Value) {f : Nat → List Value → dzKt → dzCt → Option dzR} (hf : ∀ x r, dzUse (f x r)) : dzUse (fun K C => dz1A S fun x r => f x r K C) := by
  unfold dz1A
  split
  · exact hf _ _
  · exact dzUse_none
theorem dzUse_2I (S : List Value) {f : Int32 → Int32 → List Value → dzKt → dzCt → Option dzR} (hf : ∀ x y r, dzUse (f x y r)) : dzUse (fun K C => dz2I S fun x y r => f x y r K C) := by
  unfold dz2I
  split
  · exact hf _ _ _
  · exact dzUse_none
theorem dzUse_2J (S : List Value) {f : Int64 → Int64 → List Value → dzKt → dzCt → Option dzR} (hf : ∀ x y r, dzUse (f x y r)) : dzUse (fun K C => dz2J S fun x y r => f x y r K C) := by
  unfold dz2J
  split
  · exact hf _ _ _
  · exact dzUse_none
theorem dzUse_JI (S : List Value) {f : Int64 → Int32 → List Value → dzKt → dzCt → Option dzR} (hf : ∀ x y r, dzUse (f x y r)) : dzUse (fun K C => dzJI S fun x y r => f x y r K C) := by
  unfold dzJI
  split
  · exact hf _ _ _
  · exact dzUse_none
theorem dzUse_AI (S : List Value) {f : Nat → Int32 → List Value → dzKt → dzCt → Option dzR} (hf : ∀ x y r, dzUse (f x y r)) : dzUse (fun K C => dzAI S fun x y r => f x y r K C) := by
  unfold dzAI
  split
  · exact hf _ _ _
  · exact dzUse_none
theorem dzUse_AII (S : List Value) {f : Nat → Int32 → Int32 → List Value → dzKt → dzCt → Option dzR} (hf : ∀ x y z r, dzUse (f x y z r)) : dzUse (fun K C => dzAII S fun x y z r => f x y z r K C) := by
  unfold dzAII
  split
  · exact hf _ _ _ _
  · exact dzUse_none
theorem dzUse_AV (S : List Value) {f : Nat → Value → List Value → dzKt → dzCt → Option dzR} (hf : ∀ x y r, dzUse (f x y r)) : dzUse (fun K C => dzAV S fun x y r => f x y r K C) := by
  unfold dzAV
  split
  · exact hf _ _ _
  · exact dzUse_none
theorem dzUse_Sw (x : Int32) {f : Nat → dzKt → dzCt → Option dzR} (hf : ∀ t, dzUse (f t)) (d : Nat) : ∀ sw : List (Int32 × Nat), dzUse (fun K C => dzSw x (fun t => f t K C) sw d)
  | [] => hf d
  | (c, t) :: r => dzUse_ite (x = c) (hf t) (dzUse_Sw x hf d r)
theorem dzUse_RV (c : Nat) (av : List Value) (h : dzH) (pc : Nat) (L : dzL) (S : List Value) (u : Nat × Nat) : dzUse (fun K C => (dzRV (C c av h)).bind fun h => K pc L S u h) := by
  intro K C r hd
  obtain ⟨h1, e1, hd⟩ := Option.bind_eq_some_iff.mp hd
  have e2 : C c av h = some (none, h1) := by
    unfold dzRV at e1
    split at e1
    · rename_i hc; rw [hc]; cases e1; rfl
    · cases e1
  exact Or.inr (Or.inr ⟨c, av, h, _, pc, L, S, u, h1, e2, hd, fun K' C' g1 g2 => by dsimp only; rw [g1]; exact g2⟩)
theorem dzUse_RI (c : Nat) (av : List Value) (h : dzH) (pc : Nat) (L : dzL) (S : List Value) (u : Nat × Nat) : dzUse (fun K C => (dzRI (C c av h)).bind fun q => K pc L (.int q.1 :: S) u q.2) := by
  intro K C r hd
  obtain ⟨q, e1, hd⟩ := Option.bind_eq_some_iff.mp hd
  have e2 : C c av h = some (some (.int q.1), q.2) := by
    unfold dzRI at e1
    split at e1
    · rename_i hc; rw [hc]; cases e1; rfl
    · cases e1
  exact Or.inr (Or.inr ⟨c, av, h, _, pc, L, .int q.1 :: S, u, q.2, e2, hd, fun K' C' g1 g2 => by dsimp only; rw [g1]; exact g2⟩)
theorem dzUse_RJ (c : Nat) (av : List Value) (h : dzH) (pc : Nat) (L : dzL) (S : List Value) (u : Nat × Nat) : dzUse (fun K C => (dzRJ (C c av h)).bind fun q => K pc L (.long q.1 :: S) u q.2) := by
  intro K C r hd
  obtain ⟨q, e1, hd⟩ := Option.bind_eq_some_iff.mp hd
  have e2 : C c av h = some (some (.long q.1), q.2) := by
    unfold dzRJ at e1
    split at e1
    · rename_i hc; rw [hc]; cases e1; rfl
    · cases e1
  exact Or.inr (Or.inr ⟨c, av, h, _, pc, L, .long q.1 :: S, u, q.2, e2, hd, fun K' C' g1 g2 => by dsimp only; rw [g1]; exact g2⟩)
theorem dzUse_RA (c : Nat) (av : List Value) (h : dzH) (pc : Nat) (L : dzL) (S : List Value) (u : Nat × Nat) : dzUse (fun K C => (dzRA (C c av h)).bind fun q => K pc L (.ref q.1 :: S) u q.2) := by
  intro K C r hd
  obtain ⟨q, e1, hd⟩ := Option.bind_eq_some_iff.mp hd
  have e2 : C c av h = some (some (.ref q.1), q.2) := by
    unfold dzRA at e1
    split at e1
    · rename_i hc; rw [hc]; cases e1; rfl
    · cases e1
  exact Or.inr (Or.inr ⟨c, av, h, _, pc, L, .ref q.1 :: S, u, q.2, e2, hd, fun K' C' g1 g2 => by dsimp only; rw [g1]; exact g2⟩)
set_option maxHeartbeats 4000000 in
theorem dz1_use (mid nx : Nat) (L : dzL) (S : List Value) (u : Nat × Nat) (h : dzH) (i : dzIns) (v : Value) (sw : List (Int32 × Nat)) (pl : List Nat) : dzUse (fun K C => dz1 mid K C nx L S u h i v sw pl) := by
  cases i
  case nop => exact dzUse_K _ _ _ _ _
  case iload j => exact dzUse_bind _ (fun x => dzUse_K _ _ _ _ _)
  case lload j => exact dzUse_bind _ (fun x => dzUse_K _ _ _ _ _)
  case aload j => exact dzUse_bind _ (fun x => dzUse_K _ _ _ _ _)
  case istore j => exact dzUse_1I S (fun x r => dzUse_K _ _ _ _ _)
  case lstore j => exact dzUse_1J S (fun x r => dzUse_K _ _ _ _ _)
  case astore j => exact dzUse_1A S (fun x r => dzUse_K _ _ _ _ _)
  case iinc j c =>
    refine dzUse_bind _ (fun x => ?_)
    cases v
    case int c => exact dzUse_K _ _ _ _ _
    all_goals exact dzUse_none
  case iadd => exact dzUse_2I S (fun x y r => dzUse_K _ _ _ _ _)
  case isub => exact dzUse_2I S (fun x y r => dzUse_K _ _ _ _ _)
  case imul => exact dzUse_2I S (fun x y r => dzUse_K _ _ _ _ _)
  case iand => exact dzUse_2I S (fun x y r => dzUse_K _ _ _ _ _)
  case ior => exact dzUse_2I S (fun x y r => dzUse_K _ _ _ _ _)
  case ixor => exact dzUse_2I S (fun x y r => dzUse_K _ _ _ _ _)
  case ishl => exact dzUse_2I S (fun x y r => dzUse_K _ _ _ _ _)
  case ishr => exact dzUse_2I S (fun x y r => dzUse_K _ _ _ _ _)
  case iushr => exact dzUse_2I S (fun x y r => dzUse_K _ _ _ _ _)
  case idiv => exact dzUse_2I S (fun x y r => dzUse_ite _ dzUse_none (dzUse_K _ _ _ _ _))
  case irem => exact dzUse_2I S (fun x y r => dzUse_ite _ dzUse_none (dzUse_K _ _ _ _ _))
  case ineg => exact dzUse_1I S (fun x r => dzUse_K _ _ _ _ _)
  case ladd => exact dzUse_2J S (fun x y r => dzUse_K _ _ _ _ _)
  case lsub => exact dzUse_2J S (fun x y r => dzUse_K _ _ _ _ _)
  case lmul => exact dzUse_2J S (fun x y r => dzUse_K _ _ _ _ _)
  case land => exact dzUse_2J S (fun x y r => dzUse_K _ _ _ _ _)
  case lor => exact dzUse_2J S (fun x y r => dzUse_K _ _ _ _ _)
  case lxor => exact dzUse_2J S (fun x y r => dzUse_K _ _ _ _ _)
  case ldiv => exact dzUse_2J S (fun x y r => dzUse_ite _ dzUse_none (dzUse_K _ _ _ _ _))
  case lrem => exact dzUse_2J S (fun x y r => dzUse_ite _ dzUse_none (dzUse_K _ _ _ _ _))
  case lneg => exact dzUse_1J S (fun x r => dzUse_K _ _ _ _ _)
  case lshl => exact dzUse_JI S (fun x y r => dzUse_K _ _ _ _ _)
  case lshr => exact dzUse_JI S (fun x y r => dzUse_K _ _ _ _ _)
  case lushr => exact dzUse_JI S (fun x y r => dzUse_K _ _ _ _ _)
  case lcmp => exact dzUse_2J S (fun x y r => dzUse_K _ _ _ _ _)
  case i2l => exact dzUse_1I S (fun x r => dzUse_K _ _ _ _ _)
  case l2i => exact dzUse_1J S (fun x r => dzUse_K _ _ _ _ _)
  case dup =>
    unfold dz1
    dsimp only
    split
    · exact dzUse_K _ _ _ _ _
    · exact dzUse_K _ _ _ _ _
    · exact dzUse_none
  case dup2 =>
    unfold dz1
    dsimp only
    split
    · exact dzUse_K _ _ _ _ _
    · exact dzUse_K _ _ _ _ _
    · exact dzUse_none
  case pop =>
    unfold dz1
    dsimp only
    split
    · exact dzUse_K _ _ _ _ _
    · exact dzUse_K _ _ _ _ _
    · exact dzUse_none
  case ifCond o t =>
    cases o <;> exact dzUse_1I S (fun x r => dzUse_ite _ (dzUse_K _ _ _ _ _) (dzUse_K _ _ _ _ _))
  case if_icmp o t =>
    cases o <;> exact dzUse_2I S (fun x y r => dzUse_ite _ (dzUse_K _ _ _ _ _) (dzUse_K _ _ _ _ _))
  case goto t => exact dzUse_K _ _ _ _ _
  case lookupswitch d ps => exact dzUse_1I S (fun x r => dzUse_Sw x (f := fun t K _ => K t L r u h) (fun t => dzUse_K t L r u h) _ sw)
  case iaload => exact dzUse_AI S (fun a j r => dzUse_bind _ (fun x => dzUse_K _ _ _ _ _))
  case aaload => exact dzUse_AI S (fun a j r => dzUse_bind _ (fun x => dzUse_K _ _ _ _ _))
  case iastore => exact dzUse_AII S (fun a j x r => dzUse_bind _ (fun h => dzUse_K _ _ _ _ _))
  case arraylength => exact dzUse_1A S (fun a r => dzUse_bind _ (fun x => dzUse_K _ _ _ _ _))
  case getfield k =>
    refine dzUse_1A S (fun a r => ?_)
    split
    · exact dzUse_bind _ (fun x => dzUse_K _ _ _ _ _)
    · exact dzUse_bind _ (fun x => dzUse_K _ _ _ _ _)
    · exact dzUse_bind _ (fun x => dzUse_K _ _ _ _ _)
    · exact dzUse_none
  case putfield k =>
    refine dzUse_AV S (fun a v r => ?_)
    split
    · exact dzUse_bind _ (fun x => dzUse_K _ _ _ _ _)
    · exact dzUse_none
  case swap =>
    unfold dz1
    dsimp only
    split
    · split
      · exact dzUse_bind _ (fun x => dzUse_K _ _ _ _ _)
      · exact dzUse_none
    · exact dzUse_none
  case invokespecial k =>
    refine dzUse_1A S (fun a r => ?_)
    split
    · exact dzUse_K _ _ _ _ _
    · exact dzUse_none
  case invokestatic k =>
    unfold dz1
    dsimp only
    split
    · split
      · split
        · exact dzUse_RV _ _ _ _ _ _ _
        · exact dzUse_RI _ _ _ _ _ _ _
        · exact dzUse_RJ _ _ _ _ _ _ _
        · exact dzUse_RA _ _ _ _ _ _ _
        · exact dzUse_none
      · exact dzUse_none
    · exact dzUse_none
  case new k =>
    unfold dz1
    dsimp only
    split
    · exact dzUse_K _ _ _ _ _
    · exact dzUse_none
  case newarray k =>
    refine dzUse_1I S (fun n r => ?_)
    split
    · exact dzUse_bind _ (fun x => dzUse_K _ _ _ _ _)
    · exact dzUse_none
  case multianewarray k k2 =>
    refine dzUse_2I S (fun n m r => ?_)
    split
    · exact dzUse_bind _ (fun x => dzUse_K _ _ _ _ _)
    · exact dzUse_none
  case ireturn =>
    unfold dz1
    dsimp only
    split
    · split
      · exact dzUse_some _
      · exact dzUse_bind _ (fun y => dzUse_some _)
    · exact dzUse_none
  case lreturn =>
    unfold dz1
    dsimp only
    split
    · exact dzUse_some _
    · exact dzUse_none
  case areturn =>
    unfold dz1
    dsimp only
    split
    · exact dzUse_some _
    · exact dzUse_none
  case return_ =>
    unfold dz1
    dsimp only
    split
    · exact dzUse_some _
    · exact dzUse_none
  all_goals exact dzUse_none
theorem dzS_use (mid pc : Nat) (L : dzL) (S : List Value) (u : Nat × Nat) (h : dzH) : dzUse (fun K C => dzS mid K C pc L S u h) := by
  unfold dzS
  split
  · exact dz1_use _ _ _ _ _ _ _ _ _ _
  · exact dzUse_none
/-- what goes on with more goes on -/
def dzLe (K K' : dzKt) : Prop := ∀ (pc : Nat) (L : dzL) (S : List Value) (u : Nat × Nat) (h : dzH) (r : dzR), K pc L S u h = some r → K' pc L S u h = some r
theorem dzJ_le {mid : Nat} {K K' : dzKt} (hk : dzLe K K') : dzLe (dzJ mid K) (dzJ mid K') := by
  intro pc L S u h r hd
  unfold dzJ at hd ⊢
  split at hd
  · exact hk _ _ _ _ _ _ hd
  · exact hk _ _ _ _ _ _ hd
theorem dzGo_le {c : Nat} {K K' : dzKt} (hk : dzLe K K') (av : List Value) (h : dzH) (r : dzR) (hd : dzGo K c av h = some r) : dzGo K' c av h = some r := by
  unfold dzGo at hd ⊢
  split at hd
  · exact hk _ _ _ _ _ _ hd
  · split at hd
    · split at hd
      · split at hd
        · rename_i e
          rw [if_pos e]
          exact hk _ _ _ _ _ _ hd
        · cases hd
      · cases hd
    · cases hd
theorem dzS_le {mid : Nat} {K K' : dzKt} {C C' : dzCt} (hk : dzLe K K') (hc : ∀ c av h r, C c av h = some r → C' c av h = some r) : dzLe (dzS mid K C) (dzS mid K' C') := by
  intro pc L S u h r hd
  rcases dzS_use mid pc L S u h K C r hd with g | ⟨a, b, c, d, e, g1, g⟩ | ⟨c1, av, h1, q, a, b, c, d, e, g1, g2, g⟩
  · exact g _ _
  · exact g _ _ (hk _ _ _ _ _ _ g1)
  · exact g _ _ (hc _ _ _ _ g1) (hk _ _ _ _ _ _ g2)
theorem dzRun_S : ∀ (n mid : Nat), dzLe (dzRun n mid) (dzRun (n + 1) mid)
  | 0, _ => fun _ _ _ _ _ _ h => by cases h
  | n + 1, mid => dzS_le (dzJ_le (dzRun_S n mid)) (fun c av h r => dzGo_le (dzRun_S n c) av h r)
theorem dzRun_le {n m : Nat} (hnm : n ≤ m) (mid : Nat) : dzLe (dzRun n mid) (dzRun m mid) := by
  induction hnm with
  | refl => exact fun _ _ _ _ _ _ h => h
  | step _ ih => exact fun pc L S u h r hd => dzRun_S _ _ _ _ _ _ _ _ (ih pc L S u h r hd)
noncomputable def dzF (mid : Nat) : dzKt := fun pc L S u h => match Classical.propDecidable (∃ n, (dzRun n mid pc L S u h).isSome = true) with
  | .isTrue e => dzRun e.choose mid pc L S u h
  | .isFalse _ => none
theorem dzF_iff {mid pc : Nat} {L : dzL} {S : List Value} {u : Nat × Nat} {h : dzH} {r : dzR} : dzF mid pc L S u h = some r ↔ ∃ n, dzRun n mid pc L S u h = some r := by
  constructor
  · intro hd
    unfold dzF at hd
    split at hd
    · exact ⟨_, hd⟩
    · cases hd
  · rintro ⟨n, hn⟩
    have e : ∃ n, (dzRun n mid pc L S u h).isSome = true := ⟨n, by rw [hn]; rfl⟩
    unfold dzF
    split
    · rename_i e2 _
      obtain ⟨r2, h2⟩ := Option.isSome_iff_exists.mp e2.choose_spec
      rw [h2]
      have a1 := dzRun_le (Nat.le_max_left n e2.choose) mid _ _ _ _ _ _ hn
      have a2 := dzRun_le (Nat.le_max_right n e2.choose) mid _ _ _ _ _ _ h2
      exact a2.symm.trans a1
    · rename_i e2 _
      exact absurd e e2
theorem dzRun_F (n mid : Nat) : dzLe (dzRun n mid) (dzF mid) := fun _ _ _ _ _ _ h => dzF_iff.mpr ⟨n, h⟩
theorem dzJ_F {mid pc : Nat} {L : dzL} {S : List Value} {u : Nat × Nat} {h : dzH} {r : dzR} (hd : dzJ mid (dzF mid) pc L S u h = some r) : ∃ n, dzJ mid (dzRun n mid) pc L S u h = some r := by
  unfold dzJ at hd ⊢
  split at hd
  · exact dzF_iff.mp hd
  · exact dzF_iff.mp hd
theorem dzGo_F {c : Nat} {av : List Value} {h : dzH} {r : dzR} (hd : dzGo (dzF c) c av h = some r) : ∃ n, dzGo (dzRun n c) c av h = some r := by
  unfold dzGo at hd ⊢
  split at hd
  · exact dzF_iff.mp hd
  · split at hd
    · split at hd
      · split at hd
        · rename_i e
          obtain ⟨n, hn⟩ := dzF_iff.mp hd
          exact ⟨n, by rw [if_pos e]; exact hn⟩
        · cases hd
      · cases hd
    · cases hd
noncomputable def dzC : dzCt := fun c => dzGo (dzF c) c
theorem dzF_eq (mid pc : Nat) (L : dzL) (S : List Value) (u : Nat × Nat) (h : dzH) : dzF mid pc L S u h = dzS mid (dzJ mid (dzF mid)) dzC pc L S u h := by
  apply Option.ext
  intro r
  constructor
  · intro hd
    obtain ⟨n, hn⟩ := dzF_iff.mp hd
    cases n with
    | zero => cases hn
    | succ n => exact dzS_le (dzJ_le (dzRun_F n mid)) (fun c av h r => dzGo_le (dzRun_F n c) av h r) _ _ _ _ _ _ hn
  · intro hd
    rcases dzS_use mid pc L S u h _ _ r hd with g | ⟨a, b, c, d, e, g1, g⟩ | ⟨c1, av, h1, q, a, b, c, d, e, g1, g2, g⟩
    · exact dzF_iff.mpr ⟨1, g _ _⟩
    · obtain ⟨n, hn⟩ := dzJ_F g1
      exact dzF_iff.mpr ⟨n + 1, g _ _ hn⟩
    · obtain ⟨n, hn⟩ := dzGo_F g1
      obtain ⟨k, hk⟩ := dzJ_F g2
      exact dzF_iff.mpr ⟨max n k + 1, g _ _ (dzGo_le (dzRun_le (Nat.le_max_left n k) _) _ _ _ hn) (dzJ_le (dzRun_le (Nat.le_max_right n k) _) _ _ _ _ _ _ hk)⟩
/-- k instructions, as far as the next head -/
noncomputable def dzW : Nat → Nat → dzKt
  | 0, mid => dzF mid
  | k + 1, mid => dzS mid (fun pc L S u h => match dzFnd (dzHd mid) pc with
    | some ks => dzF mid pc (dzRs ks L) S u h
    | none => dzW k mid pc L S u h) dzC
theorem dzW_eq : ∀ (k mid : Nat), dzF mid = dzW k mid
  | 0, _ => rfl
  | k + 1, mid => by
    funext pc L S u h
    rw [dzF_eq]
    unfold dzW dzJ
    rw [← dzW_eq k mid]
    rfl
theorem dzW_at (k mid pc : Nat) (L : dzL) (S : List Value) (u : Nat × Nat) (h : dzH) : dzF mid pc L S u h = dzW k mid pc L S u h := by rw [dzW_eq k mid]
end
section
/-! number theory: Fermat, Lucas, Pocklington; nothing of the machine here -/
def npP (p : Nat) : Prop := 2 ≤ p ∧ ∀ d, d ∣ p → d = 1 ∨ d = p
theorem np_mod_of_dvd {p x y : Nat} (h : y ≤ x) (hd : p ∣ x - y) : x % p = y % p := by
  obtain ⟨k, hk⟩ := hd
  have e : x = y + p * k := by omega
  rw [e, Nat.add_mul_mod_self_left]
theorem np_dvd_of_mod {p x y : Nat} (hd : x % p = y % p) : p ∣ x - y := Nat.dvd_of_mod_eq_zero (Nat.sub_mod_eq_zero_of_mod_eq hd)
theorem np_cancel0 {p c x y : Nat} (hc : Nat.Coprime p c) (hyx : y ≤ x) (h : (c * x) % p = (c * y) % p) : x % p = y % p := by
  have h1 := np_dvd_of_mod h
  rw [← Nat.mul_sub] at h1
  exact np_mod_of_dvd hyx (hc.dvd_of_dvd_mul_left h1)
theorem np_cancel {p c x y : Nat} (hc : Nat.Coprime p c) (h : (c * x) % p = (c * y) % p) : x % p = y % p := by
  rcases Nat.le_total y x with hyx | hyx
  · exact np_cancel0 hc hyx h
  · exact (np_cancel0 hc hyx h.symm).symm
theorem np_factor : ∀ n : Nat, 2 ≤ n → ∃ p, npP p ∧ p ∣ n := by
  intro n
  induction n using Nat.strongRecOn with
  | ind n ih =>
    intro hn
    by_cases hp : npP n
    · exact ⟨n, hp, Nat.dvd_refl n⟩
    · have h1 : ∃ d, d ∣ n ∧ d ≠ 1 ∧ d ≠ n := by
        apply Classical.byContradiction
        intro h
        apply hp
        refine ⟨hn, fun d hd => ?_⟩
        by_cases a : d = 1
        · exact Or.inl a
        · by_cases b : d = n
          · exact Or.inr b
          · exact absurd ⟨d, hd, a, b⟩ h
      obtain ⟨d, hd, d1, d2⟩ := h1
      have d3 : d ≤ n := Nat.le_of_dvd (by omega) hd
      have d0 : d ≠ 0 := by
        intro e
        subst e
        have := Nat.eq_zero_of_zero_dvd hd
        omega
      obtain ⟨p, hp, hpd⟩ := ih d (by omega) (by omega)
      exact ⟨p, hp, Nat.dvd_trans hpd hd⟩
theorem np_cop {p a : Nat} (hp : npP p) (h : ¬ p ∣ a) : Nat.Coprime p a := by
  rcases hp.2 _ (Nat.gcd_dvd_left p a) with h1 | h1
  · exact h1
  · exact absurd (h1 ▸ Nat.gcd_dvd_right p a) h
theorem np_euclid {p a b : Nat} (hp : npP p) (h : p ∣ a * b) : p ∣ a ∨ p ∣ b := by
  by_cases ha : p ∣ a
  · exact Or.inl ha
  · exact Or.inr ((np_cop hp ha).dvd_of_dvd_mul_left h)
theorem np_euclid_pow {p a : Nat} (hp : npP p) : ∀ n, p ∣ a ^ n → p ∣ a
  | 0, h => by
    have := Nat.le_of_dvd (by decide) (Nat.pow_zero a ▸ h)
    have := hp.1
    omega
  | n + 1, h => by
    rw [Nat.pow_succ] at h
    rcases np_euclid hp h with h | h
    · exact np_euclid_pow hp n h
    · exact h
theorem np_eq {p q : Nat} (hp : npP p) (hq : npP q) (h : p ∣ q) : p = q := by
  rcases hq.2 p h with e | e
  · have := hp.1
    omega
  · exact e
-- powers modulo n
theorem np_pow_one {n a : Nat} (h : a % n = 1 % n) (k : Nat) : a ^ k % n = 1 % n := by
  rw [Nat.pow_mod, h, ← Nat.pow_mod, Nat.one_pow]
theorem np_mul_one {n a b : Nat} (h : a % n = 1 % n) : a * b % n = b % n := by
  rw [Nat.mul_mod, h, ← Nat.mul_mod, Nat.one_mul]
theorem np_gcd_pow {n a : Nat} (x y : Nat) : a ^ x % n = 1 % n → a ^ y % n = 1 % n → a ^ (Nat.gcd x y) % n = 1 % n := by
  induction x, y using Nat.gcd.induction with
  | H0 y => intro _ h; rw [Nat.gcd_zero_left]; exact h
  | H1 x y hx ih =>
    intro h1 h2
    rw [Nat.gcd_rec]
    refine ih ?_ h1
    have e : a ^ y = (a ^ x) ^ (y / x) * a ^ (y % x) := by
      rw [← Nat.pow_mul, ← Nat.pow_add, Nat.div_add_mod]
    rw [e] at h2
    rw [← np_mul_one (b := a ^ (y % x)) (np_pow_one h1 (y / x))]
    exact h2
-- lists without repetition
theorem np_perm {α : Type} [DecidableEq α] : ∀ (l1 l2 : List α), l1.Nodup → (∀ x, x ∈ l1 → x ∈ l2) → l2.length ≤ l1.length → List.Perm l1 l2
  | [], l2, _, _, hl => by
    have : l2 = [] := List.eq_nil_of_length_eq_zero (by simpa using hl)
    subst this
    exact List.Perm.refl _
  | x :: t, l2, hn, hs, hl => by
    have hx : x ∈ l2 := hs x List.mem_cons_self
    have hn' := List.nodup_cons.mp hn
    have hp := List.perm_cons_erase hx
    refine List.Perm.trans ?_ hp.symm
    refine List.Perm.cons x (np_perm t (l2.erase x) hn'.2 (fun y hy => ?_) ?_)
    · have hy2 : y ∈ l2 := hs y (List.mem_cons_of_mem _ hy)
      have hne : y ≠ x := fun e => hn'.1 (e ▸ hy)
      exact (List.mem_erase_of_ne hne).mpr hy2
    · rw [List.length_erase_of_mem hx]
      simp at hl
      omega
theorem np_nodup_map {f : Nat → Nat} : ∀ (l : List Nat), l.Nodup → (∀ x, x ∈ l → ∀ y, y ∈ l → f x = f y → x = y) → (l.map f).Nodup
  | [], _, _ => by simp
  | x :: t, hn, hf => by
    have hn' := List.nodup_cons.mp hn
    rw [List.map_cons, List.nodup_cons]
    refine ⟨fun h => ?_, np_nodup_map t hn'.2 (fun a ha b hb => hf a (List.mem_cons_of_mem _ ha) b (List.mem_cons_of_mem _ hb))⟩
    obtain ⟨y, hy, e⟩ := List.mem_map.mp h
    have := hf y (List.mem_cons_of_mem _ hy) x List.mem_cons_self e
    exact hn'.1 (this ▸ hy)
theorem np_prod_mod (p a : Nat) : ∀ l : List Nat, (l.map (fun x => a * x % p)).prod % p = (a ^ l.length * l.prod) % p
  | [] => by simp
  | x :: t => by
    have ih := np_prod_mod p a t
    have e1 : ((x :: t).map (fun x => a * x % p)).prod = (a * x % p) * (t.map (fun x => a * x % p)).prod := by simp
    have e2 : a ^ (x :: t).length * (x :: t).prod = (a * x) * (a ^ t.length * t.prod) := by
      simp only [List.length_cons, List.prod_cons, Nat.pow_succ]
      simp only [Nat.mul_comm, Nat.mul_left_comm, Nat.mul_assoc]
    rw [e1, e2, Nat.mul_mod, ih, Nat.mod_mod, ← Nat.mul_mod]
theorem np_prod_cop {p : Nat} (hp : npP p) : ∀ l : List Nat, (∀ x, x ∈ l → 0 < x ∧ x < p) → Nat.Coprime p l.prod
  | [], _ => by simp
  | x :: t, h => by
    rw [List.prod_cons]
    refine Nat.Coprime.mul_right (np_cop hp (fun hd => ?_)) (np_prod_cop hp t (fun y hy => h y (List.mem_cons_of_mem _ hy)))
    have h1 := h x List.mem_cons_self
    have := Nat.le_of_dvd h1.1 hd
    omega
theorem np_fermat {p a : Nat} (hp : npP p) (ha : ¬ p ∣ a) : a ^ (p - 1) % p = 1 % p := by
  have hp2 := hp.1
  have hca := np_cop hp ha
  have hin : ∀ x, x ∈ List.range' 1 (p - 1) ↔ (0 < x ∧ x < p) := by
    intro x
    rw [List.mem_range'_1]
    omega
  have hnd : ((List.range' 1 (p - 1)).map (fun x => a * x % p)).Nodup := by
    refine np_nodup_map _ List.nodup_range' (fun x hx y hy e => ?_)
    have h1 := (hin x).mp hx
    have h2 := (hin y).mp hy
    have h3 := np_cancel hca e
    rw [Nat.mod_eq_of_lt h1.2, Nat.mod_eq_of_lt h2.2] at h3
    exact h3
  have hperm : List.Perm ((List.range' 1 (p - 1)).map (fun x => a * x % p)) (List.range' 1 (p - 1)) := by
    refine np_perm _ _ hnd (fun z hz => ?_) (by simp)
    obtain ⟨x, hx, rfl⟩ := List.mem_map.mp hz
    have h1 := (hin x).mp hx
    refine (hin _).mpr ⟨?_, Nat.mod_lt _ (by omega)⟩
    apply Nat.pos_of_ne_zero
    intro e
    rcases np_euclid hp (Nat.dvd_of_mod_eq_zero e) with h | h
    · exact ha h
    · have := Nat.le_of_dvd h1.1 h
      omega
  have h1 := np_prod_mod p a (List.range' 1 (p - 1))
  rw [hperm.prod_nat] at h1
  have hlen : (List.range' 1 (p - 1)).length = p - 1 := by simp
  rw [hlen] at h1
  have hc := np_prod_cop hp (List.range' 1 (p - 1)) (fun x hx => (hin x).mp hx)
  refine np_cancel hc ?_
  rw [Nat.mul_one, Nat.mul_comm]
  exact h1.symm
-- a prime power that the powers of a show, in q - 1
theorem np_part {N q p e a : Nat} (hq : npP q) (hqN : q ∣ N) (hp : npP p) (he : p ^ e ∣ N - 1) (hpN : p ∣ N - 1)
    (h1 : a ^ (N - 1) % N = 1 % N) (h2 : ∀ d, d ∣ N → a ^ ((N - 1) / p) % d = 1 % d → d = 1) : p ^ e ∣ q - 1 := by
  have hq2 := hq.1
  have hp2 := hp.1
  have hmodq : ∀ x y : Nat, x % N = y % N → x % q = y % q := by
    intro x y h
    rw [← Nat.mod_mod_of_dvd x hqN, ← Nat.mod_mod_of_dvd y hqN, h]
  have h1q : a ^ (N - 1) % q = 1 % q := hmodq _ _ h1
  by_cases hN : N - 1 = 0
  · -- then the power is a ^ 0
    exfalso
    have hd := h2 q hqN (by rw [hN]; simp)
    omega
  have hqa : ¬ q ∣ a := by
    intro h
    have h3 : q ∣ a ^ (N - 1) := Nat.dvd_trans h (Nat.dvd_trans (by rw [Nat.pow_one]; exact Nat.dvd_refl a) (Nat.pow_dvd_pow a (show 1 ≤ N - 1 by omega)))
    rw [Nat.mod_eq_zero_of_dvd h3, Nat.mod_eq_of_lt (by omega)] at h1q
    omega
  have hf := np_fermat hq hqa
  have hg := np_gcd_pow (N - 1) (q - 1) h1q hf
  obtain ⟨t, ht⟩ := Nat.gcd_dvd_left (N - 1) (q - 1)
  have hgq := Nat.gcd_dvd_right (N - 1) (q - 1)
  generalize hG : Nat.gcd (N - 1) (q - 1) = g at hg ht hgq
  by_cases hpt : p ∣ t
  · exfalso
    obtain ⟨k, hk⟩ := hpt
    have e1 : (N - 1) / p = g * k := by
      rw [ht, hk, ← Nat.mul_assoc, Nat.mul_comm g p, Nat.mul_assoc, Nat.mul_div_cancel_left _ (by omega)]
    have h3 : a ^ ((N - 1) / p) % q = 1 % q := by
      rw [e1, Nat.pow_mul]
      exact np_pow_one hg k
    have := h2 q hqN h3
    omega
  · have hc : Nat.Coprime (p ^ e) t := Nat.Coprime.pow_left e (np_cop hp hpt)
    rw [ht] at he
    exact Nat.dvd_trans (hc.dvd_of_dvd_mul_right he) hgq
/-- the product of the powers p ^ e of a list -/
def npM : List (Nat × Nat) → Nat
  | [] => 1
  | (p, e) :: r => p ^ e * npM r
/-- primes that go up -/
def npUp : List (Nat × Nat) → Prop
  | [] => True
  | (p, _) :: r => npP p ∧ (∀ q, q ∈ r → p < q.1) ∧ npUp r
theorem npUp_prime : ∀ {l : List (Nat × Nat)}, npUp l → ∀ q, q ∈ l → npP q.1
  | [], _, q, hq => by cases hq
  | (p, e) :: r, h, q, hq => by
    rcases List.mem_cons.mp hq with rfl | hq
    · exact h.1
    · exact npUp_prime h.2.2 q hq
theorem npM_dvd : ∀ {l : List (Nat × Nat)} (q : Nat × Nat), q ∈ l → q.1 ^ q.2 ∣ npM l
  | [], q, hq => by cases hq
  | (p, e) :: r, q, hq => by
    rcases List.mem_cons.mp hq with rfl | hq
    · exact Nat.dvd_mul_right _ _
    · exact Nat.dvd_trans (npM_dvd q hq) (Nat.dvd_mul_left _ _)
theorem npM_prime {p : Nat} (hp : npP p) : ∀ {l : List (Nat × Nat)}, (∀ q, q ∈ l → npP q.1) → p ∣ npM l → ∃ q, q ∈ l ∧ q.1 = p
  | [], _, h => by
    have := Nat.le_of_dvd (by decide) h
    have := hp.1
    simp [npM] at *
    omega
  | (a, e) :: r, hl, h => by
    rcases np_euclid hp h with h | h
    · have h2 := np_euclid_pow hp e h
      exact ⟨(a, e), List.mem_cons_self, (np_eq hp (hl _ List.mem_cons_self) h2).symm⟩
    · obtain ⟨q, hq, e2⟩ := npM_prime hp (fun q hq => hl q (List.mem_cons_of_mem _ hq)) h
      exact ⟨q, List.mem_cons_of_mem _ hq, e2⟩
theorem npM_all {d : Nat} : ∀ {l : List (Nat × Nat)}, npUp l → (∀ q, q ∈ l → q.1 ^ q.2 ∣ d) → npM l ∣ d
  | [], _, _ => Nat.one_dvd d
  | (p, e) :: r, h, hd => by
    refine Nat.Coprime.mul_dvd_of_dvd_of_dvd ?_ (hd _ List.mem_cons_self) (npM_all h.2.2 (fun q hq => hd q (List.mem_cons_of_mem _ hq)))
    refine Nat.Coprime.pow_left e (np_cop h.1 (fun hx => ?_))
    obtain ⟨q, hq, e2⟩ := npM_prime h.1 (npUp_prime h.2.2) hx
    have := h.2.1 q hq
    omega
theorem np_least {N : Nat} (hN : 2 ≤ N) (hn : ¬ npP N) : ∃ q, npP q ∧ q ∣ N ∧ q * q ≤ N := by
  have h1 : ∃ d, d ∣ N ∧ d ≠ 1 ∧ d ≠ N := by
    apply Classical.byContradiction
    intro h
    apply hn
    refine ⟨hN, fun d hd => ?_⟩
    by_cases a : d = 1
    · exact Or.inl a
    · by_cases b : d = N
      · exact Or.inr b
      · exact absurd ⟨d, hd, a, b⟩ h
  obtain ⟨d, ⟨c, hc⟩, d1, d2⟩ := h1
  have hd0 : d ≠ 0 := by intro e; subst e; omega
  have hc0 : c ≠ 0 := by intro e; subst e; omega
  have hc1 : c ≠ 1 := by intro e; subst e; omega
  have key : ∀ x y : Nat, 2 ≤ x → x ≤ y → N = x * y → ∃ q, npP q ∧ q ∣ N ∧ q * q ≤ N := by
    intro x y hx hxy e
    obtain ⟨q, hq, hqx⟩ := np_factor x hx
    have hle := Nat.le_of_dvd (by omega) hqx
    refine ⟨q, hq, Nat.dvd_trans hqx ⟨y, e⟩, ?_⟩
    rw [e]
    exact Nat.mul_le_mul hle (Nat.le_trans hle hxy)
  rcases Nat.le_total d c with h | h
  · exact key d c (by omega) h hc
  · exact key c d (by omega) h (by rw [hc, Nat.mul_comm])
/-- Pocklington: F, the product of powers of primes, divides N - 1, F * F is above N, and each prime has a witness -/
theorem np_pock {N : Nat} (hN : 2 ≤ N) {l : List (Nat × Nat)} (hl : npUp l) (hpos : ∀ q, q ∈ l → 0 < q.2) (hF : npM l ∣ N - 1) (hF2 : N < npM l * npM l)
    (hw : ∀ q, q ∈ l → ∃ a, a ^ (N - 1) % N = 1 % N ∧ ∀ d, d ∣ N → a ^ ((N - 1) / q.1) % d = 1 % d → d = 1) : npP N := by
  apply Classical.byContradiction
  intro hn
  obtain ⟨q, hq, hqN, hqq⟩ := np_least hN hn
  have h1 : npM l ∣ q - 1 := by
    refine npM_all hl (fun x hx => ?_)
    obtain ⟨a, h1, h2⟩ := hw x hx
    have hx1 : x.1 ∣ x.1 ^ x.2 := by
      have := Nat.pow_dvd_pow x.1 (show 1 ≤ x.2 from hpos x hx)
      rwa [Nat.pow_one] at this
    exact np_part hq hqN (npUp_prime hl x hx) (Nat.dvd_trans (npM_dvd x hx) hF) (Nat.dvd_trans hx1 (Nat.dvd_trans (npM_dvd x hx) hF)) h1 h2
  have hq2 := hq.1
  have h2 := Nat.le_of_dvd (by omega) h1
  have h3 : npM l * npM l ≤ q * q := Nat.mul_le_mul (by omega) (by omega)
  omega
/-- Lucas: the powers of a come back to 1 at N - 1, and at no (N - 1) / p -/
theorem np_lucas {N a : Nat} (hN : 2 ≤ N) (h1 : a ^ (N - 1) % N = 1 % N) (h2 : ∀ p, npP p → p ∣ N - 1 → a ^ ((N - 1) / p) % N ≠ 1 % N) : npP N := by
  have hno : ∀ k, 0 < k → k < N - 1 → a ^ k % N ≠ 1 % N := by
    intro k hk hk2 hk3
    have hg := np_gcd_pow k (N - 1) hk3 h1
    obtain ⟨t, ht⟩ := Nat.gcd_dvd_right k (N - 1)
    have hgk := Nat.le_of_dvd hk (Nat.gcd_dvd_left k (N - 1))
    generalize Nat.gcd k (N - 1) = g at hg ht hgk
    have ht2 : 2 ≤ t := by
      rcases Nat.lt_or_ge t 2 with h | h
      · exfalso
        have : g * t ≤ g * 1 := Nat.mul_le_mul_left g (by omega)
        omega
      · exact h
    obtain ⟨p, hp, s, hs⟩ := np_factor t ht2
    have hp2 := hp.1
    have e1 : (N - 1) / p = g * s := by
      rw [ht, hs, ← Nat.mul_assoc, Nat.mul_comm g p, Nat.mul_assoc, Nat.mul_div_cancel_left _ (by omega)]
    refine h2 p hp ⟨g * s, ?_⟩ ?_
    · rw [ht, hs, ← Nat.mul_assoc, Nat.mul_comm g p, Nat.mul_assoc]
    · rw [e1, Nat.pow_mul]
      exact np_pow_one hg s
  have hca : ∀ k, Nat.Coprime N (a ^ k) := by
    intro k
    refine Nat.Coprime.pow_right k ?_
    rcases Nat.lt_or_ge (N - 1) 1 with h | h
    · omega
    · apply Classical.byContradiction
      intro hc
      have hd1 := Nat.gcd_dvd_left N a
      have hd2 := Nat.gcd_dvd_right N a
      have hg0 : Nat.gcd N a ≠ 1 := hc
      generalize Nat.gcd N a = g at hd1 hd2 hg0
      have h3 : g ∣ a ^ (N - 1) := Nat.dvd_trans hd2 (by have := Nat.pow_dvd_pow a h; rwa [Nat.pow_one] at this)
      have h4 : g ∣ a ^ (N - 1) % N := (Nat.dvd_mod_iff hd1).mpr h3
      rw [h1, Nat.mod_eq_of_lt (by omega)] at h4
      exact hg0 (Nat.dvd_one.mp h4)
  have hnd : ((List.range (N - 1)).map (fun k => a ^ k % N)).Nodup := by
    refine np_nodup_map _ List.nodup_range ?_
    have key : ∀ x y, x < y → y < N - 1 → a ^ x % N = a ^ y % N → False := by
      intro x y hxy hy e
      have e2 : a ^ y = a ^ x * a ^ (y - x) := by rw [← Nat.pow_add]; congr 1; omega
      rw [e2] at e
      have e3 : (a ^ x * 1) % N = (a ^ x * a ^ (y - x)) % N := by rw [Nat.mul_one]; exact e
      exact hno (y - x) (by omega) (by omega) (np_cancel (hca x) e3).symm
    intro x hx y hy e
    rw [List.mem_range] at hx hy
    rcases Nat.lt_trichotomy x y with h | h | h
    · exact (key x y h hy e).elim
    · exact h
    · exact (key y x h hx e.symm).elim
  have hperm : List.Perm ((List.range (N - 1)).map (fun k => a ^ k % N)) (List.range' 1 (N - 1)) := by
    refine np_perm _ _ hnd (fun z hz => ?_) (by simp)
    obtain ⟨k, hk, rfl⟩ := List.mem_map.mp hz
    rw [List.mem_range'_1]
    have hlt := Nat.mod_lt (a ^ k) (show 0 < N by omega)
    refine ⟨?_, by omega⟩
    apply Nat.pos_of_ne_zero
    intro e
    have h3 : N ∣ a ^ k := Nat.dvd_of_mod_eq_zero e
    have := (hca k).eq_one_of_dvd h3
    omega
  refine ⟨hN, fun d hd => ?_⟩
  by_cases hdN : d = N
  · exact Or.inr hdN
  · left
    have hd1 := Nat.le_of_dvd (by omega) hd
    have hd0 : d ≠ 0 := by
      intro e
      subst e
      have := Nat.eq_zero_of_zero_dvd hd
      omega
    have hm : d ∈ List.range' 1 (N - 1) := by rw [List.mem_range'_1]; omega
    obtain ⟨k, hk, e⟩ := List.mem_map.mp (hperm.mem_iff.mpr hm)
    have h3 : d ∣ a ^ k := by
      have h4 : d ∣ a ^ k % N := e ▸ Nat.dvd_refl _
      exact (Nat.dvd_mod_iff hd).mp h4
    have hc := hca k
    exact Nat.Coprime.eq_one_of_dvd (Nat.Coprime.coprime_dvd_left hd hc) h3
end
section
/-! numbers written with digits: pv B d n, the value of the n lowest digits d to the base B -/
def pv (B : Nat) (d : Nat → Nat) : Nat → Nat
  | 0 => 0
  | n + 1 => pv B d n + d n * B ^ n
theorem pv_0 (B : Nat) (d : Nat → Nat) : pv B d 0 = 0 := rfl
theorem pv_s (B : Nat) (d : Nat → Nat) (n : Nat) : pv B d (n + 1) = pv B d n + d n * B ^ n := rfl
theorem pv_congr {B : Nat} {d e : Nat → Nat} : ∀ {n : Nat}, (∀ i, i < n → d i = e i) → pv B d n = pv B e n
  | 0, _ => rfl
  | n + 1, h => by
    rw [pv_s, pv_s, pv_congr (fun i hi => h i (by omega)), h n (by omega)]
theorem pv_lt {B : Nat} {d : Nat → Nat} : ∀ {n : Nat}, (∀ i, i < n → d i < B) → pv B d n < B ^ n
  | 0, _ => by simp [pv]
  | n + 1, h => by
    have ih := pv_lt (n := n) (fun i hi => h i (by omega))
    have hn := h n (by omega)
    rw [pv_s, Nat.pow_succ]
    have h2 : (d n + 1) * B ^ n ≤ B * B ^ n := Nat.mul_le_mul_right _ hn
    rw [Nat.add_mul, Nat.one_mul] at h2
    rw [Nat.mul_comm (B ^ n) B]
    omega
theorem pv_add (B : Nat) (d : Nat → Nat) (m : Nat) : ∀ n : Nat, pv B d (m + n) = pv B d m + B ^ m * pv B (fun i => d (m + i)) n
  | 0 => by simp [pv]
  | n + 1 => by
    rw [← Nat.add_assoc, pv_s, pv_add B d m n, pv_s, Nat.mul_add, Nat.pow_add]
    simp only [Nat.mul_comm, Nat.mul_left_comm, Nat.mul_assoc, Nat.add_assoc]
theorem pv_zeros {B : Nat} {d : Nat → Nat} : ∀ {n : Nat}, (∀ i, i < n → d i = 0) → pv B d n = 0
  | 0, _ => rfl
  | n + 1, h => by rw [pv_s, pv_zeros (fun i hi => h i (by omega)), h n (by omega)]; simp
theorem pv_ext {B : Nat} {d : Nat → Nat} {m n : Nat} (hmn : m ≤ n) (h : ∀ i, m ≤ i → i < n → d i = 0) : pv B d n = pv B d m := by
  obtain ⟨k, rfl⟩ := Nat.exists_eq_add_of_le hmn
  rw [pv_add, pv_zeros (fun i hi => h (m + i) (by omega) (by omega))]
  simp
theorem pv_le {B : Nat} {d : Nat → Nat} {m n : Nat} (hmn : m ≤ n) : pv B d m ≤ pv B d n := by
  obtain ⟨k, rfl⟩ := Nat.exists_eq_add_of_le hmn
  rw [pv_add]
  omega
theorem pv_ge {B : Nat} {d : Nat → Nat} {k n : Nat} (hk : k < n) : d k * B ^ k ≤ pv B d n := by
  have h := pv_le (B := B) (d := d) (show k + 1 ≤ n from hk)
  rw [pv_s] at h
  omega
theorem pv_eq0 {B : Nat} (hB : 0 < B) {d : Nat → Nat} {n : Nat} (h : pv B d n = 0) : ∀ i, i < n → d i = 0 := by
  intro i hi
  have h1 := pv_ge (B := B) (d := d) hi
  rw [h] at h1
  have h2 : 0 < B ^ i := Nat.pow_pos hB
  rcases Nat.eq_zero_or_pos (d i) with h3 | h3
  · exact h3
  · have := Nat.mul_pos h3 h2
    omega
/-- the highest digit in which two numbers differ decides -/
theorem pv_lex {B : Nat} {d e : Nat → Nat} {k n : Nat} (hk : k < n) (hd : ∀ i, i < n → d i < B) (hs : ∀ i, k < i → i < n → d i = e i) (hlt : d k < e k) : pv B d n < pv B e n := by
  obtain ⟨m, rfl⟩ := Nat.exists_eq_add_of_le (show k + 1 ≤ n from hk)
  rw [pv_add, pv_add B e]
  have h1 : pv B (fun i => d (k + 1 + i)) m = pv B (fun i => e (k + 1 + i)) m := pv_congr (fun i hi => hs _ (by omega) (by omega))
  rw [h1]
  have h2 := pv_lt (B := B) (d := d) (n := k) (fun i hi => hd i (by omega))
  have h3 : (d k + 1) * B ^ k ≤ e k * B ^ k := Nat.mul_le_mul_right _ hlt
  rw [Nat.add_mul, Nat.one_mul] at h3
  rw [pv_s, pv_s]
  omega
theorem pv_inj {B : Nat} {d e : Nat → Nat} : ∀ {n : Nat}, (∀ i, i < n → d i < B) → (∀ i, i < n → e i < B) → pv B d n = pv B e n → ∀ i, i < n → d i = e i
  | 0, _, _, _, i, hi => by omega
  | n + 1, hd, he, h, i, hi => by
    have top : d n = e n := by
      rcases Nat.lt_trichotomy (d n) (e n) with h1 | h1 | h1
      · have := pv_lex (B := B) (k := n) (n := n + 1) (by omega) hd (fun i h2 h3 => by omega) h1
        omega
      · exact h1
      · have := pv_lex (B := B) (k := n) (n := n + 1) (by omega) he (fun i h2 h3 => by omega) h1
        omega
    rw [pv_s, pv_s, top] at h
    rcases Nat.lt_or_ge i n with h1 | h1
    · exact pv_inj (n := n) (fun i hi => hd i (by omega)) (fun i hi => he i (by omega)) (by omega) i h1
    · have : i = n := by omega
      rw [this]
      exact top
/-- one digit changed -/
theorem pv_up {B : Nat} {d : Nat → Nat} {k x : Nat} {n : Nat} (hk : n ≤ k) : pv B (fun i => if i = k then x else d i) n = pv B d n := pv_congr (fun i hi => if_neg (by omega))
/-- digits of a number -/
def dgt (B v i : Nat) : Nat := v / B ^ i % B
theorem pv_dgt {B : Nat} (v : Nat) : ∀ n : Nat, pv B (dgt B v) n = v % B ^ n
  | 0 => by simp [pv, Nat.mod_one]
  | n + 1 => by
    rw [pv_s, pv_dgt v n, Nat.mod_pow_succ, dgt, Nat.mul_comm]
end
section
theorem i_vc : Claimed_1_1 ∧ Claimed_1_2 := sorry
end
