/-! decode rows, a checked list a method -/
def dlJ9_max_7cf53 : List (Nat × Instr × Nat) := [(0, .iload_n 0, 1), (1, .iload_n 1, 1), (2, .if_icmp .lt 7, 3), (5, .iload_n 0, 1), (6, .goto 4, 3), (9, .iload_n 1, 1), (10, .ireturn, 1)]
theorem dkJ9_max_7cf53 : ∀ q ∈ dlJ9_max_7cf53, decode cJ9_max_7cf53 q.1 = .ok (q.2.1, q.2.2) := by decide +kernel
theorem dJ9_max_7cf53 (i : Nat) {pc n : Nat} {ins : Instr} (h : dlJ9_max_7cf53[i]? = some (pc, ins, n)) : decode cJ9_max_7cf53 pc = .ok (ins, n) := dcs_at dkJ9_max_7cf53 i h
def dlJ9_min_7cf53 : List (Nat × Instr × Nat) := [(0, .iload_n 0, 1), (1, .iload_n 1, 1), (2, .if_icmp .gt 7, 3), (5, .iload_n 0, 1), (6, .goto 4, 3), (9, .iload_n 1, 1), (10, .ireturn, 1)]
theorem dkJ9_min_7cf53 : ∀ q ∈ dlJ9_min_7cf53, decode cJ9_min_7cf53 q.1 = .ok (q.2.1, q.2.2) := by decide +kernel
theorem dJ9_min_7cf53 (i : Nat) {pc n : Nat} {ins : Instr} (h : dlJ9_min_7cf53[i]? = some (pc, ins, n)) : decode cJ9_min_7cf53 pc = .ok (ins, n) := dcs_at dkJ9_min_7cf53 i h
def dlJ0_length_8abf5 : List (Nat × Instr × Nat) := [(0, .aload_n 0, 1), (1, .getfield 9, 3), (4, .arraylength, 1), (5, .aload_n 0, 1), (6, .invokevirtual 335, 3), (9, .ishr, 1), (10, .ireturn, 1)]
theorem dkJ0_length_8abf5 : ∀ q ∈ dlJ0_length_8abf5, decode cJ0_length_8abf5 q.1 = .ok (q.2.1, q.2.2) := by decide +kernel
theorem dJ0_length_8abf5 (i : Nat) {pc n : Nat} {ins : Instr} (h : dlJ0_length_8abf5[i]? = some (pc, ins, n)) : decode cJ0_length_8abf5 pc = .ok (ins, n) := dcs_at dkJ0_length_8abf5 i h
def dlJ0_charAt_5068e : List (Nat × Instr × Nat) := [(0, .aload_n 0, 1), (1, .invokevirtual 492, 3), (4, .ifCond .eq 12, 3), (7, .aload_n 0, 1), (8, .getfield 9, 3), (11, .iload_n 1, 1), (12, .invokestatic 495, 3), (15, .ireturn, 1), (16, .aload_n 0, 1), (17, .getfield 9, 3), (20, .iload_n 1, 1), (21, .invokestatic 498, 3), (24, .ireturn, 1)]
theorem dkJ0_charAt_5068e : ∀ q ∈ dlJ0_charAt_5068e, decode cJ0_charAt_5068e q.1 = .ok (q.2.1, q.2.2) := by decide +kernel
theorem dJ0_charAt_5068e (i : Nat) {pc n : Nat} {ins : Instr} (h : dlJ0_charAt_5068e[i]? = some (pc, ins, n)) : decode cJ0_charAt_5068e pc = .ok (ins, n) := dcs_at dkJ0_charAt_5068e i h
def dlJ0_coder_7d493 : List (Nat × Instr × Nat) := [(0, .getstatic 38, 3), (3, .ifCond .eq 10, 3), (6, .aload_n 0, 1), (7, .getfield 15, 3), (10, .goto 4, 3), (13, .iconst 1, 1), (14, .ireturn, 1)]
theorem dkJ0_coder_7d493 : ∀ q ∈ dlJ0_coder_7d493, decode cJ0_coder_7d493 q.1 = .ok (q.2.1, q.2.2) := by decide +kernel
theorem dJ0_coder_7d493 (i : Nat) {pc n : Nat} {ins : Instr} (h : dlJ0_coder_7d493[i]? = some (pc, ins, n)) : decode cJ0_coder_7d493 pc = .ok (ins, n) := dcs_at dkJ0_coder_7d493 i h
def dlJ0_isLatin1_aae02 : List (Nat × Instr × Nat) := [(0, .getstatic 38, 3), (3, .ifCond .eq 14, 3), (6, .aload_n 0, 1), (7, .getfield 15, 3), (10, .ifCond .ne 7, 3), (13, .iconst 1, 1), (14, .goto 4, 3), (17, .iconst 0, 1), (18, .ireturn, 1)]
theorem dkJ0_isLatin1_aae02 : ∀ q ∈ dlJ0_isLatin1_aae02, decode cJ0_isLatin1_aae02 q.1 = .ok (q.2.1, q.2.2) := by decide +kernel
theorem dJ0_isLatin1_aae02 (i : Nat) {pc n : Nat} {ins : Instr} (h : dlJ0_isLatin1_aae02[i]? = some (pc, ins, n)) : decode cJ0_isLatin1_aae02 pc = .ok (ins, n) := dcs_at dkJ0_isLatin1_aae02 i h
def dlJ0_checkIndex_df160 : List (Nat × Instr × Nat) := [(0, .iload_n 0, 1), (1, .iload_n 1, 1), (2, .getstatic 1053, 3), (5, .invokestatic 1059, 3), (8, .pop, 1), (9, .return_, 1)]
theorem dkJ0_checkIndex_df160 : ∀ q ∈ dlJ0_checkIndex_df160, decode cJ0_checkIndex_df160 q.1 = .ok (q.2.1, q.2.2) := by decide +kernel
theorem dJ0_checkIndex_df160 (i : Nat) {pc n : Nat} {ins : Instr} (h : dlJ0_checkIndex_df160[i]? = some (pc, ins, n)) : decode cJ0_checkIndex_df160 pc = .ok (ins, n) := dcs_at dkJ0_checkIndex_df160 i h
def dlJ1_charAt_3b067 : List (Nat × Instr × Nat) := [(0, .iload_n 1, 1), (1, .aload_n 0, 1), (2, .arraylength, 1), (3, .invokestatic 9, 3), (6, .aload_n 0, 1), (7, .iload_n 1, 1), (8, .baload, 1), (9, .sipush 255, 3), (12, .iand, 1), (13, .i2c, 1), (14, .ireturn, 1)]
theorem dkJ1_charAt_3b067 : ∀ q ∈ dlJ1_charAt_3b067, decode cJ1_charAt_3b067 q.1 = .ok (q.2.1, q.2.2) := by decide +kernel
theorem dJ1_charAt_3b067 (i : Nat) {pc n : Nat} {ins : Instr} (h : dlJ1_charAt_3b067[i]? = some (pc, ins, n)) : decode cJ1_charAt_3b067 pc = .ok (ins, n) := dcs_at dkJ1_charAt_3b067 i h
def dlJ2_getChar_3b067 : List (Nat × Instr × Nat) := [(0, .getstatic 44, 3), (3, .ifCond .ne 25, 3), (6, .iload_n 1, 1), (7, .ifCond .lt 11, 3), (10, .iload_n 1, 1), (11, .aload_n 0, 1), (12, .invokestatic 48, 3), (15, .if_icmp .lt 13, 3), (18, .new 52, 3), (21, .dup, 1), (22, .ldc 54, 2), (24, .invokespecial 56, 3), (27, .athrow, 1), (28, .iload_n 1, 1), (29, .iconst 1, 1), (30, .ishl, 1), (31, .istore_n 1, 1), (32, .aload_n 0, 1), (33, .iload_n 1, 1), (34, .iinc 1 1, 3), (37, .baload, 1), (38, .sipush 255, 3), (41, .iand, 1), (42, .getstatic 59, 3), (45, .ishl, 1), (46, .aload_n 0, 1), (47, .iload_n 1, 1), (48, .baload, 1), (49, .sipush 255, 3), (52, .iand, 1), (53, .getstatic 63, 3), (56, .ishl, 1), (57, .ior, 1), (58, .i2c, 1), (59, .ireturn, 1)]
theorem dkJ2_getChar_3b067 : ∀ q ∈ dlJ2_getChar_3b067, decode cJ2_getChar_3b067 q.1 = .ok (q.2.1, q.2.2) := by decide +kernel
theorem dJ2_getChar_3b067 (i : Nat) {pc n : Nat} {ins : Instr} (h : dlJ2_getChar_3b067[i]? = some (pc, ins, n)) : decode cJ2_getChar_3b067 pc = .ok (ins, n) := dcs_at dkJ2_getChar_3b067 i h
def dlJ2_length_9d52b : List (Nat × Instr × Nat) := [(0, .aload_n 0, 1), (1, .arraylength, 1), (2, .iconst 1, 1), (3, .ishr, 1), (4, .ireturn, 1)]
theorem dkJ2_length_9d52b : ∀ q ∈ dlJ2_length_9d52b, decode cJ2_length_9d52b q.1 = .ok (q.2.1, q.2.2) := by decide +kernel
theorem dJ2_length_9d52b (i : Nat) {pc n : Nat} {ins : Instr} (h : dlJ2_length_9d52b[i]? = some (pc, ins, n)) : decode cJ2_length_9d52b pc = .ok (ins, n) := dcs_at dkJ2_length_9d52b i h
def dlJ2_charAt_3b067 : List (Nat × Instr × Nat) := [(0, .iload_n 1, 1), (1, .aload_n 0, 1), (2, .invokestatic 67, 3), (5, .aload_n 0, 1), (6, .iload_n 1, 1), (7, .invokestatic 71, 3), (10, .ireturn, 1)]
theorem dkJ2_charAt_3b067 : ∀ q ∈ dlJ2_charAt_3b067, decode cJ2_charAt_3b067 q.1 = .ok (q.2.1, q.2.2) := by decide +kernel
theorem dJ2_charAt_3b067 (i : Nat) {pc n : Nat} {ins : Instr} (h : dlJ2_charAt_3b067[i]? = some (pc, ins, n)) : decode cJ2_charAt_3b067 pc = .ok (ins, n) := dcs_at dkJ2_charAt_3b067 i h
def dlJ2_checkIndex_2214a : List (Nat × Instr × Nat) := [(0, .iload_n 0, 1), (1, .aload_n 1, 1), (2, .invokestatic 48, 3), (5, .invokestatic 414, 3), (8, .return_, 1)]
theorem dkJ2_checkIndex_2214a : ∀ q ∈ dlJ2_checkIndex_2214a, decode cJ2_checkIndex_2214a q.1 = .ok (q.2.1, q.2.2) := by decide +kernel
theorem dJ2_checkIndex_2214a (i : Nat) {pc n : Nat} {ins : Instr} (h : dlJ2_checkIndex_2214a[i]? = some (pc, ins, n)) : decode cJ2_checkIndex_2214a pc = .ok (ins, n) := dcs_at dkJ2_checkIndex_2214a i h
def dlJ3_checkIndex_8e157 : List (Nat × Instr × Nat) := [(0, .iload_n 0, 1), (1, .ifCond .lt 8, 3), (4, .iload_n 0, 1), (5, .iload_n 1, 1), (6, .if_icmp .lt 10, 3), (9, .aload_n 2, 1), (10, .iload_n 0, 1), (11, .iload_n 1, 1), (12, .invokestatic 95, 3), (15, .athrow, 1), (16, .iload_n 0, 1), (17, .ireturn, 1)]
theorem dkJ3_checkIndex_8e157 : ∀ q ∈ dlJ3_checkIndex_8e157, decode cJ3_checkIndex_8e157 q.1 = .ok (q.2.1, q.2.2) := by decide +kernel
theorem dJ3_checkIndex_8e157 (i : Nat) {pc n : Nat} {ins : Instr} (h : dlJ3_checkIndex_8e157[i]? = some (pc, ins, n)) : decode cJ3_checkIndex_8e157 pc = .ok (ins, n) := dcs_at dkJ3_checkIndex_8e157 i h
