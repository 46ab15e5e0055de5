/-! tables of the methods, by program (wip/gen_names.py) -/
def SX0 : List ShC := [.inl (0, [none, some 1, some 2, some 3, some 4, some 5, some 6, some 7, none, some 8, some 9, some 10, none, none, none, none, none]), .inr (false, 134), .inr (false, 134), .inr (false, 128), .inr (false, 128), .inr (true, 128), .inr (false, 128), .inr (false, 128), .inr (false, 8), .inr (true, 8), .inr (true, 8)]
def SX1 : List ShC := [.inl (1, [none, some 1, some 2, some 3, some 4, some 5, some 6, some 7, some 8, some 9, some 10, some 11, none, none, none, none, none, none, some 12]), .inr (true, 128), .inr (false, 128), .inr (false, 128), .inr (true, 128), .inr (false, 128), .inr (false, 390), .inr (false, 390), .inr (true, 8), .inr (false, 8), .inr (true, 8), .inr (true, 8), .inr (false, 128)]
def tX0_make : List TbE := [(0, .iload_n 1, 1, []), (1, .invokestatic 72, 4, []), (4, .ifCond .eq 12, 7, [16]), (7, .iload_n 2, 8, []), (8, .ifCond .lt 8, 11, [16]), (11, .iload_n 2, 12, []), (12, .iconst 3, 13, []), (13, .if_icmp .le 5, 16, [18]), (16, .iconst (-1), 17, []), (17, .ireturn, 18, []), (18, .aload_n 0, 19, []), (19, .iload_n 2, 20, []), (20, .iconst 1, 21, []), (21, .iadd, 22, []), (22, .invokevirtual 76, 25, []), (25, .istore 4, 27, []), (27, .iload 4, 29, []), (29, .iconst (-1), 30, []), (30, .if_icmp .ne 6, 33, [36]), (33, .bipush (-3), 35, []), (35, .ireturn, 36, []), (36, .aload_n 0, 37, []), (37, .getfield 16, 40, []), (40, .iload 4, 42, []), (42, .iload_n 3, 43, []), (43, .iastore, 44, []), (44, .aload_n 0, 45, []), (45, .getfield 19, 48, []), (48, .iload 4, 50, []), (50, .iload_n 2, 51, []), (51, .iastore, 52, []), (52, .iload 4, 54, []), (54, .iconst 1, 55, []), (55, .iadd, 56, []), (56, .istore 5, 58, []), (58, .iload 5, 60, []), (60, .iload 4, 62, []), (62, .iload_n 2, 63, []), (63, .iadd, 64, []), (64, .if_icmp .gt 17, 67, [81]), (67, .aload_n 0, 68, []), (68, .getfield 13, 71, []), (71, .iload 5, 73, []), (73, .iconst 0, 74, []), (74, .iastore, 75, []), (75, .iinc 5 1, 78, []), (78, .goto (-20), 81, [58]), (81, .aload_n 0, 82, []), (82, .getfield 9, 85, []), (85, .sipush 128, 88, []), (88, .iload_n 1, 89, []), (89, .iadd, 90, []), (90, .iload 4, 92, []), (92, .iastore, 93, []), (93, .aload_n 0, 94, []), (94, .getfield 13, 97, []), (97, .sipush 128, 100, []), (100, .iload_n 1, 101, []), (101, .iadd, 102, []), (102, .aload_n 0, 103, []), (103, .invokevirtual 80, 106, []), (106, .iastore, 107, []), (107, .iload 4, 109, []), (109, .ireturn, 110, [])]
set_option maxRecDepth 100000 in
theorem tX0_make_ok : tX0_make.all (en_tb cX0_make) = true := by decide +kernel
def flX0_make : List (Nat × Nat) := [(16, 3), (19, 4), (13, 2), (9, 1)]
def fpX0_make : List (Nat × Nat) := []
def tX0_load : List TbE := [(0, .iload_n 1, 1, []), (1, .invokestatic 72, 4, []), (4, .ifCond .ne 5, 7, [9]), (7, .iconst (-1), 8, []), (8, .ireturn, 9, []), (9, .aload_n 0, 10, []), (10, .iload_n 2, 11, []), (11, .iload_n 3, 12, []), (12, .invokevirtual 84, 15, []), (15, .istore 4, 17, []), (17, .iload 4, 19, []), (19, .ifCond .ge 6, 22, [25]), (22, .iload 4, 24, []), (24, .ireturn, 25, []), (25, .aload_n 0, 26, []), (26, .iload 4, 28, []), (28, .invokevirtual 87, 31, []), (31, .aload_n 0, 32, []), (32, .iload 4, 34, []), (34, .sipush 128, 37, []), (37, .iload_n 1, 38, []), (38, .iadd, 39, []), (39, .invokevirtual 91, 42, []), (42, .aload_n 0, 43, []), (43, .iload 4, 45, []), (45, .invokevirtual 95, 48, []), (48, .ifCond .eq 7, 51, [55]), (51, .iconst 0, 52, []), (52, .goto 4, 55, [56]), (55, .iconst 1, 56, []), (56, .ireturn, 57, [])]
set_option maxRecDepth 100000 in
theorem tX0_load_ok : tX0_load.all (en_tb cX0_load) = true := by decide +kernel
def flX0_load : List (Nat × Nat) := []
def fpX0_load : List (Nat × Nat) := []
def tX0_store : List TbE := [(0, .iload_n 3, 1, []), (1, .invokestatic 72, 4, []), (4, .ifCond .ne 5, 7, [9]), (7, .iconst (-1), 8, []), (8, .ireturn, 9, []), (9, .aload_n 0, 10, []), (10, .iload_n 1, 11, []), (11, .iload_n 2, 12, []), (12, .invokevirtual 84, 15, []), (15, .istore 4, 17, []), (17, .iload 4, 19, []), (19, .ifCond .ge 6, 22, [25]), (22, .iload 4, 24, []), (24, .ireturn, 25, []), (25, .aload_n 0, 26, []), (26, .sipush 128, 29, []), (29, .iload_n 3, 30, []), (30, .iadd, 31, []), (31, .iload 4, 33, []), (33, .invokevirtual 91, 36, []), (36, .iconst 0, 37, []), (37, .ireturn, 38, [])]
set_option maxRecDepth 100000 in
theorem tX0_store_ok : tX0_store.all (en_tb cX0_store) = true := by decide +kernel
def flX0_store : List (Nat × Nat) := []
def fpX0_store : List (Nat × Nat) := []
def tX0_copy : List TbE := [(0, .iload_n 1, 1, []), (1, .invokestatic 72, 4, []), (4, .ifCond .eq 10, 7, [14]), (7, .iload_n 2, 8, []), (8, .invokestatic 72, 11, []), (11, .ifCond .ne 5, 14, [16]), (14, .iconst 0, 15, []), (15, .ireturn, 16, []), (16, .aload_n 0, 17, []), (17, .sipush 128, 20, []), (20, .iload_n 2, 21, []), (21, .iadd, 22, []), (22, .sipush 128, 25, []), (25, .iload_n 1, 26, []), (26, .iadd, 27, []), (27, .invokevirtual 91, 30, []), (30, .iconst 1, 31, []), (31, .ireturn, 32, [])]
set_option maxRecDepth 100000 in
theorem tX0_copy_ok : tX0_copy.all (en_tb cX0_copy) = true := by decide +kernel
def flX0_copy : List (Nat × Nat) := []
def fpX0_copy : List (Nat × Nat) := []
def tX0_drop : List TbE := [(0, .iload_n 1, 1, []), (1, .invokestatic 72, 4, []), (4, .ifCond .eq 15, 7, [19]), (7, .aload_n 0, 8, []), (8, .sipush 128, 11, []), (11, .iload_n 1, 12, []), (12, .iadd, 13, []), (13, .invokevirtual 95, 16, []), (16, .ifCond .eq 5, 19, [21]), (19, .iconst 0, 20, []), (20, .ireturn, 21, []), (21, .aload_n 0, 22, []), (22, .getfield 13, 25, []), (25, .sipush 128, 28, []), (28, .iload_n 1, 29, []), (29, .iadd, 30, []), (30, .iconst 0, 31, []), (31, .iastore, 32, []), (32, .iconst 1, 33, []), (33, .ireturn, 34, [])]
set_option maxRecDepth 100000 in
theorem tX0_drop_ok : tX0_drop.all (en_tb cX0_drop) = true := by decide +kernel
def flX0_drop : List (Nat × Nat) := [(13, 2)]
def fpX0_drop : List (Nat × Nat) := []
def tX0_value : List TbE := [(0, .aload_n 0, 1, []), (1, .iload_n 1, 2, []), (2, .invokevirtual 98, 5, []), (5, .istore_n 2, 6, []), (6, .iload_n 2, 7, []), (7, .ifCond .ge 7, 10, [14]), (10, .iconst 0, 11, []), (11, .goto 9, 14, [20]), (14, .aload_n 0, 15, []), (15, .getfield 16, 18, []), (18, .iload_n 2, 19, []), (19, .iaload, 20, []), (20, .ireturn, 21, [])]
set_option maxRecDepth 100000 in
theorem tX0_value_ok : tX0_value.all (en_tb cX0_value) = true := by decide +kernel
def flX0_value : List (Nat × Nat) := [(16, 3)]
def fpX0_value : List (Nat × Nat) := []
def tX0_set : List TbE := [(0, .aload_n 0, 1, []), (1, .iload_n 1, 2, []), (2, .invokevirtual 98, 5, []), (5, .istore_n 3, 6, []), (6, .iload_n 3, 7, []), (7, .ifCond .ge 5, 10, [12]), (10, .iconst 0, 11, []), (11, .ireturn, 12, []), (12, .aload_n 0, 13, []), (13, .getfield 16, 16, []), (16, .iload_n 3, 17, []), (17, .iload_n 2, 18, []), (18, .iastore, 19, []), (19, .iconst 1, 20, []), (20, .ireturn, 21, [])]
set_option maxRecDepth 100000 in
theorem tX0_set_ok : tX0_set.all (en_tb cX0_set) = true := by decide +kernel
def flX0_set : List (Nat × Nat) := [(16, 3)]
def fpX0_set : List (Nat × Nat) := []
def tX0_fields : List TbE := [(0, .aload_n 0, 1, []), (1, .iload_n 1, 2, []), (2, .invokevirtual 98, 5, []), (5, .istore_n 2, 6, []), (6, .iload_n 2, 7, []), (7, .ifCond .ge 7, 10, [14]), (10, .iload_n 2, 11, []), (11, .goto 9, 14, [20]), (14, .aload_n 0, 15, []), (15, .getfield 19, 18, []), (18, .iload_n 2, 19, []), (19, .iaload, 20, []), (20, .ireturn, 21, [])]
set_option maxRecDepth 100000 in
theorem tX0_fields_ok : tX0_fields.all (en_tb cX0_fields) = true := by decide +kernel
def flX0_fields : List (Nat × Nat) := [(19, 4)]
def fpX0_fields : List (Nat × Nat) := []
def tX0_place : List TbE := [(0, .iload_n 1, 1, []), (1, .invokestatic 72, 4, []), (4, .ifCond .ne 5, 7, [9]), (7, .iconst (-1), 8, []), (8, .ireturn, 9, []), (9, .aload_n 0, 10, []), (10, .sipush 128, 13, []), (13, .iload_n 1, 14, []), (14, .iadd, 15, []), (15, .invokevirtual 95, 18, []), (18, .ifCond .eq 8, 21, [26]), (21, .bipush (-2), 23, []), (23, .goto 13, 26, [36]), (26, .aload_n 0, 27, []), (27, .getfield 9, 30, []), (30, .sipush 128, 33, []), (33, .iload_n 1, 34, []), (34, .iadd, 35, []), (35, .iaload, 36, []), (36, .ireturn, 37, [])]
set_option maxRecDepth 100000 in
theorem tX0_place_ok : tX0_place.all (en_tb cX0_place) = true := by decide +kernel
def flX0_place : List (Nat × Nat) := [(9, 1)]
def fpX0_place : List (Nat × Nat) := []
def tX0_colour : List TbE := [(0, .aload_n 0, 1, []), (1, .iload_n 1, 2, []), (2, .iload_n 2, 3, []), (3, .invokevirtual 84, 6, []), (6, .istore_n 3, 7, []), (7, .iload_n 3, 8, []), (8, .ifCond .ge 7, 11, [15]), (11, .iload_n 3, 12, []), (12, .goto 9, 15, [21]), (15, .aload_n 0, 16, []), (16, .getfield 13, 19, []), (19, .iload_n 3, 20, []), (20, .iaload, 21, []), (21, .ireturn, 22, [])]
set_option maxRecDepth 100000 in
theorem tX0_colour_ok : tX0_colour.all (en_tb cX0_colour) = true := by decide +kernel
def flX0_colour : List (Nat × Nat) := [(13, 2)]
def fpX0_colour : List (Nat × Nat) := []
def tX0_behind : List TbE := [(0, .aload_n 0, 1, []), (1, .iload_n 1, 2, []), (2, .iload_n 2, 3, []), (3, .invokevirtual 84, 6, []), (6, .istore_n 3, 7, []), (7, .iload_n 3, 8, []), (8, .ifCond .ge 5, 11, [13]), (11, .iload_n 3, 12, []), (12, .ireturn, 13, []), (13, .aload_n 0, 14, []), (14, .iload_n 3, 15, []), (15, .invokevirtual 95, 18, []), (18, .ifCond .eq 7, 21, [25]), (21, .iconst (-1), 22, []), (22, .goto 9, 25, [31]), (25, .aload_n 0, 26, []), (26, .getfield 9, 29, []), (29, .iload_n 3, 30, []), (30, .iaload, 31, []), (31, .ireturn, 32, [])]
set_option maxRecDepth 100000 in
theorem tX0_behind_ok : tX0_behind.all (en_tb cX0_behind) = true := by decide +kernel
def flX0_behind : List (Nat × Nat) := [(9, 1)]
def fpX0_behind : List (Nat × Nat) := []
def tX0_collect : List TbE := [(0, .iload_n 1, 1, []), (1, .ifCond .lt 9, 4, [10]), (4, .iload_n 1, 5, []), (5, .bipush 100, 7, []), (7, .if_icmp .le 5, 10, [12]), (10, .iconst (-1), 11, []), (11, .ireturn, 12, []), (12, .iconst 0, 13, []), (13, .istore_n 2, 14, []), (14, .iload_n 2, 15, []), (15, .iload_n 1, 16, []), (16, .if_icmp .ge 13, 19, [29]), (19, .aload_n 0, 20, []), (20, .invokevirtual 101, 23, []), (23, .iinc 2 1, 26, []), (26, .goto (-12), 29, [14]), (29, .aload_n 0, 30, []), (30, .getfield 48, 33, []), (33, .ireturn, 34, [])]
set_option maxRecDepth 100000 in
theorem tX0_collect_ok : tX0_collect.all (en_tb cX0_collect) = true := by decide +kernel
def flX0_collect : List (Nat × Nat) := [(48, 13)]
def fpX0_collect : List (Nat × Nat) := []
def tX0_phase : List TbE := [(0, .aload_n 0, 1, []), (1, .getfield 48, 4, []), (4, .ireturn, 5, [])]
set_option maxRecDepth 100000 in
theorem tX0_phase_ok : tX0_phase.all (en_tb cX0_phase) = true := by decide +kernel
def flX0_phase : List (Nat × Nat) := [(48, 13)]
def fpX0_phase : List (Nat × Nat) := []
def tX0_stack : List TbE := [(0, .aload_n 0, 1, []), (1, .getfield 32, 4, []), (4, .ireturn, 5, [])]
set_option maxRecDepth 100000 in
theorem tX0_stack_ok : tX0_stack.all (en_tb cX0_stack) = true := by decide +kernel
def flX0_stack : List (Nat × Nat) := [(32, 8)]
def fpX0_stack : List (Nat × Nat) := []
def tX0_page : List TbE := [(0, .iload_n 1, 1, []), (1, .ifCond .lt 9, 4, [10]), (4, .iload_n 1, 5, []), (5, .bipush 8, 7, []), (7, .if_icmp .lt 5, 10, [12]), (10, .iconst (-1), 11, []), (11, .ireturn, 12, []), (12, .iload_n 2, 13, []), (13, .tableswitch 75 0 4 #[35, 41, 48, 54, 69], 48, [88, 48, 54, 61, 67, 82]), (48, .aload_n 0, 49, []), (49, .iload_n 1, 50, []), (50, .invokevirtual 104, 53, []), (53, .ireturn, 54, []), (54, .aload_n 0, 55, []), (55, .getfield 36, 58, []), (58, .iload_n 1, 59, []), (59, .iaload, 60, []), (60, .ireturn, 61, []), (61, .aload_n 0, 62, []), (62, .iload_n 1, 63, []), (63, .invokevirtual 107, 66, []), (66, .ireturn, 67, []), (67, .aload_n 0, 68, []), (68, .getfield 39, 71, []), (71, .iload_n 1, 72, []), (72, .baload, 73, []), (73, .ifCond .eq 7, 76, [80]), (76, .iconst 1, 77, []), (77, .goto 4, 80, [81]), (80, .iconst 0, 81, []), (81, .ireturn, 82, []), (82, .aload_n 0, 83, []), (83, .iload_n 1, 84, []), (84, .invokevirtual 110, 87, []), (87, .ireturn, 88, []), (88, .iconst (-1), 89, []), (89, .ireturn, 90, [])]
set_option maxRecDepth 100000 in
theorem tX0_page_ok : tX0_page.all (en_tb cX0_page) = true := by decide +kernel
def flX0_page : List (Nat × Nat) := [(36, 9), (39, 10)]
def fpX0_page : List (Nat × Nat) := []
def tX0_healed : List TbE := [(0, .aload_n 0, 1, []), (1, .getfield 51, 4, []), (4, .ireturn, 5, [])]
set_option maxRecDepth 100000 in
theorem tX0_healed_ok : tX0_healed.all (en_tb cX0_healed) = true := by decide +kernel
def flX0_healed : List (Nat × Nat) := [(51, 14)]
def fpX0_healed : List (Nat × Nat) := []
def tX0_moved : List TbE := [(0, .aload_n 0, 1, []), (1, .getfield 54, 4, []), (4, .ireturn, 5, [])]
set_option maxRecDepth 100000 in
theorem tX0_moved_ok : tX0_moved.all (en_tb cX0_moved) = true := by decide +kernel
def flX0_moved : List (Nat × Nat) := [(54, 15)]
def fpX0_moved : List (Nat × Nat) := []
def tX0_cycles : List TbE := [(0, .aload_n 0, 1, []), (1, .getfield 57, 4, []), (4, .ireturn, 5, [])]
set_option maxRecDepth 100000 in
theorem tX0_cycles_ok : tX0_cycles.all (en_tb cX0_cycles) = true := by decide +kernel
def flX0_cycles : List (Nat × Nat) := [(57, 16)]
def fpX0_cycles : List (Nat × Nat) := []
def tX0_isRoot : List TbE := [(0, .iload_n 0, 1, []), (1, .ifCond .lt 13, 4, [14]), (4, .iload_n 0, 5, []), (5, .bipush 6, 7, []), (7, .if_icmp .ge 7, 10, [14]), (10, .iconst 1, 11, []), (11, .goto 4, 14, [15]), (14, .iconst 0, 15, []), (15, .ireturn, 16, [])]
set_option maxRecDepth 100000 in
theorem tX0_isRoot_ok : tX0_isRoot.all (en_tb cX0_isRoot) = true := by decide +kernel
def flX0_isRoot : List (Nat × Nat) := []
def fpX0_isRoot : List (Nat × Nat) := []
def tX0_pageOf : List TbE := [(0, .iload_n 0, 1, []), (1, .bipush 16, 3, []), (3, .idiv, 4, []), (4, .ireturn, 5, [])]
set_option maxRecDepth 100000 in
theorem tX0_pageOf_ok : tX0_pageOf.all (en_tb cX0_pageOf) = true := by decide +kernel
def flX0_pageOf : List (Nat × Nat) := []
def fpX0_pageOf : List (Nat × Nat) := []
def tX0_holdsNothing : List TbE := [(0, .aload_n 0, 1, []), (1, .getfield 13, 4, []), (4, .iload_n 1, 5, []), (5, .iaload, 6, []), (6, .ifCond .ne 7, 9, [13]), (9, .iconst 1, 10, []), (10, .goto 4, 13, [14]), (13, .iconst 0, 14, []), (14, .ireturn, 15, [])]
set_option maxRecDepth 100000 in
theorem tX0_holdsNothing_ok : tX0_holdsNothing.all (en_tb cX0_holdsNothing) = true := by decide +kernel
def flX0_holdsNothing : List (Nat × Nat) := [(13, 2)]
def fpX0_holdsNothing : List (Nat × Nat) := []
def tX0_fieldSlot : List TbE := [(0, .aload_n 0, 1, []), (1, .iload_n 1, 2, []), (2, .invokevirtual 98, 5, []), (5, .istore_n 3, 6, []), (6, .iload_n 3, 7, []), (7, .ifCond .ge 5, 10, [12]), (10, .iload_n 3, 11, []), (11, .ireturn, 12, []), (12, .iload_n 2, 13, []), (13, .ifCond .lt 13, 16, [26]), (16, .iload_n 2, 17, []), (17, .aload_n 0, 18, []), (18, .getfield 19, 21, []), (21, .iload_n 3, 22, []), (22, .iaload, 23, []), (23, .if_icmp .lt 7, 26, [30]), (26, .iconst (-1), 27, []), (27, .goto 8, 30, [35]), (30, .iload_n 3, 31, []), (31, .iconst 1, 32, []), (32, .iadd, 33, []), (33, .iload_n 2, 34, []), (34, .iadd, 35, []), (35, .ireturn, 36, [])]
set_option maxRecDepth 100000 in
theorem tX0_fieldSlot_ok : tX0_fieldSlot.all (en_tb cX0_fieldSlot) = true := by decide +kernel
def flX0_fieldSlot : List (Nat × Nat) := [(19, 4)]
def fpX0_fieldSlot : List (Nat × Nat) := []
def tX0_copySlot : List TbE := [(0, .aload_n 0, 1, []), (1, .getfield 9, 4, []), (4, .iload_n 2, 5, []), (5, .aload_n 0, 6, []), (6, .getfield 9, 9, []), (9, .iload_n 1, 10, []), (10, .iaload, 11, []), (11, .iastore, 12, []), (12, .aload_n 0, 13, []), (13, .getfield 13, 16, []), (16, .iload_n 2, 17, []), (17, .aload_n 0, 18, []), (18, .getfield 13, 21, []), (21, .iload_n 1, 22, []), (22, .iaload, 23, []), (23, .iastore, 24, []), (24, .return_, 25, [])]
set_option maxRecDepth 100000 in
theorem tX0_copySlot_ok : tX0_copySlot.all (en_tb cX0_copySlot) = true := by decide +kernel
def flX0_copySlot : List (Nat × Nat) := [(9, 1), (13, 2)]
def fpX0_copySlot : List (Nat × Nat) := []
def tX0_goodColour : List TbE := [(0, .aload_n 0, 1, []), (1, .getfield 48, 4, []), (4, .iconst 1, 5, []), (5, .if_icmp .eq 5, 8, [10]), (8, .iconst 3, 9, []), (9, .ireturn, 10, []), (10, .aload_n 0, 11, []), (11, .getfield 57, 14, []), (14, .iconst 1, 15, []), (15, .iand, 16, []), (16, .iconst 1, 17, []), (17, .if_icmp .ne 7, 20, [24]), (20, .iconst 1, 21, []), (21, .goto 4, 24, [25]), (24, .iconst 2, 25, []), (25, .ireturn, 26, [])]
set_option maxRecDepth 100000 in
theorem tX0_goodColour_ok : tX0_goodColour.all (en_tb cX0_goodColour) = true := by decide +kernel
def flX0_goodColour : List (Nat × Nat) := [(48, 13), (57, 16)]
def fpX0_goodColour : List (Nat × Nat) := []
def tX0_pageState : List TbE := [(0, .aload_n 0, 1, []), (1, .getfield 36, 4, []), (4, .iload_n 1, 5, []), (5, .iaload, 6, []), (6, .ifCond .ne 5, 9, [11]), (9, .iconst 0, 10, []), (10, .ireturn, 11, []), (11, .iload_n 1, 12, []), (12, .aload_n 0, 13, []), (13, .getfield 45, 16, []), (16, .if_icmp .ne 5, 19, [21]), (19, .iconst 2, 20, []), (20, .ireturn, 21, []), (21, .aload_n 0, 22, []), (22, .getfield 42, 25, []), (25, .iload_n 1, 26, []), (26, .baload, 27, []), (27, .ifCond .eq 7, 30, [34]), (30, .iconst 4, 31, []), (31, .goto 4, 34, [35]), (34, .iconst 1, 35, []), (35, .ireturn, 36, [])]
set_option maxRecDepth 100000 in
theorem tX0_pageState_ok : tX0_pageState.all (en_tb cX0_pageState) = true := by decide +kernel
def flX0_pageState : List (Nat × Nat) := [(36, 9), (45, 12), (42, 11)]
def fpX0_pageState : List (Nat × Nat) := []
def tX0_markedObjects : List TbE := [(0, .iconst 0, 1, []), (1, .istore_n 2, 2, []), (2, .iconst 0, 3, []), (3, .istore_n 3, 4, []), (4, .iload_n 3, 5, []), (5, .bipush 16, 7, []), (7, .if_icmp .ge 26, 10, [33]), (10, .aload_n 0, 11, []), (11, .getfield 22, 14, []), (14, .iload_n 1, 15, []), (15, .bipush 16, 17, []), (17, .imul, 18, []), (18, .iload_n 3, 19, []), (19, .iadd, 20, []), (20, .baload, 21, []), (21, .ifCond .eq 6, 24, [27]), (24, .iinc 2 1, 27, []), (27, .iinc 3 1, 30, []), (30, .goto (-26), 33, [4]), (33, .iload_n 2, 34, []), (34, .ireturn, 35, [])]
set_option maxRecDepth 100000 in
theorem tX0_markedObjects_ok : tX0_markedObjects.all (en_tb cX0_markedObjects) = true := by decide +kernel
def flX0_markedObjects : List (Nat × Nat) := [(22, 5)]
def fpX0_markedObjects : List (Nat × Nat) := []
def tX0_forwardings : List TbE := [(0, .iconst 0, 1, []), (1, .istore_n 2, 2, []), (2, .iconst 0, 3, []), (3, .istore_n 3, 4, []), (4, .iload_n 3, 5, []), (5, .bipush 16, 7, []), (7, .if_icmp .ge 27, 10, [34]), (10, .aload_n 0, 11, []), (11, .getfield 26, 14, []), (14, .iload_n 1, 15, []), (15, .bipush 16, 17, []), (17, .imul, 18, []), (18, .iload_n 3, 19, []), (19, .iadd, 20, []), (20, .iaload, 21, []), (21, .iconst (-1), 22, []), (22, .if_icmp .eq 6, 25, [28]), (25, .iinc 2 1, 28, []), (28, .iinc 3 1, 31, []), (31, .goto (-27), 34, [4]), (34, .iload_n 2, 35, []), (35, .ireturn, 36, [])]
set_option maxRecDepth 100000 in
theorem tX0_forwardings_ok : tX0_forwardings.all (en_tb cX0_forwardings) = true := by decide +kernel
def flX0_forwardings : List (Nat × Nat) := [(26, 6)]
def fpX0_forwardings : List (Nat × Nat) := []
def tX0_takeRoom : List TbE := [(0, .aload_n 0, 1, []), (1, .getfield 45, 4, []), (4, .iconst (-1), 5, []), (5, .if_icmp .eq 19, 8, [24]), (8, .aload_n 0, 9, []), (9, .getfield 36, 12, []), (12, .aload_n 0, 13, []), (13, .getfield 45, 16, []), (16, .iaload, 17, []), (17, .iload_n 1, 18, []), (18, .iadd, 19, []), (19, .bipush 16, 21, []), (21, .if_icmp .le 20, 24, [41]), (24, .aload_n 0, 25, []), (25, .invokevirtual 113, 28, []), (28, .istore_n 2, 29, []), (29, .iload_n 2, 30, []), (30, .iconst (-1), 31, []), (31, .if_icmp .ne 5, 34, [36]), (34, .iconst (-1), 35, []), (35, .ireturn, 36, []), (36, .aload_n 0, 37, []), (37, .iload_n 2, 38, []), (38, .putfield 45, 41, []), (41, .aload_n 0, 42, []), (42, .getfield 45, 45, []), (45, .bipush 16, 47, []), (47, .imul, 48, []), (48, .aload_n 0, 49, []), (49, .getfield 36, 52, []), (52, .aload_n 0, 53, []), (53, .getfield 45, 56, []), (56, .iaload, 57, []), (57, .iadd, 58, []), (58, .istore_n 2, 59, []), (59, .aload_n 0, 60, []), (60, .getfield 36, 63, []), (63, .aload_n 0, 64, []), (64, .getfield 45, 67, []), (67, .dup2, 68, []), (68, .iaload, 69, []), (69, .iload_n 1, 70, []), (70, .iadd, 71, []), (71, .iastore, 72, []), (72, .iload_n 2, 73, []), (73, .ireturn, 74, [])]
set_option maxRecDepth 100000 in
theorem tX0_takeRoom_ok : tX0_takeRoom.all (en_tb cX0_takeRoom) = true := by decide +kernel
def flX0_takeRoom : List (Nat × Nat) := [(45, 12), (36, 9)]
def fpX0_takeRoom : List (Nat × Nat) := [(45, 12)]
def tX0_leastFreePage : List TbE := [(0, .iconst 0, 1, []), (1, .istore_n 1, 2, []), (2, .iload_n 1, 3, []), (3, .bipush 8, 5, []), (5, .if_icmp .ge 20, 8, [25]), (8, .aload_n 0, 9, []), (9, .getfield 36, 12, []), (12, .iload_n 1, 13, []), (13, .iaload, 14, []), (14, .ifCond .ne 5, 17, [19]), (17, .iload_n 1, 18, []), (18, .ireturn, 19, []), (19, .iinc 1 1, 22, []), (22, .goto (-20), 25, [2]), (25, .iconst (-1), 26, []), (26, .ireturn, 27, [])]
set_option maxRecDepth 100000 in
theorem tX0_leastFreePage_ok : tX0_leastFreePage.all (en_tb cX0_leastFreePage) = true := by decide +kernel
def flX0_leastFreePage : List (Nat × Nat) := [(36, 9)]
def fpX0_leastFreePage : List (Nat × Nat) := []
def tX0_heal : List TbE := [(0, .aload_n 0, 1, []), (1, .getfield 13, 4, []), (4, .iload_n 1, 5, []), (5, .iaload, 6, []), (6, .istore_n 2, 7, []), (7, .aload_n 0, 8, []), (8, .invokevirtual 80, 11, []), (11, .istore_n 3, 12, []), (12, .iload_n 2, 13, []), (13, .ifCond .eq 8, 16, [21]), (16, .iload_n 2, 17, []), (17, .iload_n 3, 18, []), (18, .if_icmp .ne 4, 21, [22]), (21, .return_, 22, []), (22, .aload_n 0, 23, []), (23, .getfield 9, 26, []), (26, .iload_n 1, 27, []), (27, .iaload, 28, []), (28, .istore 4, 30, []), (30, .iload_n 2, 31, []), (31, .iconst 3, 32, []), (32, .if_icmp .eq 18, 35, [50]), (35, .aload_n 0, 36, []), (36, .getfield 26, 39, []), (39, .iload 4, 41, []), (41, .iaload, 42, []), (42, .iconst (-1), 43, []), (43, .if_icmp .eq 7, 46, [50]), (46, .iconst 1, 47, []), (47, .goto 4, 50, [51]), (50, .iconst 0, 51, []), (51, .istore 5, 53, []), (53, .iload 5, 55, []), (55, .ifCond .eq 12, 58, [67]), (58, .aload_n 0, 59, []), (59, .getfield 26, 62, []), (62, .iload 4, 64, []), (64, .iaload, 65, []), (65, .istore 4, 67, []), (67, .aload_n 0, 68, []), (68, .getfield 48, 71, []), (71, .iconst 1, 72, []), (72, .if_icmp .ne 12, 75, [84]), (75, .aload_n 0, 76, []), (76, .iload 4, 78, []), (78, .invokevirtual 116, 81, []), (81, .goto 37, 84, [118]), (84, .aload_n 0, 85, []), (85, .getfield 48, 88, []), (88, .iconst 2, 89, []), (89, .if_icmp .ne 29, 92, [118]), (92, .iload 5, 94, []), (94, .ifCond .ne 24, 97, [118]), (97, .aload_n 0, 98, []), (98, .getfield 42, 101, []), (101, .iload 4, 103, []), (103, .invokestatic 119, 106, []), (106, .baload, 107, []), (107, .ifCond .eq 11, 110, [118]), (110, .aload_n 0, 111, []), (111, .iload 4, 113, []), (113, .invokevirtual 122, 116, []), (116, .istore 4, 118, []), (118, .aload_n 0, 119, []), (119, .getfield 9, 122, []), (122, .iload_n 1, 123, []), (123, .iload 4, 125, []), (125, .iastore, 126, []), (126, .aload_n 0, 127, []), (127, .getfield 13, 130, []), (130, .iload_n 1, 131, []), (131, .iload_n 3, 132, []), (132, .iastore, 133, []), (133, .aload_n 0, 134, []), (134, .dup, 135, []), (135, .getfield 51, 138, []), (138, .iconst 1, 139, []), (139, .iadd, 140, []), (140, .putfield 51, 143, []), (143, .return_, 144, [])]
set_option maxRecDepth 100000 in
theorem tX0_heal_ok : tX0_heal.all (en_tb cX0_heal) = true := by decide +kernel
def flX0_heal : List (Nat × Nat) := [(13, 2), (9, 1), (26, 6), (48, 13), (42, 11), (51, 14)]
def fpX0_heal : List (Nat × Nat) := [(51, 14)]
def tX0_healSlots : List TbE := [(0, .iconst 0, 1, []), (1, .istore_n 3, 2, []), (2, .iload_n 3, 3, []), (3, .iload_n 2, 4, []), (4, .if_icmp .ge 16, 7, [20]), (7, .aload_n 0, 8, []), (8, .iload_n 1, 9, []), (9, .iload_n 3, 10, []), (10, .iadd, 11, []), (11, .invokevirtual 87, 14, []), (14, .iinc 3 1, 17, []), (17, .goto (-15), 20, [2]), (20, .return_, 21, [])]
set_option maxRecDepth 100000 in
theorem tX0_healSlots_ok : tX0_healSlots.all (en_tb cX0_healSlots) = true := by decide +kernel
def flX0_healSlots : List (Nat × Nat) := []
def fpX0_healSlots : List (Nat × Nat) := []
def tX0_mark : List TbE := [(0, .aload_n 0, 1, []), (1, .getfield 22, 4, []), (4, .iload_n 1, 5, []), (5, .baload, 6, []), (6, .ifCond .ne 30, 9, [36]), (9, .aload_n 0, 10, []), (10, .getfield 22, 13, []), (13, .iload_n 1, 14, []), (14, .iconst 1, 15, []), (15, .bastore, 16, []), (16, .aload_n 0, 17, []), (17, .getfield 29, 20, []), (20, .aload_n 0, 21, []), (21, .getfield 32, 24, []), (24, .iload_n 1, 25, []), (25, .iastore, 26, []), (26, .aload_n 0, 27, []), (27, .dup, 28, []), (28, .getfield 32, 31, []), (31, .iconst 1, 32, []), (32, .iadd, 33, []), (33, .putfield 32, 36, []), (36, .return_, 37, [])]
set_option maxRecDepth 100000 in
theorem tX0_mark_ok : tX0_mark.all (en_tb cX0_mark) = true := by decide +kernel
def flX0_mark : List (Nat × Nat) := [(22, 5), (29, 7), (32, 8)]
def fpX0_mark : List (Nat × Nat) := [(32, 8)]
def tX0_moveAway : List TbE := [(0, .aload_n 0, 1, []), (1, .getfield 19, 4, []), (4, .iload_n 1, 5, []), (5, .iaload, 6, []), (6, .istore_n 2, 7, []), (7, .aload_n 0, 8, []), (8, .iload_n 2, 9, []), (9, .iconst 1, 10, []), (10, .iadd, 11, []), (11, .invokevirtual 76, 14, []), (14, .istore_n 3, 15, []), (15, .iload_n 3, 16, []), (16, .iconst (-1), 17, []), (17, .if_icmp .ne 15, 20, [32]), (20, .aload_n 0, 21, []), (21, .getfield 42, 24, []), (24, .iload_n 1, 25, []), (25, .invokestatic 119, 28, []), (28, .iconst 0, 29, []), (29, .bastore, 30, []), (30, .iload_n 1, 31, []), (31, .ireturn, 32, []), (32, .aload_n 0, 33, []), (33, .getfield 16, 36, []), (36, .iload_n 3, 37, []), (37, .aload_n 0, 38, []), (38, .getfield 16, 41, []), (41, .iload_n 1, 42, []), (42, .iaload, 43, []), (43, .iastore, 44, []), (44, .aload_n 0, 45, []), (45, .getfield 19, 48, []), (48, .iload_n 3, 49, []), (49, .iload_n 2, 50, []), (50, .iastore, 51, []), (51, .iconst 1, 52, []), (52, .istore 4, 54, []), (54, .iload 4, 56, []), (56, .iload_n 2, 57, []), (57, .if_icmp .gt 21, 60, [78]), (60, .aload_n 0, 61, []), (61, .iload_n 1, 62, []), (62, .iload 4, 64, []), (64, .iadd, 65, []), (65, .iload_n 3, 66, []), (66, .iload 4, 68, []), (68, .iadd, 69, []), (69, .invokevirtual 91, 72, []), (72, .iinc 4 1, 75, []), (75, .goto (-21), 78, [54]), (78, .aload_n 0, 79, []), (79, .getfield 26, 82, []), (82, .iload_n 1, 83, []), (83, .iload_n 3, 84, []), (84, .iastore, 85, []), (85, .aload_n 0, 86, []), (86, .getfield 22, 89, []), (89, .iload_n 1, 90, []), (90, .iconst 0, 91, []), (91, .bastore, 92, []), (92, .aload_n 0, 93, []), (93, .getfield 22, 96, []), (96, .iload_n 3, 97, []), (97, .iconst 0, 98, []), (98, .bastore, 99, []), (99, .aload_n 0, 100, []), (100, .dup, 101, []), (101, .getfield 54, 104, []), (104, .iconst 1, 105, []), (105, .iadd, 106, []), (106, .putfield 54, 109, []), (109, .iload_n 3, 110, []), (110, .ireturn, 111, [])]
set_option maxRecDepth 100000 in
theorem tX0_moveAway_ok : tX0_moveAway.all (en_tb cX0_moveAway) = true := by decide +kernel
def flX0_moveAway : List (Nat × Nat) := [(19, 4), (42, 11), (16, 3), (26, 6), (22, 5), (54, 15)]
def fpX0_moveAway : List (Nat × Nat) := [(54, 15)]
def tX0_step : List TbE := [(0, .aload_n 0, 1, []), (1, .getfield 48, 4, []), (4, .ifCond .ne 19, 7, [23]), (7, .aload_n 0, 8, []), (8, .invokevirtual 125, 11, []), (11, .aload_n 0, 12, []), (12, .sipush 128, 15, []), (15, .bipush 6, 17, []), (17, .invokevirtual 128, 20, []), (20, .goto 74, 23, [94]), (23, .aload_n 0, 24, []), (24, .getfield 48, 27, []), (27, .iconst 2, 28, []), (28, .if_icmp .ne 10, 31, [38]), (31, .aload_n 0, 32, []), (32, .invokevirtual 131, 35, []), (35, .goto 59, 38, [94]), (38, .aload_n 0, 39, []), (39, .getfield 32, 42, []), (42, .ifCond .le 39, 45, [81]), (45, .aload_n 0, 46, []), (46, .dup, 47, []), (47, .getfield 32, 50, []), (50, .iconst 1, 51, []), (51, .isub, 52, []), (52, .putfield 32, 55, []), (55, .aload_n 0, 56, []), (56, .getfield 29, 59, []), (59, .aload_n 0, 60, []), (60, .getfield 32, 63, []), (63, .iaload, 64, []), (64, .istore_n 1, 65, []), (65, .aload_n 0, 66, []), (66, .iload_n 1, 67, []), (67, .iconst 1, 68, []), (68, .iadd, 69, []), (69, .aload_n 0, 70, []), (70, .getfield 19, 73, []), (73, .iload_n 1, 74, []), (74, .iaload, 75, []), (75, .invokevirtual 128, 78, []), (78, .goto 16, 81, [94]), (81, .aload_n 0, 82, []), (82, .invokevirtual 134, 85, []), (85, .aload_n 0, 86, []), (86, .sipush 128, 89, []), (89, .bipush 6, 91, []), (91, .invokevirtual 128, 94, []), (94, .return_, 95, [])]
set_option maxRecDepth 100000 in
theorem tX0_step_ok : tX0_step.all (en_tb cX0_step) = true := by decide +kernel
def flX0_step : List (Nat × Nat) := [(48, 13), (32, 8), (29, 7), (19, 4)]
def fpX0_step : List (Nat × Nat) := [(32, 8)]
def tX0_beginMarking : List TbE := [(0, .aload_n 0, 1, []), (1, .iconst 1, 2, []), (2, .putfield 48, 5, []), (5, .aload_n 0, 6, []), (6, .dup, 7, []), (7, .getfield 57, 10, []), (10, .iconst 1, 11, []), (11, .iadd, 12, []), (12, .putfield 57, 15, []), (15, .aload_n 0, 16, []), (16, .iconst (-1), 17, []), (17, .putfield 45, 20, []), (20, .iconst 0, 21, []), (21, .istore_n 1, 22, []), (22, .iload_n 1, 23, []), (23, .sipush 128, 26, []), (26, .if_icmp .ge 16, 29, [42]), (29, .aload_n 0, 30, []), (30, .getfield 22, 33, []), (33, .iload_n 1, 34, []), (34, .iconst 0, 35, []), (35, .bastore, 36, []), (36, .iinc 1 1, 39, []), (39, .goto (-17), 42, [22]), (42, .iconst 0, 43, []), (43, .istore_n 1, 44, []), (44, .iload_n 1, 45, []), (45, .bipush 8, 47, []), (47, .if_icmp .ge 29, 50, [76]), (50, .aload_n 0, 51, []), (51, .getfield 39, 54, []), (54, .iload_n 1, 55, []), (55, .aload_n 0, 56, []), (56, .getfield 36, 59, []), (59, .iload_n 1, 60, []), (60, .iaload, 61, []), (61, .ifCond .le 7, 64, [68]), (64, .iconst 1, 65, []), (65, .goto 4, 68, [69]), (68, .iconst 0, 69, []), (69, .bastore, 70, []), (70, .iinc 1 1, 73, []), (73, .goto (-29), 76, [44]), (76, .return_, 77, [])]
set_option maxRecDepth 100000 in
theorem tX0_beginMarking_ok : tX0_beginMarking.all (en_tb cX0_beginMarking) = true := by decide +kernel
def flX0_beginMarking : List (Nat × Nat) := [(48, 13), (57, 16), (45, 12), (22, 5), (39, 10), (36, 9)]
def fpX0_beginMarking : List (Nat × Nat) := [(48, 13), (57, 16), (45, 12)]
def tX0_beginRelocating : List TbE := [(0, .iconst 0, 1, []), (1, .istore_n 1, 2, []), (2, .iload_n 1, 3, []), (3, .sipush 128, 6, []), (6, .if_icmp .ge 16, 9, [22]), (9, .aload_n 0, 10, []), (10, .getfield 26, 13, []), (13, .iload_n 1, 14, []), (14, .iconst (-1), 15, []), (15, .iastore, 16, []), (16, .iinc 1 1, 19, []), (19, .goto (-17), 22, [2]), (22, .iconst 0, 23, []), (23, .istore_n 1, 24, []), (24, .iload_n 1, 25, []), (25, .bipush 8, 27, []), (27, .if_icmp .ge 23, 30, [50]), (30, .aload_n 0, 31, []), (31, .getfield 39, 34, []), (34, .iload_n 1, 35, []), (35, .baload, 36, []), (36, .ifCond .eq 8, 39, [44]), (39, .aload_n 0, 40, []), (40, .iload_n 1, 41, []), (41, .invokevirtual 137, 44, []), (44, .iinc 1 1, 47, []), (47, .goto (-23), 50, [24]), (50, .aload_n 0, 51, []), (51, .iconst 2, 52, []), (52, .putfield 48, 55, []), (55, .return_, 56, [])]
set_option maxRecDepth 100000 in
theorem tX0_beginRelocating_ok : tX0_beginRelocating.all (en_tb cX0_beginRelocating) = true := by decide +kernel
def flX0_beginRelocating : List (Nat × Nat) := [(26, 6), (39, 10), (48, 13)]
def fpX0_beginRelocating : List (Nat × Nat) := [(48, 13)]
def tX0_judge : List TbE := [(0, .aload_n 0, 1, []), (1, .iload_n 1, 2, []), (2, .invokevirtual 140, 5, []), (5, .istore_n 2, 6, []), (6, .iload_n 2, 7, []), (7, .ifCond .ne 11, 10, [18]), (10, .aload_n 0, 11, []), (11, .iload_n 1, 12, []), (12, .invokevirtual 143, 15, []), (15, .goto 18, 18, [33]), (18, .iload_n 2, 19, []), (19, .aload_n 0, 20, []), (20, .getfield 69, 23, []), (23, .if_icmp .gt 10, 26, [33]), (26, .aload_n 0, 27, []), (27, .getfield 42, 30, []), (30, .iload_n 1, 31, []), (31, .iconst 1, 32, []), (32, .bastore, 33, []), (33, .return_, 34, [])]
set_option maxRecDepth 100000 in
theorem tX0_judge_ok : tX0_judge.all (en_tb cX0_judge) = true := by decide +kernel
def flX0_judge : List (Nat × Nat) := [(69, 0), (42, 11)]
def fpX0_judge : List (Nat × Nat) := []
def tX0_liveWords : List TbE := [(0, .iconst 0, 1, []), (1, .istore_n 2, 2, []), (2, .iconst 0, 3, []), (3, .istore_n 3, 4, []), (4, .iload_n 3, 5, []), (5, .bipush 16, 7, []), (7, .if_icmp .ge 39, 10, [46]), (10, .iload_n 1, 11, []), (11, .bipush 16, 13, []), (13, .imul, 14, []), (14, .iload_n 3, 15, []), (15, .iadd, 16, []), (16, .istore 4, 18, []), (18, .aload_n 0, 19, []), (19, .getfield 22, 22, []), (22, .iload 4, 24, []), (24, .baload, 25, []), (25, .ifCond .eq 15, 28, [40]), (28, .iload_n 2, 29, []), (29, .aload_n 0, 30, []), (30, .getfield 19, 33, []), (33, .iload 4, 35, []), (35, .iaload, 36, []), (36, .iconst 1, 37, []), (37, .iadd, 38, []), (38, .iadd, 39, []), (39, .istore_n 2, 40, []), (40, .iinc 3 1, 43, []), (43, .goto (-39), 46, [4]), (46, .iload_n 2, 47, []), (47, .ireturn, 48, [])]
set_option maxRecDepth 100000 in
theorem tX0_liveWords_ok : tX0_liveWords.all (en_tb cX0_liveWords) = true := by decide +kernel
def flX0_liveWords : List (Nat × Nat) := [(22, 5), (19, 4)]
def fpX0_liveWords : List (Nat × Nat) := []
def tX0_becomeFree : List TbE := [(0, .aload_n 0, 1, []), (1, .getfield 36, 4, []), (4, .iload_n 1, 5, []), (5, .iconst 0, 6, []), (6, .iastore, 7, []), (7, .aload_n 0, 8, []), (8, .getfield 39, 11, []), (11, .iload_n 1, 12, []), (12, .iconst 0, 13, []), (13, .bastore, 14, []), (14, .aload_n 0, 15, []), (15, .getfield 42, 18, []), (18, .iload_n 1, 19, []), (19, .iconst 0, 20, []), (20, .bastore, 21, []), (21, .return_, 22, [])]
set_option maxRecDepth 100000 in
theorem tX0_becomeFree_ok : tX0_becomeFree.all (en_tb cX0_becomeFree) = true := by decide +kernel
def flX0_becomeFree : List (Nat × Nat) := [(36, 9), (39, 10), (42, 11)]
def fpX0_becomeFree : List (Nat × Nat) := []
def tX0_relocateNext : List TbE := [(0, .aload_n 0, 1, []), (1, .invokevirtual 146, 4, []), (4, .istore_n 1, 5, []), (5, .iload_n 1, 6, []), (6, .iconst (-1), 7, []), (7, .if_icmp .ne 9, 10, [16]), (10, .aload_n 0, 11, []), (11, .iconst 0, 12, []), (12, .putfield 48, 15, []), (15, .return_, 16, []), (16, .aload_n 0, 17, []), (17, .iload_n 1, 18, []), (18, .invokevirtual 149, 21, []), (21, .istore_n 2, 22, []), (22, .iload_n 2, 23, []), (23, .iconst (-1), 24, []), (24, .if_icmp .eq 9, 27, [33]), (27, .aload_n 0, 28, []), (28, .iload_n 2, 29, []), (29, .invokevirtual 122, 32, []), (32, .pop, 33, []), (33, .aload_n 0, 34, []), (34, .getfield 42, 37, []), (37, .iload_n 1, 38, []), (38, .baload, 39, []), (39, .ifCond .eq 17, 42, [56]), (42, .aload_n 0, 43, []), (43, .iload_n 1, 44, []), (44, .invokevirtual 149, 47, []), (47, .iconst (-1), 48, []), (48, .if_icmp .ne 8, 51, [56]), (51, .aload_n 0, 52, []), (52, .iload_n 1, 53, []), (53, .invokevirtual 143, 56, []), (56, .return_, 57, [])]
set_option maxRecDepth 100000 in
theorem tX0_relocateNext_ok : tX0_relocateNext.all (en_tb cX0_relocateNext) = true := by decide +kernel
def flX0_relocateNext : List (Nat × Nat) := [(48, 13), (42, 11)]
def fpX0_relocateNext : List (Nat × Nat) := [(48, 13)]
def tX0_leastPageOfSet : List TbE := [(0, .iconst 0, 1, []), (1, .istore_n 1, 2, []), (2, .iload_n 1, 3, []), (3, .bipush 8, 5, []), (5, .if_icmp .ge 20, 8, [25]), (8, .aload_n 0, 9, []), (9, .getfield 42, 12, []), (12, .iload_n 1, 13, []), (13, .baload, 14, []), (14, .ifCond .eq 5, 17, [19]), (17, .iload_n 1, 18, []), (18, .ireturn, 19, []), (19, .iinc 1 1, 22, []), (22, .goto (-20), 25, [2]), (25, .iconst (-1), 26, []), (26, .ireturn, 27, [])]
set_option maxRecDepth 100000 in
theorem tX0_leastPageOfSet_ok : tX0_leastPageOfSet.all (en_tb cX0_leastPageOfSet) = true := by decide +kernel
def flX0_leastPageOfSet : List (Nat × Nat) := [(42, 11)]
def fpX0_leastPageOfSet : List (Nat × Nat) := []
def tX0_leastMarkedPlace : List TbE := [(0, .iconst 0, 1, []), (1, .istore_n 2, 2, []), (2, .iload_n 2, 3, []), (3, .bipush 16, 5, []), (5, .if_icmp .ge 30, 8, [35]), (8, .aload_n 0, 9, []), (9, .getfield 22, 12, []), (12, .iload_n 1, 13, []), (13, .bipush 16, 15, []), (15, .imul, 16, []), (16, .iload_n 2, 17, []), (17, .iadd, 18, []), (18, .baload, 19, []), (19, .ifCond .eq 10, 22, [29]), (22, .iload_n 1, 23, []), (23, .bipush 16, 25, []), (25, .imul, 26, []), (26, .iload_n 2, 27, []), (27, .iadd, 28, []), (28, .ireturn, 29, []), (29, .iinc 2 1, 32, []), (32, .goto (-30), 35, [2]), (35, .iconst (-1), 36, []), (36, .ireturn, 37, [])]
set_option maxRecDepth 100000 in
theorem tX0_leastMarkedPlace_ok : tX0_leastMarkedPlace.all (en_tb cX0_leastMarkedPlace) = true := by decide +kernel
def flX0_leastMarkedPlace : List (Nat × Nat) := [(22, 5)]
def fpX0_leastMarkedPlace : List (Nat × Nat) := []
def tX1_isRoot : List TbE := [(0, .iload_n 0, 1, []), (1, .ifCond .lt 13, 4, [14]), (4, .iload_n 0, 5, []), (5, .bipush 6, 7, []), (7, .if_icmp .ge 7, 10, [14]), (10, .iconst 1, 11, []), (11, .goto 4, 14, [15]), (14, .iconst 0, 15, []), (15, .ireturn, 16, [])]
set_option maxRecDepth 100000 in
theorem tX1_isRoot_ok : tX1_isRoot.all (en_tb cX1_isRoot) = true := by decide +kernel
def flX1_isRoot : List (Nat × Nat) := []
def fpX1_isRoot : List (Nat × Nat) := []
def tX1_slotOf : List TbE := [(0, .sipush 384, 3, []), (3, .iload_n 0, 4, []), (4, .iadd, 5, []), (5, .ireturn, 6, [])]
set_option maxRecDepth 100000 in
theorem tX1_slotOf_ok : tX1_slotOf.all (en_tb cX1_slotOf) = true := by decide +kernel
def flX1_slotOf : List (Nat × Nat) := []
def fpX1_slotOf : List (Nat × Nat) := []
def tX1_holds : List TbE := [(0, .aload_n 0, 1, []), (1, .getfield 29, 4, []), (4, .iload_n 1, 5, []), (5, .invokestatic 54, 8, []), (8, .iaload, 9, []), (9, .ifCond .eq 7, 12, [16]), (12, .iconst 1, 13, []), (13, .goto 4, 16, [17]), (16, .iconst 0, 17, []), (17, .ireturn, 18, [])]
set_option maxRecDepth 100000 in
theorem tX1_holds_ok : tX1_holds.all (en_tb cX1_holds) = true := by decide +kernel
def flX1_holds : List (Nat × Nat) := [(29, 7)]
def fpX1_holds : List (Nat × Nat) := []
def tX1_good : List TbE := [(0, .aload_n 0, 1, []), (1, .getfield 58, 4, []), (4, .iconst 1, 5, []), (5, .if_icmp .ne 21, 8, [26]), (8, .aload_n 0, 9, []), (9, .getfield 61, 12, []), (12, .iconst 2, 13, []), (13, .irem, 14, []), (14, .iconst 1, 15, []), (15, .if_icmp .ne 7, 18, [22]), (18, .iconst 1, 19, []), (19, .goto 8, 22, [27]), (22, .iconst 2, 23, []), (23, .goto 4, 26, [27]), (26, .iconst 3, 27, []), (27, .ireturn, 28, [])]
set_option maxRecDepth 100000 in
theorem tX1_good_ok : tX1_good.all (en_tb cX1_good) = true := by decide +kernel
def flX1_good : List (Nat × Nat) := [(58, 13), (61, 14)]
def fpX1_good : List (Nat × Nat) := []
def tX1_room : List TbE := [(0, .aload_n 0, 1, []), (1, .getfield 44, 4, []), (4, .iconst (-1), 5, []), (5, .if_icmp .eq 19, 8, [24]), (8, .aload_n 0, 9, []), (9, .getfield 35, 12, []), (12, .aload_n 0, 13, []), (13, .getfield 44, 16, []), (16, .iaload, 17, []), (17, .iload_n 1, 18, []), (18, .iadd, 19, []), (19, .bipush 16, 21, []), (21, .if_icmp .le 53, 24, [74]), (24, .iconst 0, 25, []), (25, .istore_n 2, 26, []), (26, .iload_n 2, 27, []), (27, .bipush 8, 29, []), (29, .if_icmp .ge 18, 32, [47]), (32, .aload_n 0, 33, []), (33, .getfield 32, 36, []), (36, .iload_n 2, 37, []), (37, .baload, 38, []), (38, .ifCond .eq 9, 41, [47]), (41, .iinc 2 1, 44, []), (44, .goto (-18), 47, [26]), (47, .iload_n 2, 48, []), (48, .bipush 8, 50, []), (50, .if_icmp .ne 5, 53, [55]), (53, .iconst (-1), 54, []), (54, .ireturn, 55, []), (55, .aload_n 0, 56, []), (56, .getfield 32, 59, []), (59, .iload_n 2, 60, []), (60, .iconst 1, 61, []), (61, .bastore, 62, []), (62, .aload_n 0, 63, []), (63, .getfield 35, 66, []), (66, .iload_n 2, 67, []), (67, .iconst 0, 68, []), (68, .iastore, 69, []), (69, .aload_n 0, 70, []), (70, .iload_n 2, 71, []), (71, .putfield 44, 74, []), (74, .aload_n 0, 75, []), (75, .getfield 35, 78, []), (78, .aload_n 0, 79, []), (79, .getfield 44, 82, []), (82, .dup2, 83, []), (83, .iaload, 84, []), (84, .iload_n 1, 85, []), (85, .iadd, 86, []), (86, .iastore, 87, []), (87, .bipush 16, 89, []), (89, .aload_n 0, 90, []), (90, .getfield 44, 93, []), (93, .imul, 94, []), (94, .aload_n 0, 95, []), (95, .getfield 35, 98, []), (98, .aload_n 0, 99, []), (99, .getfield 44, 102, []), (102, .iaload, 103, []), (103, .iadd, 104, []), (104, .iload_n 1, 105, []), (105, .isub, 106, []), (106, .ireturn, 107, [])]
set_option maxRecDepth 100000 in
theorem tX1_room_ok : tX1_room.all (en_tb cX1_room) = true := by decide +kernel
def flX1_room : List (Nat × Nat) := [(44, 12), (35, 9), (32, 8)]
def fpX1_room : List (Nat × Nat) := [(44, 12)]
def tX1_release : List TbE := [(0, .aload_n 0, 1, []), (1, .getfield 32, 4, []), (4, .iload_n 1, 5, []), (5, .iconst 0, 6, []), (6, .bastore, 7, []), (7, .aload_n 0, 8, []), (8, .getfield 35, 11, []), (11, .iload_n 1, 12, []), (12, .iconst 0, 13, []), (13, .iastore, 14, []), (14, .aload_n 0, 15, []), (15, .getfield 38, 18, []), (18, .iload_n 1, 19, []), (19, .iconst 0, 20, []), (20, .bastore, 21, []), (21, .aload_n 0, 22, []), (22, .getfield 41, 25, []), (25, .iload_n 1, 26, []), (26, .iconst 0, 27, []), (27, .bastore, 28, []), (28, .bipush 16, 30, []), (30, .iload_n 1, 31, []), (31, .imul, 32, []), (32, .istore_n 2, 33, []), (33, .iload_n 2, 34, []), (34, .bipush 16, 36, []), (36, .iload_n 1, 37, []), (37, .imul, 38, []), (38, .bipush 16, 40, []), (40, .iadd, 41, []), (41, .if_icmp .ge 23, 44, [64]), (44, .aload_n 0, 45, []), (45, .getfield 7, 48, []), (48, .iload_n 2, 49, []), (49, .iconst 0, 50, []), (50, .bastore, 51, []), (51, .aload_n 0, 52, []), (52, .getfield 20, 55, []), (55, .iload_n 2, 56, []), (56, .iconst 0, 57, []), (57, .bastore, 58, []), (58, .iinc 2 1, 61, []), (61, .goto (-28), 64, [33]), (64, .return_, 65, [])]
set_option maxRecDepth 100000 in
theorem tX1_release_ok : tX1_release.all (en_tb cX1_release) = true := by decide +kernel
def flX1_release : List (Nat × Nat) := [(32, 8), (35, 9), (38, 10), (41, 11), (7, 1), (20, 4)]
def fpX1_release : List (Nat × Nat) := []
def tX1_move : List TbE := [(0, .aload_n 0, 1, []), (1, .aload_n 0, 2, []), (2, .getfield 13, 5, []), (5, .iload_n 1, 6, []), (6, .iaload, 7, []), (7, .iconst 1, 8, []), (8, .iadd, 9, []), (9, .invokevirtual 64, 12, []), (12, .istore_n 2, 13, []), (13, .iload_n 2, 14, []), (14, .iconst (-1), 15, []), (15, .if_icmp .ne 5, 18, [20]), (18, .iconst (-1), 19, []), (19, .ireturn, 20, []), (20, .aload_n 0, 21, []), (21, .getfield 7, 24, []), (24, .iload_n 2, 25, []), (25, .iconst 1, 26, []), (26, .bastore, 27, []), (27, .aload_n 0, 28, []), (28, .getfield 13, 31, []), (31, .iload_n 2, 32, []), (32, .aload_n 0, 33, []), (33, .getfield 13, 36, []), (36, .iload_n 1, 37, []), (37, .iaload, 38, []), (38, .iastore, 39, []), (39, .aload_n 0, 40, []), (40, .getfield 17, 43, []), (43, .iload_n 2, 44, []), (44, .aload_n 0, 45, []), (45, .getfield 17, 48, []), (48, .iload_n 1, 49, []), (49, .iaload, 50, []), (50, .iastore, 51, []), (51, .iconst 0, 52, []), (52, .istore_n 3, 53, []), (53, .iload_n 3, 54, []), (54, .iconst 3, 55, []), (55, .if_icmp .ge 49, 58, [104]), (58, .aload_n 0, 59, []), (59, .getfield 26, 62, []), (62, .iconst 3, 63, []), (63, .iload_n 2, 64, []), (64, .imul, 65, []), (65, .iload_n 3, 66, []), (66, .iadd, 67, []), (67, .aload_n 0, 68, []), (68, .getfield 26, 71, []), (71, .iconst 3, 72, []), (72, .iload_n 1, 73, []), (73, .imul, 74, []), (74, .iload_n 3, 75, []), (75, .iadd, 76, []), (76, .iaload, 77, []), (77, .iastore, 78, []), (78, .aload_n 0, 79, []), (79, .getfield 29, 82, []), (82, .iconst 3, 83, []), (83, .iload_n 2, 84, []), (84, .imul, 85, []), (85, .iload_n 3, 86, []), (86, .iadd, 87, []), (87, .aload_n 0, 88, []), (88, .getfield 29, 91, []), (91, .iconst 3, 92, []), (92, .iload_n 1, 93, []), (93, .imul, 94, []), (94, .iload_n 3, 95, []), (95, .iadd, 96, []), (96, .iaload, 97, []), (97, .iastore, 98, []), (98, .iinc 3 1, 101, []), (101, .goto (-48), 104, [53]), (104, .aload_n 0, 105, []), (105, .getfield 20, 108, []), (108, .iload_n 1, 109, []), (109, .iconst 0, 110, []), (110, .bastore, 111, []), (111, .aload_n 0, 112, []), (112, .getfield 20, 115, []), (115, .iload_n 2, 116, []), (116, .iconst 0, 117, []), (117, .bastore, 118, []), (118, .aload_n 0, 119, []), (119, .getfield 23, 122, []), (122, .iload_n 1, 123, []), (123, .iload_n 2, 124, []), (124, .iastore, 125, []), (125, .aload_n 0, 126, []), (126, .dup, 127, []), (127, .getfield 67, 130, []), (130, .iconst 1, 131, []), (131, .iadd, 132, []), (132, .putfield 67, 135, []), (135, .iload_n 2, 136, []), (136, .ireturn, 137, [])]
set_option maxRecDepth 100000 in
theorem tX1_move_ok : tX1_move.all (en_tb cX1_move) = true := by decide +kernel
def flX1_move : List (Nat × Nat) := [(13, 2), (7, 1), (17, 3), (26, 6), (29, 7), (20, 4), (23, 5), (67, 16)]
def fpX1_move : List (Nat × Nat) := [(67, 16)]
def tX1_mark : List TbE := [(0, .aload_n 0, 1, []), (1, .getfield 20, 4, []), (4, .iload_n 1, 5, []), (5, .baload, 6, []), (6, .ifCond .ne 30, 9, [36]), (9, .aload_n 0, 10, []), (10, .getfield 20, 13, []), (13, .iload_n 1, 14, []), (14, .iconst 1, 15, []), (15, .bastore, 16, []), (16, .aload_n 0, 17, []), (17, .getfield 48, 20, []), (20, .aload_n 0, 21, []), (21, .getfield 70, 24, []), (24, .iload_n 1, 25, []), (25, .iastore, 26, []), (26, .aload_n 0, 27, []), (27, .dup, 28, []), (28, .getfield 70, 31, []), (31, .iconst 1, 32, []), (32, .iadd, 33, []), (33, .putfield 70, 36, []), (36, .return_, 37, [])]
set_option maxRecDepth 100000 in
theorem tX1_mark_ok : tX1_mark.all (en_tb cX1_mark) = true := by decide +kernel
def flX1_mark : List (Nat × Nat) := [(20, 4), (48, 18), (70, 17)]
def fpX1_mark : List (Nat × Nat) := [(70, 17)]
def tX1_heal : List TbE := [(0, .aload_n 0, 1, []), (1, .getfield 29, 4, []), (4, .iload_n 1, 5, []), (5, .iaload, 6, []), (6, .ifCond .eq 16, 9, [22]), (9, .aload_n 0, 10, []), (10, .getfield 29, 13, []), (13, .iload_n 1, 14, []), (14, .iaload, 15, []), (15, .aload_n 0, 16, []), (16, .invokevirtual 73, 19, []), (19, .if_icmp .ne 4, 22, [23]), (22, .return_, 23, []), (23, .aload_n 0, 24, []), (24, .getfield 26, 27, []), (27, .iload_n 1, 28, []), (28, .iaload, 29, []), (29, .istore_n 2, 30, []), (30, .aload_n 0, 31, []), (31, .dup, 32, []), (32, .getfield 77, 35, []), (35, .iconst 1, 36, []), (36, .iadd, 37, []), (37, .putfield 77, 40, []), (40, .aload_n 0, 41, []), (41, .getfield 23, 44, []), (44, .iload_n 2, 45, []), (45, .iaload, 46, []), (46, .iconst (-1), 47, []), (47, .if_icmp .eq 36, 50, [83]), (50, .aload_n 0, 51, []), (51, .getfield 58, 54, []), (54, .iconst 1, 55, []), (55, .if_icmp .ne 13, 58, [68]), (58, .aload_n 0, 59, []), (59, .getfield 29, 62, []), (62, .iload_n 1, 63, []), (63, .iaload, 64, []), (64, .iconst 3, 65, []), (65, .if_icmp .eq 18, 68, [83]), (68, .aload_n 0, 69, []), (69, .getfield 26, 72, []), (72, .iload_n 1, 73, []), (73, .aload_n 0, 74, []), (74, .getfield 23, 77, []), (77, .iload_n 2, 78, []), (78, .iaload, 79, []), (79, .iastore, 80, []), (80, .goto 54, 83, [134]), (83, .aload_n 0, 84, []), (84, .getfield 58, 87, []), (87, .iconst 2, 88, []), (88, .if_icmp .ne 46, 91, [134]), (91, .aload_n 0, 92, []), (92, .getfield 41, 95, []), (95, .iload_n 2, 96, []), (96, .bipush 16, 98, []), (98, .idiv, 99, []), (99, .baload, 100, []), (100, .ifCond .eq 34, 103, [134]), (103, .aload_n 0, 104, []), (104, .iload_n 2, 105, []), (105, .invokevirtual 80, 108, []), (108, .istore_n 3, 109, []), (109, .iload_n 3, 110, []), (110, .iconst (-1), 111, []), (111, .if_icmp .ne 16, 114, [127]), (114, .aload_n 0, 115, []), (115, .getfield 41, 118, []), (118, .iload_n 2, 119, []), (119, .bipush 16, 121, []), (121, .idiv, 122, []), (122, .iconst 0, 123, []), (123, .bastore, 124, []), (124, .goto 10, 127, [134]), (127, .aload_n 0, 128, []), (128, .getfield 26, 131, []), (131, .iload_n 1, 132, []), (132, .iload_n 3, 133, []), (133, .iastore, 134, []), (134, .aload_n 0, 135, []), (135, .getfield 58, 138, []), (138, .iconst 1, 139, []), (139, .if_icmp .ne 13, 142, [152]), (142, .aload_n 0, 143, []), (143, .aload_n 0, 144, []), (144, .getfield 26, 147, []), (147, .iload_n 1, 148, []), (148, .iaload, 149, []), (149, .invokevirtual 83, 152, []), (152, .aload_n 0, 153, []), (153, .getfield 29, 156, []), (156, .iload_n 1, 157, []), (157, .aload_n 0, 158, []), (158, .invokevirtual 73, 161, []), (161, .iastore, 162, []), (162, .return_, 163, [])]
set_option maxRecDepth 100000 in
theorem tX1_heal_ok : tX1_heal.all (en_tb cX1_heal) = true := by decide +kernel
def flX1_heal : List (Nat × Nat) := [(29, 7), (26, 6), (77, 15), (23, 5), (58, 13), (41, 11)]
def fpX1_heal : List (Nat × Nat) := [(77, 15)]
def tX1_healRoots : List TbE := [(0, .iconst 0, 1, []), (1, .istore_n 1, 2, []), (2, .iload_n 1, 3, []), (3, .bipush 6, 5, []), (5, .if_icmp .ge 17, 8, [22]), (8, .aload_n 0, 9, []), (9, .iload_n 1, 10, []), (10, .invokestatic 54, 13, []), (13, .invokevirtual 87, 16, []), (16, .iinc 1 1, 19, []), (19, .goto (-17), 22, [2]), (22, .return_, 23, [])]
set_option maxRecDepth 100000 in
theorem tX1_healRoots_ok : tX1_healRoots.all (en_tb cX1_healRoots) = true := by decide +kernel
def flX1_healRoots : List (Nat × Nat) := []
def fpX1_healRoots : List (Nat × Nat) := []
def tX1_make : List TbE := [(0, .iload_n 1, 1, []), (1, .invokestatic 90, 4, []), (4, .ifCond .eq 12, 7, [16]), (7, .iload_n 2, 8, []), (8, .ifCond .lt 8, 11, [16]), (11, .iload_n 2, 12, []), (12, .iconst 3, 13, []), (13, .if_icmp .le 5, 16, [18]), (16, .iconst (-1), 17, []), (17, .ireturn, 18, []), (18, .aload_n 0, 19, []), (19, .iload_n 2, 20, []), (20, .iconst 1, 21, []), (21, .iadd, 22, []), (22, .invokevirtual 64, 25, []), (25, .istore 4, 27, []), (27, .iload 4, 29, []), (29, .iconst (-1), 30, []), (30, .if_icmp .ne 6, 33, [36]), (33, .bipush (-3), 35, []), (35, .ireturn, 36, []), (36, .aload_n 0, 37, []), (37, .getfield 7, 40, []), (40, .iload 4, 42, []), (42, .iconst 1, 43, []), (43, .bastore, 44, []), (44, .aload_n 0, 45, []), (45, .getfield 20, 48, []), (48, .iload 4, 50, []), (50, .iconst 0, 51, []), (51, .bastore, 52, []), (52, .aload_n 0, 53, []), (53, .getfield 13, 56, []), (56, .iload 4, 58, []), (58, .iload_n 2, 59, []), (59, .iastore, 60, []), (60, .aload_n 0, 61, []), (61, .getfield 17, 64, []), (64, .iload 4, 66, []), (66, .iload_n 3, 67, []), (67, .iastore, 68, []), (68, .iconst 0, 69, []), (69, .istore 5, 71, []), (71, .iload 5, 73, []), (73, .iconst 3, 74, []), (74, .if_icmp .ge 22, 77, [96]), (77, .aload_n 0, 78, []), (78, .getfield 29, 81, []), (81, .iconst 3, 82, []), (82, .iload 4, 84, []), (84, .imul, 85, []), (85, .iload 5, 87, []), (87, .iadd, 88, []), (88, .iconst 0, 89, []), (89, .iastore, 90, []), (90, .iinc 5 1, 93, []), (93, .goto (-22), 96, [71]), (96, .aload_n 0, 97, []), (97, .getfield 26, 100, []), (100, .iload_n 1, 101, []), (101, .invokestatic 54, 104, []), (104, .iload 4, 106, []), (106, .iastore, 107, []), (107, .aload_n 0, 108, []), (108, .getfield 29, 111, []), (111, .iload_n 1, 112, []), (112, .invokestatic 54, 115, []), (115, .aload_n 0, 116, []), (116, .invokevirtual 73, 119, []), (119, .iastore, 120, []), (120, .iload 4, 122, []), (122, .ireturn, 123, [])]
set_option maxRecDepth 100000 in
theorem tX1_make_ok : tX1_make.all (en_tb cX1_make) = true := by decide +kernel
def flX1_make : List (Nat × Nat) := [(7, 1), (20, 4), (13, 2), (17, 3), (29, 7), (26, 6)]
def fpX1_make : List (Nat × Nat) := []
def tX1_field : List TbE := [(0, .iload_n 1, 1, []), (1, .invokestatic 90, 4, []), (4, .ifCond .ne 5, 7, [9]), (7, .iconst (-1), 8, []), (8, .ireturn, 9, []), (9, .aload_n 0, 10, []), (10, .iload_n 1, 11, []), (11, .invokevirtual 94, 14, []), (14, .ifCond .ne 6, 17, [20]), (17, .bipush (-2), 19, []), (19, .ireturn, 20, []), (20, .aload_n 0, 21, []), (21, .getfield 26, 24, []), (24, .iload_n 1, 25, []), (25, .invokestatic 54, 28, []), (28, .iaload, 29, []), (29, .istore_n 3, 30, []), (30, .iload_n 2, 31, []), (31, .ifCond .lt 13, 34, [44]), (34, .iload_n 2, 35, []), (35, .aload_n 0, 36, []), (36, .getfield 13, 39, []), (39, .iload_n 3, 40, []), (40, .iaload, 41, []), (41, .if_icmp .lt 7, 44, [48]), (44, .iconst (-1), 45, []), (45, .goto 8, 48, [53]), (48, .iconst 3, 49, []), (49, .iload_n 3, 50, []), (50, .imul, 51, []), (51, .iload_n 2, 52, []), (52, .iadd, 53, []), (53, .ireturn, 54, [])]
set_option maxRecDepth 100000 in
theorem tX1_field_ok : tX1_field.all (en_tb cX1_field) = true := by decide +kernel
def flX1_field : List (Nat × Nat) := [(26, 6), (13, 2)]
def fpX1_field : List (Nat × Nat) := []
def tX1_copySlot : List TbE := [(0, .aload_n 0, 1, []), (1, .getfield 26, 4, []), (4, .iload_n 1, 5, []), (5, .aload_n 0, 6, []), (6, .getfield 26, 9, []), (9, .iload_n 2, 10, []), (10, .iaload, 11, []), (11, .iastore, 12, []), (12, .aload_n 0, 13, []), (13, .getfield 29, 16, []), (16, .iload_n 1, 17, []), (17, .aload_n 0, 18, []), (18, .getfield 29, 21, []), (21, .iload_n 2, 22, []), (22, .iaload, 23, []), (23, .iastore, 24, []), (24, .return_, 25, [])]
set_option maxRecDepth 100000 in
theorem tX1_copySlot_ok : tX1_copySlot.all (en_tb cX1_copySlot) = true := by decide +kernel
def flX1_copySlot : List (Nat × Nat) := [(26, 6), (29, 7)]
def fpX1_copySlot : List (Nat × Nat) := []
def tX1_load : List TbE := [(0, .iload_n 1, 1, []), (1, .invokestatic 90, 4, []), (4, .ifCond .eq 12, 7, [16]), (7, .aload_n 0, 8, []), (8, .iload_n 2, 9, []), (9, .iload_n 3, 10, []), (10, .invokevirtual 97, 13, []), (13, .goto 4, 16, [17]), (16, .iconst (-1), 17, []), (17, .istore 4, 19, []), (19, .iload 4, 21, []), (21, .ifCond .ge 6, 24, [27]), (24, .iload 4, 26, []), (26, .ireturn, 27, []), (27, .aload_n 0, 28, []), (28, .iload 4, 30, []), (30, .invokevirtual 87, 33, []), (33, .aload_n 0, 34, []), (34, .iload_n 1, 35, []), (35, .invokestatic 54, 38, []), (38, .iload 4, 40, []), (40, .invokevirtual 101, 43, []), (43, .aload_n 0, 44, []), (44, .getfield 29, 47, []), (47, .iload 4, 49, []), (49, .iaload, 50, []), (50, .ifCond .eq 7, 53, [57]), (53, .iconst 1, 54, []), (54, .goto 4, 57, [58]), (57, .iconst 0, 58, []), (58, .ireturn, 59, [])]
set_option maxRecDepth 100000 in
theorem tX1_load_ok : tX1_load.all (en_tb cX1_load) = true := by decide +kernel
def flX1_load : List (Nat × Nat) := [(29, 7)]
def fpX1_load : List (Nat × Nat) := []
def tX1_store : List TbE := [(0, .iload_n 3, 1, []), (1, .invokestatic 90, 4, []), (4, .ifCond .eq 12, 7, [16]), (7, .aload_n 0, 8, []), (8, .iload_n 1, 9, []), (9, .iload_n 2, 10, []), (10, .invokevirtual 97, 13, []), (13, .goto 4, 16, [17]), (16, .iconst (-1), 17, []), (17, .istore 4, 19, []), (19, .iload 4, 21, []), (21, .ifCond .ge 6, 24, [27]), (24, .iload 4, 26, []), (26, .ireturn, 27, []), (27, .aload_n 0, 28, []), (28, .iload 4, 30, []), (30, .iload_n 3, 31, []), (31, .invokestatic 54, 34, []), (34, .invokevirtual 101, 37, []), (37, .iconst 0, 38, []), (38, .ireturn, 39, [])]
set_option maxRecDepth 100000 in
theorem tX1_store_ok : tX1_store.all (en_tb cX1_store) = true := by decide +kernel
def flX1_store : List (Nat × Nat) := []
def fpX1_store : List (Nat × Nat) := []
def tX1_copy : List TbE := [(0, .iload_n 1, 1, []), (1, .invokestatic 90, 4, []), (4, .ifCond .eq 10, 7, [14]), (7, .iload_n 2, 8, []), (8, .invokestatic 90, 11, []), (11, .ifCond .ne 5, 14, [16]), (14, .iconst 0, 15, []), (15, .ireturn, 16, []), (16, .aload_n 0, 17, []), (17, .iload_n 1, 18, []), (18, .invokestatic 54, 21, []), (21, .iload_n 2, 22, []), (22, .invokestatic 54, 25, []), (25, .invokevirtual 101, 28, []), (28, .iconst 1, 29, []), (29, .ireturn, 30, [])]
set_option maxRecDepth 100000 in
theorem tX1_copy_ok : tX1_copy.all (en_tb cX1_copy) = true := by decide +kernel
def flX1_copy : List (Nat × Nat) := []
def fpX1_copy : List (Nat × Nat) := []
def tX1_drop : List TbE := [(0, .iload_n 1, 1, []), (1, .invokestatic 90, 4, []), (4, .ifCond .eq 11, 7, [15]), (7, .aload_n 0, 8, []), (8, .iload_n 1, 9, []), (9, .invokevirtual 94, 12, []), (12, .ifCond .ne 5, 15, [17]), (15, .iconst 0, 16, []), (16, .ireturn, 17, []), (17, .aload_n 0, 18, []), (18, .getfield 29, 21, []), (21, .iload_n 1, 22, []), (22, .invokestatic 54, 25, []), (25, .iconst 0, 26, []), (26, .iastore, 27, []), (27, .iconst 1, 28, []), (28, .ireturn, 29, [])]
set_option maxRecDepth 100000 in
theorem tX1_drop_ok : tX1_drop.all (en_tb cX1_drop) = true := by decide +kernel
def flX1_drop : List (Nat × Nat) := [(29, 7)]
def fpX1_drop : List (Nat × Nat) := []
def tX1_value : List TbE := [(0, .iload_n 1, 1, []), (1, .invokestatic 90, 4, []), (4, .ifCond .eq 28, 7, [32]), (7, .aload_n 0, 8, []), (8, .iload_n 1, 9, []), (9, .invokevirtual 94, 12, []), (12, .ifCond .eq 20, 15, [32]), (15, .aload_n 0, 16, []), (16, .getfield 17, 19, []), (19, .aload_n 0, 20, []), (20, .getfield 26, 23, []), (23, .iload_n 1, 24, []), (24, .invokestatic 54, 27, []), (27, .iaload, 28, []), (28, .iaload, 29, []), (29, .goto 4, 32, [33]), (32, .iconst 0, 33, []), (33, .ireturn, 34, [])]
set_option maxRecDepth 100000 in
theorem tX1_value_ok : tX1_value.all (en_tb cX1_value) = true := by decide +kernel
def flX1_value : List (Nat × Nat) := [(17, 3), (26, 6)]
def fpX1_value : List (Nat × Nat) := []
def tX1_set : List TbE := [(0, .iload_n 1, 1, []), (1, .invokestatic 90, 4, []), (4, .ifCond .eq 11, 7, [15]), (7, .aload_n 0, 8, []), (8, .iload_n 1, 9, []), (9, .invokevirtual 94, 12, []), (12, .ifCond .ne 5, 15, [17]), (15, .iconst 0, 16, []), (16, .ireturn, 17, []), (17, .aload_n 0, 18, []), (18, .getfield 17, 21, []), (21, .aload_n 0, 22, []), (22, .getfield 26, 25, []), (25, .iload_n 1, 26, []), (26, .invokestatic 54, 29, []), (29, .iaload, 30, []), (30, .iload_n 2, 31, []), (31, .iastore, 32, []), (32, .iconst 1, 33, []), (33, .ireturn, 34, [])]
set_option maxRecDepth 100000 in
theorem tX1_set_ok : tX1_set.all (en_tb cX1_set) = true := by decide +kernel
def flX1_set : List (Nat × Nat) := [(17, 3), (26, 6)]
def fpX1_set : List (Nat × Nat) := []
def tX1_fields : List TbE := [(0, .iload_n 1, 1, []), (1, .invokestatic 90, 4, []), (4, .ifCond .ne 7, 7, [11]), (7, .iconst (-1), 8, []), (8, .goto 30, 11, [38]), (11, .aload_n 0, 12, []), (12, .iload_n 1, 13, []), (13, .invokevirtual 94, 16, []), (16, .ifCond .eq 20, 19, [36]), (19, .aload_n 0, 20, []), (20, .getfield 13, 23, []), (23, .aload_n 0, 24, []), (24, .getfield 26, 27, []), (27, .iload_n 1, 28, []), (28, .invokestatic 54, 31, []), (31, .iaload, 32, []), (32, .iaload, 33, []), (33, .goto 5, 36, [38]), (36, .bipush (-2), 38, []), (38, .ireturn, 39, [])]
set_option maxRecDepth 100000 in
theorem tX1_fields_ok : tX1_fields.all (en_tb cX1_fields) = true := by decide +kernel
def flX1_fields : List (Nat × Nat) := [(13, 2), (26, 6)]
def fpX1_fields : List (Nat × Nat) := []
def tX1_place : List TbE := [(0, .iload_n 1, 1, []), (1, .invokestatic 90, 4, []), (4, .ifCond .ne 7, 7, [11]), (7, .iconst (-1), 8, []), (8, .goto 25, 11, [33]), (11, .aload_n 0, 12, []), (12, .iload_n 1, 13, []), (13, .invokevirtual 94, 16, []), (16, .ifCond .eq 15, 19, [31]), (19, .aload_n 0, 20, []), (20, .getfield 26, 23, []), (23, .iload_n 1, 24, []), (24, .invokestatic 54, 27, []), (27, .iaload, 28, []), (28, .goto 5, 31, [33]), (31, .bipush (-2), 33, []), (33, .ireturn, 34, [])]
set_option maxRecDepth 100000 in
theorem tX1_place_ok : tX1_place.all (en_tb cX1_place) = true := by decide +kernel
def flX1_place : List (Nat × Nat) := [(26, 6)]
def fpX1_place : List (Nat × Nat) := []
def tX1_colour : List TbE := [(0, .aload_n 0, 1, []), (1, .iload_n 1, 2, []), (2, .iload_n 2, 3, []), (3, .invokevirtual 97, 6, []), (6, .istore_n 3, 7, []), (7, .iload_n 3, 8, []), (8, .ifCond .ge 7, 11, [15]), (11, .iload_n 3, 12, []), (12, .goto 9, 15, [21]), (15, .aload_n 0, 16, []), (16, .getfield 29, 19, []), (19, .iload_n 3, 20, []), (20, .iaload, 21, []), (21, .ireturn, 22, [])]
set_option maxRecDepth 100000 in
theorem tX1_colour_ok : tX1_colour.all (en_tb cX1_colour) = true := by decide +kernel
def flX1_colour : List (Nat × Nat) := [(29, 7)]
def fpX1_colour : List (Nat × Nat) := []
def tX1_behind : List TbE := [(0, .aload_n 0, 1, []), (1, .iload_n 1, 2, []), (2, .iload_n 2, 3, []), (3, .invokevirtual 97, 6, []), (6, .istore_n 3, 7, []), (7, .iload_n 3, 8, []), (8, .ifCond .ge 7, 11, [15]), (11, .iload_n 3, 12, []), (12, .goto 22, 15, [34]), (15, .aload_n 0, 16, []), (16, .getfield 29, 19, []), (19, .iload_n 3, 20, []), (20, .iaload, 21, []), (21, .ifCond .ne 7, 24, [28]), (24, .iconst (-1), 25, []), (25, .goto 9, 28, [34]), (28, .aload_n 0, 29, []), (29, .getfield 26, 32, []), (32, .iload_n 3, 33, []), (33, .iaload, 34, []), (34, .ireturn, 35, [])]
set_option maxRecDepth 100000 in
theorem tX1_behind_ok : tX1_behind.all (en_tb cX1_behind) = true := by decide +kernel
def flX1_behind : List (Nat × Nat) := [(29, 7), (26, 6)]
def fpX1_behind : List (Nat × Nat) := []
def tX1_begin : List TbE := [(0, .aload_n 0, 1, []), (1, .dup, 2, []), (2, .getfield 61, 5, []), (5, .iconst 1, 6, []), (6, .iadd, 7, []), (7, .putfield 61, 10, []), (10, .aload_n 0, 11, []), (11, .iconst 1, 12, []), (12, .putfield 58, 15, []), (15, .iconst 0, 16, []), (16, .istore_n 1, 17, []), (17, .iload_n 1, 18, []), (18, .sipush 128, 21, []), (21, .if_icmp .ge 16, 24, [37]), (24, .aload_n 0, 25, []), (25, .getfield 20, 28, []), (28, .iload_n 1, 29, []), (29, .iconst 0, 30, []), (30, .bastore, 31, []), (31, .iinc 1 1, 34, []), (34, .goto (-17), 37, [17]), (37, .iconst 0, 38, []), (38, .istore_n 1, 39, []), (39, .iload_n 1, 40, []), (40, .bipush 8, 42, []), (42, .if_icmp .ge 21, 45, [63]), (45, .aload_n 0, 46, []), (46, .getfield 38, 49, []), (49, .iload_n 1, 50, []), (50, .aload_n 0, 51, []), (51, .getfield 32, 54, []), (54, .iload_n 1, 55, []), (55, .baload, 56, []), (56, .bastore, 57, []), (57, .iinc 1 1, 60, []), (60, .goto (-21), 63, [39]), (63, .aload_n 0, 64, []), (64, .iconst (-1), 65, []), (65, .putfield 44, 68, []), (68, .aload_n 0, 69, []), (69, .invokevirtual 105, 72, []), (72, .return_, 73, [])]
set_option maxRecDepth 100000 in
theorem tX1_begin_ok : tX1_begin.all (en_tb cX1_begin) = true := by decide +kernel
def flX1_begin : List (Nat × Nat) := [(61, 14), (58, 13), (20, 4), (38, 10), (32, 8), (44, 12)]
def fpX1_begin : List (Nat × Nat) := [(61, 14), (58, 13), (44, 12)]
def tX1_markedIn : List TbE := [(0, .iconst 0, 1, []), (1, .istore_n 3, 2, []), (2, .bipush 16, 4, []), (4, .iload_n 1, 5, []), (5, .imul, 6, []), (6, .istore 4, 8, []), (8, .iload 4, 10, []), (10, .bipush 16, 12, []), (12, .iload_n 1, 13, []), (13, .imul, 14, []), (14, .bipush 16, 16, []), (16, .iadd, 17, []), (17, .if_icmp .ge 53, 20, [70]), (20, .aload_n 0, 21, []), (21, .getfield 7, 24, []), (24, .iload 4, 26, []), (26, .baload, 27, []), (27, .ifCond .eq 35, 30, [62]), (30, .aload_n 0, 31, []), (31, .getfield 20, 34, []), (34, .iload 4, 36, []), (36, .baload, 37, []), (37, .ifCond .eq 25, 40, [62]), (40, .iload_n 3, 41, []), (41, .iload_n 2, 42, []), (42, .ifCond .eq 15, 45, [57]), (45, .aload_n 0, 46, []), (46, .getfield 13, 49, []), (49, .iload 4, 51, []), (51, .iaload, 52, []), (52, .iconst 1, 53, []), (53, .iadd, 54, []), (54, .goto 4, 57, [58]), (57, .iconst 1, 58, []), (58, .iadd, 59, []), (59, .goto 4, 62, [63]), (62, .iload_n 3, 63, []), (63, .istore_n 3, 64, []), (64, .iinc 4 1, 67, []), (67, .goto (-59), 70, [8]), (70, .iload_n 3, 71, []), (71, .ireturn, 72, [])]
set_option maxRecDepth 100000 in
theorem tX1_markedIn_ok : tX1_markedIn.all (en_tb cX1_markedIn) = true := by decide +kernel
def flX1_markedIn : List (Nat × Nat) := [(7, 1), (20, 4), (13, 2)]
def fpX1_markedIn : List (Nat × Nat) := []
def tX1_markOne : List TbE := [(0, .aload_n 0, 1, []), (1, .dup, 2, []), (2, .getfield 70, 5, []), (5, .iconst 1, 6, []), (6, .isub, 7, []), (7, .putfield 70, 10, []), (10, .aload_n 0, 11, []), (11, .getfield 48, 14, []), (14, .aload_n 0, 15, []), (15, .getfield 70, 18, []), (18, .iaload, 19, []), (19, .istore_n 1, 20, []), (20, .iconst 0, 21, []), (21, .istore_n 2, 22, []), (22, .iload_n 2, 23, []), (23, .aload_n 0, 24, []), (24, .getfield 13, 27, []), (27, .iload_n 1, 28, []), (28, .iaload, 29, []), (29, .if_icmp .ge 18, 32, [47]), (32, .aload_n 0, 33, []), (33, .iconst 3, 34, []), (34, .iload_n 1, 35, []), (35, .imul, 36, []), (36, .iload_n 2, 37, []), (37, .iadd, 38, []), (38, .invokevirtual 87, 41, []), (41, .iinc 2 1, 44, []), (44, .goto (-22), 47, [22]), (47, .return_, 48, [])]
set_option maxRecDepth 100000 in
theorem tX1_markOne_ok : tX1_markOne.all (en_tb cX1_markOne) = true := by decide +kernel
def flX1_markOne : List (Nat × Nat) := [(70, 17), (48, 18), (13, 2)]
def fpX1_markOne : List (Nat × Nat) := [(70, 17)]
def tX1_choose : List TbE := [(0, .iconst 0, 1, []), (1, .istore_n 1, 2, []), (2, .iload_n 1, 3, []), (3, .sipush 128, 6, []), (6, .if_icmp .ge 16, 9, [22]), (9, .aload_n 0, 10, []), (10, .getfield 23, 13, []), (13, .iload_n 1, 14, []), (14, .iconst (-1), 15, []), (15, .iastore, 16, []), (16, .iinc 1 1, 19, []), (19, .goto (-17), 22, [2]), (22, .iconst 0, 23, []), (23, .istore_n 1, 24, []), (24, .iload_n 1, 25, []), (25, .bipush 8, 27, []), (27, .if_icmp .ge 61, 30, [88]), (30, .aload_n 0, 31, []), (31, .iload_n 1, 32, []), (32, .iconst 1, 33, []), (33, .invokevirtual 108, 36, []), (36, .istore_n 2, 37, []), (37, .aload_n 0, 38, []), (38, .getfield 38, 41, []), (41, .iload_n 1, 42, []), (42, .baload, 43, []), (43, .ifCond .eq 15, 46, [58]), (46, .iload_n 2, 47, []), (47, .ifCond .ne 11, 50, [58]), (50, .aload_n 0, 51, []), (51, .iload_n 1, 52, []), (52, .invokevirtual 112, 55, []), (55, .goto 27, 58, [82]), (58, .aload_n 0, 59, []), (59, .getfield 38, 62, []), (62, .iload_n 1, 63, []), (63, .baload, 64, []), (64, .ifCond .eq 18, 67, [82]), (67, .iload_n 2, 68, []), (68, .aload_n 0, 69, []), (69, .getfield 51, 72, []), (72, .if_icmp .gt 10, 75, [82]), (75, .aload_n 0, 76, []), (76, .getfield 41, 79, []), (79, .iload_n 1, 80, []), (80, .iconst 1, 81, []), (81, .bastore, 82, []), (82, .iinc 1 1, 85, []), (85, .goto (-61), 88, [24]), (88, .aload_n 0, 89, []), (89, .iconst 2, 90, []), (90, .putfield 58, 93, []), (93, .aload_n 0, 94, []), (94, .invokevirtual 105, 97, []), (97, .return_, 98, [])]
set_option maxRecDepth 100000 in
theorem tX1_choose_ok : tX1_choose.all (en_tb cX1_choose) = true := by decide +kernel
def flX1_choose : List (Nat × Nat) := [(23, 5), (38, 10), (51, 0), (41, 11), (58, 13)]
def fpX1_choose : List (Nat × Nat) := [(58, 13)]
def tX1_leastInSet : List TbE := [(0, .iconst 0, 1, []), (1, .istore_n 1, 2, []), (2, .iload_n 1, 3, []), (3, .bipush 8, 5, []), (5, .if_icmp .ge 18, 8, [23]), (8, .aload_n 0, 9, []), (9, .getfield 41, 12, []), (12, .iload_n 1, 13, []), (13, .baload, 14, []), (14, .ifCond .ne 9, 17, [23]), (17, .iinc 1 1, 20, []), (20, .goto (-18), 23, [2]), (23, .iload_n 1, 24, []), (24, .bipush 8, 26, []), (26, .if_icmp .ne 7, 29, [33]), (29, .iconst (-1), 30, []), (30, .goto 4, 33, [34]), (33, .iload_n 1, 34, []), (34, .ireturn, 35, [])]
set_option maxRecDepth 100000 in
theorem tX1_leastInSet_ok : tX1_leastInSet.all (en_tb cX1_leastInSet) = true := by decide +kernel
def flX1_leastInSet : List (Nat × Nat) := [(41, 11)]
def fpX1_leastInSet : List (Nat × Nat) := []
def tX1_relocate : List TbE := [(0, .bipush 16, 2, []), (2, .iload_n 1, 3, []), (3, .imul, 4, []), (4, .istore_n 2, 5, []), (5, .iload_n 2, 6, []), (6, .bipush 16, 8, []), (8, .iload_n 1, 9, []), (9, .imul, 10, []), (10, .bipush 16, 12, []), (12, .iadd, 13, []), (13, .if_icmp .ge 27, 16, [40]), (16, .aload_n 0, 17, []), (17, .getfield 7, 20, []), (20, .iload_n 2, 21, []), (21, .baload, 22, []), (22, .ifCond .eq 12, 25, [34]), (25, .aload_n 0, 26, []), (26, .getfield 20, 29, []), (29, .iload_n 2, 30, []), (30, .baload, 31, []), (31, .ifCond .ne 9, 34, [40]), (34, .iinc 2 1, 37, []), (37, .goto (-32), 40, [5]), (40, .iload_n 2, 41, []), (41, .bipush 16, 43, []), (43, .iload_n 1, 44, []), (44, .imul, 45, []), (45, .bipush 16, 47, []), (47, .iadd, 48, []), (48, .if_icmp .ge 19, 51, [67]), (51, .aload_n 0, 52, []), (52, .iload_n 2, 53, []), (53, .invokevirtual 80, 56, []), (56, .iconst (-1), 57, []), (57, .if_icmp .ne 10, 60, [67]), (60, .aload_n 0, 61, []), (61, .getfield 41, 64, []), (64, .iload_n 1, 65, []), (65, .iconst 0, 66, []), (66, .bastore, 67, []), (67, .aload_n 0, 68, []), (68, .getfield 41, 71, []), (71, .iload_n 1, 72, []), (72, .baload, 73, []), (73, .ifCond .eq 17, 76, [90]), (76, .aload_n 0, 77, []), (77, .iload_n 1, 78, []), (78, .iconst 0, 79, []), (79, .invokevirtual 108, 82, []), (82, .ifCond .ne 8, 85, [90]), (85, .aload_n 0, 86, []), (86, .iload_n 1, 87, []), (87, .invokevirtual 112, 90, []), (90, .return_, 91, [])]
set_option maxRecDepth 100000 in
theorem tX1_relocate_ok : tX1_relocate.all (en_tb cX1_relocate) = true := by decide +kernel
def flX1_relocate : List (Nat × Nat) := [(7, 1), (20, 4), (41, 11)]
def fpX1_relocate : List (Nat × Nat) := []
def tX1_step : List TbE := [(0, .aload_n 0, 1, []), (1, .getfield 58, 4, []), (4, .ifCond .ne 10, 7, [14]), (7, .aload_n 0, 8, []), (8, .invokevirtual 115, 11, []), (11, .goto 56, 14, [67]), (14, .aload_n 0, 15, []), (15, .getfield 58, 18, []), (18, .iconst 1, 19, []), (19, .if_icmp .ne 24, 22, [43]), (22, .aload_n 0, 23, []), (23, .getfield 70, 26, []), (26, .ifCond .le 10, 29, [36]), (29, .aload_n 0, 30, []), (30, .invokevirtual 118, 33, []), (33, .goto 34, 36, [67]), (36, .aload_n 0, 37, []), (37, .invokevirtual 121, 40, []), (40, .goto 27, 43, [67]), (43, .aload_n 0, 44, []), (44, .invokevirtual 124, 47, []), (47, .iconst (-1), 48, []), (48, .if_icmp .eq 14, 51, [62]), (51, .aload_n 0, 52, []), (52, .aload_n 0, 53, []), (53, .invokevirtual 124, 56, []), (56, .invokevirtual 127, 59, []), (59, .goto 8, 62, [67]), (62, .aload_n 0, 63, []), (63, .iconst 0, 64, []), (64, .putfield 58, 67, []), (67, .return_, 68, [])]
set_option maxRecDepth 100000 in
theorem tX1_step_ok : tX1_step.all (en_tb cX1_step) = true := by decide +kernel
def flX1_step : List (Nat × Nat) := [(58, 13), (70, 17)]
def fpX1_step : List (Nat × Nat) := [(58, 13)]
def tX1_collect : List TbE := [(0, .iload_n 1, 1, []), (1, .ifCond .lt 9, 4, [10]), (4, .iload_n 1, 5, []), (5, .bipush 100, 7, []), (7, .if_icmp .le 5, 10, [12]), (10, .iconst (-1), 11, []), (11, .ireturn, 12, []), (12, .iconst 0, 13, []), (13, .istore_n 2, 14, []), (14, .iload_n 2, 15, []), (15, .iload_n 1, 16, []), (16, .if_icmp .ge 13, 19, [29]), (19, .aload_n 0, 20, []), (20, .invokevirtual 130, 23, []), (23, .iinc 2 1, 26, []), (26, .goto (-12), 29, [14]), (29, .aload_n 0, 30, []), (30, .getfield 58, 33, []), (33, .ireturn, 34, [])]
set_option maxRecDepth 100000 in
theorem tX1_collect_ok : tX1_collect.all (en_tb cX1_collect) = true := by decide +kernel
def flX1_collect : List (Nat × Nat) := [(58, 13)]
def fpX1_collect : List (Nat × Nat) := []
def tX1_phase : List TbE := [(0, .aload_n 0, 1, []), (1, .getfield 58, 4, []), (4, .ireturn, 5, [])]
set_option maxRecDepth 100000 in
theorem tX1_phase_ok : tX1_phase.all (en_tb cX1_phase) = true := by decide +kernel
def flX1_phase : List (Nat × Nat) := [(58, 13)]
def fpX1_phase : List (Nat × Nat) := []
def tX1_stack : List TbE := [(0, .aload_n 0, 1, []), (1, .getfield 70, 4, []), (4, .ireturn, 5, [])]
set_option maxRecDepth 100000 in
theorem tX1_stack_ok : tX1_stack.all (en_tb cX1_stack) = true := by decide +kernel
def flX1_stack : List (Nat × Nat) := [(70, 17)]
def fpX1_stack : List (Nat × Nat) := []
def tX1_page : List TbE := [(0, .iload_n 1, 1, []), (1, .ifCond .lt 9, 4, [10]), (4, .iload_n 1, 5, []), (5, .bipush 8, 7, []), (7, .if_icmp .lt 5, 10, [12]), (10, .iconst (-1), 11, []), (11, .ireturn, 12, []), (12, .iconst 0, 13, []), (13, .istore_n 3, 14, []), (14, .iload_n 2, 15, []), (15, .tableswitch 147 0 4 #[33, 73, 80, 87, 102], 48, [162, 48, 88, 95, 102, 117]), (48, .aload_n 0, 49, []), (49, .getfield 32, 52, []), (52, .iload_n 1, 53, []), (53, .baload, 54, []), (54, .ifCond .ne 7, 57, [61]), (57, .iconst 0, 58, []), (58, .goto 29, 61, [87]), (61, .aload_n 0, 62, []), (62, .getfield 41, 65, []), (65, .iload_n 1, 66, []), (66, .baload, 67, []), (67, .ifCond .eq 7, 70, [74]), (70, .iconst 4, 71, []), (71, .goto 16, 74, [87]), (74, .iload_n 1, 75, []), (75, .aload_n 0, 76, []), (76, .getfield 44, 79, []), (79, .if_icmp .ne 7, 82, [86]), (82, .iconst 2, 83, []), (83, .goto 4, 86, [87]), (86, .iconst 1, 87, []), (87, .ireturn, 88, []), (88, .aload_n 0, 89, []), (89, .getfield 35, 92, []), (92, .iload_n 1, 93, []), (93, .iaload, 94, []), (94, .ireturn, 95, []), (95, .aload_n 0, 96, []), (96, .iload_n 1, 97, []), (97, .iconst 0, 98, []), (98, .invokevirtual 108, 101, []), (101, .ireturn, 102, []), (102, .aload_n 0, 103, []), (103, .getfield 38, 106, []), (106, .iload_n 1, 107, []), (107, .baload, 108, []), (108, .ifCond .eq 7, 111, [115]), (111, .iconst 1, 112, []), (112, .goto 4, 115, [116]), (115, .iconst 0, 116, []), (116, .ireturn, 117, []), (117, .bipush 16, 119, []), (119, .iload_n 1, 120, []), (120, .imul, 121, []), (121, .istore 4, 123, []), (123, .iload 4, 125, []), (125, .bipush 16, 127, []), (127, .iload_n 1, 128, []), (128, .imul, 129, []), (129, .bipush 16, 131, []), (131, .iadd, 132, []), (132, .if_icmp .ge 28, 135, [160]), (135, .aload_n 0, 136, []), (136, .getfield 23, 139, []), (139, .iload 4, 141, []), (141, .iaload, 142, []), (142, .iconst (-1), 143, []), (143, .if_icmp .eq 9, 146, [152]), (146, .iload_n 3, 147, []), (147, .iconst 1, 148, []), (148, .iadd, 149, []), (149, .goto 4, 152, [153]), (152, .iload_n 3, 153, []), (153, .istore_n 3, 154, []), (154, .iinc 4 1, 157, []), (157, .goto (-34), 160, [123]), (160, .iload_n 3, 161, []), (161, .ireturn, 162, []), (162, .iconst (-1), 163, []), (163, .ireturn, 164, [])]
set_option maxRecDepth 100000 in
theorem tX1_page_ok : tX1_page.all (en_tb cX1_page) = true := by decide +kernel
def flX1_page : List (Nat × Nat) := [(32, 8), (41, 11), (44, 12), (35, 9), (38, 10), (23, 5)]
def fpX1_page : List (Nat × Nat) := []
def tX1_healed : List TbE := [(0, .aload_n 0, 1, []), (1, .getfield 77, 4, []), (4, .ireturn, 5, [])]
set_option maxRecDepth 100000 in
theorem tX1_healed_ok : tX1_healed.all (en_tb cX1_healed) = true := by decide +kernel
def flX1_healed : List (Nat × Nat) := [(77, 15)]
def fpX1_healed : List (Nat × Nat) := []
def tX1_moved : List TbE := [(0, .aload_n 0, 1, []), (1, .getfield 67, 4, []), (4, .ireturn, 5, [])]
set_option maxRecDepth 100000 in
theorem tX1_moved_ok : tX1_moved.all (en_tb cX1_moved) = true := by decide +kernel
def flX1_moved : List (Nat × Nat) := [(67, 16)]
def fpX1_moved : List (Nat × Nat) := []
def tX1_cycles : List TbE := [(0, .aload_n 0, 1, []), (1, .getfield 61, 4, []), (4, .ireturn, 5, [])]
set_option maxRecDepth 100000 in
theorem tX1_cycles_ok : tX1_cycles.all (en_tb cX1_cycles) = true := by decide +kernel
def flX1_cycles : List (Nat × Nat) := [(61, 14)]
def fpX1_cycles : List (Nat × Nat) := []
def rmX0_make : Room := { frames := 2, cells := 0, slots := 0, locals := 43 }
def rmX0_load : Room := { frames := 4, cells := 0, slots := 0, locals := 92 }
def rmX0_store : Room := { frames := 3, cells := 0, slots := 0, locals := 65 }
def rmX0_copy : Room := { frames := 1, cells := 0, slots := 0, locals := 22 }
def rmX0_drop : Room := { frames := 1, cells := 0, slots := 0, locals := 21 }
def rmX0_value : Room := { frames := 2, cells := 0, slots := 0, locals := 42 }
def rmX0_set : Room := { frames := 2, cells := 0, slots := 0, locals := 42 }
def rmX0_fields : Room := { frames := 2, cells := 0, slots := 0, locals := 42 }
def rmX0_place : Room := { frames := 1, cells := 0, slots := 0, locals := 21 }
def rmX0_colour : Room := { frames := 3, cells := 0, slots := 0, locals := 65 }
def rmX0_behind : Room := { frames := 3, cells := 0, slots := 0, locals := 65 }
def rmX0_collect : Room := { frames := 6, cells := 0, slots := 0, locals := 136 }
def rmX0_phase : Room := { frames := 0, cells := 0, slots := 0, locals := 0 }
def rmX0_stack : Room := { frames := 0, cells := 0, slots := 0, locals := 0 }
def rmX0_page : Room := { frames := 1, cells := 0, slots := 0, locals := 23 }
def rmX0_healed : Room := { frames := 0, cells := 0, slots := 0, locals := 0 }
def rmX0_moved : Room := { frames := 0, cells := 0, slots := 0, locals := 0 }
def rmX0_cycles : Room := { frames := 0, cells := 0, slots := 0, locals := 0 }
def rmX0_isRoot : Room := { frames := 0, cells := 0, slots := 0, locals := 0 }
def rmX0_pageOf : Room := { frames := 0, cells := 0, slots := 0, locals := 0 }
def rmX0_holdsNothing : Room := { frames := 0, cells := 0, slots := 0, locals := 0 }
def rmX0_fieldSlot : Room := { frames := 2, cells := 0, slots := 0, locals := 42 }
def rmX0_copySlot : Room := { frames := 0, cells := 0, slots := 0, locals := 0 }
def rmX0_goodColour : Room := { frames := 0, cells := 0, slots := 0, locals := 0 }
def rmX0_pageState : Room := { frames := 0, cells := 0, slots := 0, locals := 0 }
def rmX0_markedObjects : Room := { frames := 0, cells := 0, slots := 0, locals := 0 }
def rmX0_forwardings : Room := { frames := 0, cells := 0, slots := 0, locals := 0 }
def rmX0_takeRoom : Room := { frames := 1, cells := 0, slots := 0, locals := 21 }
def rmX0_leastFreePage : Room := { frames := 0, cells := 0, slots := 0, locals := 0 }
def rmX0_heal : Room := { frames := 3, cells := 0, slots := 0, locals := 67 }
def rmX0_healSlots : Room := { frames := 4, cells := 0, slots := 0, locals := 92 }
def rmX0_mark : Room := { frames := 0, cells := 0, slots := 0, locals := 0 }
def rmX0_moveAway : Room := { frames := 2, cells := 0, slots := 0, locals := 43 }
def rmX0_step : Room := { frames := 5, cells := 0, slots := 0, locals := 115 }
def rmX0_beginMarking : Room := { frames := 0, cells := 0, slots := 0, locals := 0 }
def rmX0_beginRelocating : Room := { frames := 2, cells := 0, slots := 0, locals := 46 }
def rmX0_judge : Room := { frames := 1, cells := 0, slots := 0, locals := 24 }
def rmX0_liveWords : Room := { frames := 0, cells := 0, slots := 0, locals := 0 }
def rmX0_becomeFree : Room := { frames := 0, cells := 0, slots := 0, locals := 0 }
def rmX0_relocateNext : Room := { frames := 3, cells := 0, slots := 0, locals := 67 }
def rmX0_leastPageOfSet : Room := { frames := 0, cells := 0, slots := 0, locals := 0 }
def rmX0_leastMarkedPlace : Room := { frames := 0, cells := 0, slots := 0, locals := 0 }
def rmX1_isRoot : Room := { frames := 0, cells := 0, slots := 0, locals := 0 }
def rmX1_slotOf : Room := { frames := 0, cells := 0, slots := 0, locals := 0 }
def rmX1_holds : Room := { frames := 1, cells := 0, slots := 0, locals := 20 }
def rmX1_good : Room := { frames := 0, cells := 0, slots := 0, locals := 0 }
def rmX1_room : Room := { frames := 0, cells := 0, slots := 0, locals := 0 }
def rmX1_release : Room := { frames := 0, cells := 0, slots := 0, locals := 0 }
def rmX1_move : Room := { frames := 1, cells := 0, slots := 0, locals := 22 }
def rmX1_mark : Room := { frames := 0, cells := 0, slots := 0, locals := 0 }
def rmX1_heal : Room := { frames := 2, cells := 0, slots := 0, locals := 45 }
def rmX1_healRoots : Room := { frames := 3, cells := 0, slots := 0, locals := 68 }
def rmX1_make : Room := { frames := 1, cells := 0, slots := 0, locals := 22 }
def rmX1_field : Room := { frames := 2, cells := 0, slots := 0, locals := 41 }
def rmX1_copySlot : Room := { frames := 0, cells := 0, slots := 0, locals := 0 }
def rmX1_load : Room := { frames := 3, cells := 0, slots := 0, locals := 68 }
def rmX1_store : Room := { frames := 3, cells := 0, slots := 0, locals := 64 }
def rmX1_copy : Room := { frames := 1, cells := 0, slots := 0, locals := 22 }
def rmX1_drop : Room := { frames := 2, cells := 0, slots := 0, locals := 41 }
def rmX1_value : Room := { frames := 2, cells := 0, slots := 0, locals := 41 }
def rmX1_set : Room := { frames := 2, cells := 0, slots := 0, locals := 41 }
def rmX1_fields : Room := { frames := 2, cells := 0, slots := 0, locals := 41 }
def rmX1_place : Room := { frames := 2, cells := 0, slots := 0, locals := 41 }
def rmX1_colour : Room := { frames := 3, cells := 0, slots := 0, locals := 64 }
def rmX1_behind : Room := { frames := 3, cells := 0, slots := 0, locals := 64 }
def rmX1_begin : Room := { frames := 4, cells := 0, slots := 0, locals := 89 }
def rmX1_markedIn : Room := { frames := 0, cells := 0, slots := 0, locals := 0 }
def rmX1_markOne : Room := { frames := 3, cells := 0, slots := 0, locals := 68 }
def rmX1_choose : Room := { frames := 4, cells := 0, slots := 0, locals := 89 }
def rmX1_leastInSet : Room := { frames := 0, cells := 0, slots := 0, locals := 0 }
def rmX1_relocate : Room := { frames := 2, cells := 0, slots := 0, locals := 45 }
def rmX1_step : Room := { frames := 5, cells := 0, slots := 0, locals := 111 }
def rmX1_collect : Room := { frames := 6, cells := 0, slots := 0, locals := 131 }
def rmX1_phase : Room := { frames := 0, cells := 0, slots := 0, locals := 0 }
def rmX1_stack : Room := { frames := 0, cells := 0, slots := 0, locals := 0 }
def rmX1_page : Room := { frames := 1, cells := 0, slots := 0, locals := 24 }
def rmX1_healed : Room := { frames := 0, cells := 0, slots := 0, locals := 0 }
def rmX1_moved : Room := { frames := 0, cells := 0, slots := 0, locals := 0 }
def rmX1_cycles : Room := { frames := 0, cells := 0, slots := 0, locals := 0 }
set_option maxRecDepth 100000 in
theorem owX0_make : en_Own vwCl wsX0_make RX0 0 TX0 17 tyX0 flX0_make fpX0_make := ⟨rfl, tyX0_ok, nmX0, en_flOk (by decide +kernel) (fun _ w h => List.mem_cons_of_mem _ (List.mem_append_right _ h)), en_fpOk (by decide +kernel) (fun _ w h => List.mem_cons_of_mem _ (List.mem_append_right _ h))⟩
theorem owX0_load : en_Own vwCl wsX0_load RX0 0 TX0 17 tyX0 flX0_load fpX0_load := ⟨rfl, tyX0_ok, nmX0, en_flN, en_flN⟩
theorem owX0_store : en_Own vwCl wsX0_store RX0 0 TX0 17 tyX0 flX0_store fpX0_store := ⟨rfl, tyX0_ok, nmX0, en_flN, en_flN⟩
theorem owX0_copy : en_Own vwCl wsX0_copy RX0 0 TX0 17 tyX0 flX0_copy fpX0_copy := ⟨rfl, tyX0_ok, nmX0, en_flN, en_flN⟩
set_option maxRecDepth 100000 in
theorem owX0_drop : en_Own vwCl wsX0_drop RX0 0 TX0 17 tyX0 flX0_drop fpX0_drop := ⟨rfl, tyX0_ok, nmX0, en_flOk (by decide +kernel) (fun _ w h => List.mem_cons_of_mem _ (List.mem_append_right _ h)), en_fpOk (by decide +kernel) (fun _ w h => List.mem_cons_of_mem _ (List.mem_append_right _ h))⟩
set_option maxRecDepth 100000 in
theorem owX0_value : en_Own vwCl wsX0_value RX0 0 TX0 17 tyX0 flX0_value fpX0_value := ⟨rfl, tyX0_ok, nmX0, en_flOk (by decide +kernel) (fun _ w h => List.mem_cons_of_mem _ (List.mem_append_right _ h)), en_fpOk (by decide +kernel) (fun _ w h => List.mem_cons_of_mem _ (List.mem_append_right _ h))⟩
set_option maxRecDepth 100000 in
theorem owX0_set : en_Own vwCl wsX0_set RX0 0 TX0 17 tyX0 flX0_set fpX0_set := ⟨rfl, tyX0_ok, nmX0, en_flOk (by decide +kernel) (fun _ w h => List.mem_cons_of_mem _ (List.mem_append_right _ h)), en_fpOk (by decide +kernel) (fun _ w h => List.mem_cons_of_mem _ (List.mem_append_right _ h))⟩
set_option maxRecDepth 100000 in
theorem owX0_fields : en_Own vwCl wsX0_fields RX0 0 TX0 17 tyX0 flX0_fields fpX0_fields := ⟨rfl, tyX0_ok, nmX0, en_flOk (by decide +kernel) (fun _ w h => List.mem_cons_of_mem _ (List.mem_append_right _ h)), en_fpOk (by decide +kernel) (fun _ w h => List.mem_cons_of_mem _ (List.mem_append_right _ h))⟩
set_option maxRecDepth 100000 in
theorem owX0_place : en_Own vwCl wsX0_place RX0 0 TX0 17 tyX0 flX0_place fpX0_place := ⟨rfl, tyX0_ok, nmX0, en_flOk (by decide +kernel) (fun _ w h => List.mem_cons_of_mem _ (List.mem_append_right _ h)), en_fpOk (by decide +kernel) (fun _ w h => List.mem_cons_of_mem _ (List.mem_append_right _ h))⟩
set_option maxRecDepth 100000 in
theorem owX0_colour : en_Own vwCl wsX0_colour RX0 0 TX0 17 tyX0 flX0_colour fpX0_colour := ⟨rfl, tyX0_ok, nmX0, en_flOk (by decide +kernel) (fun _ w h => List.mem_cons_of_mem _ (List.mem_append_right _ h)), en_fpOk (by decide +kernel) (fun _ w h => List.mem_cons_of_mem _ (List.mem_append_right _ h))⟩
set_option maxRecDepth 100000 in
theorem owX0_behind : en_Own vwCl wsX0_behind RX0 0 TX0 17 tyX0 flX0_behind fpX0_behind := ⟨rfl, tyX0_ok, nmX0, en_flOk (by decide +kernel) (fun _ w h => List.mem_cons_of_mem _ (List.mem_append_right _ h)), en_fpOk (by decide +kernel) (fun _ w h => List.mem_cons_of_mem _ (List.mem_append_right _ h))⟩
set_option maxRecDepth 100000 in
theorem owX0_collect : en_Own vwCl wsX0_collect RX0 0 TX0 17 tyX0 flX0_collect fpX0_collect := ⟨rfl, tyX0_ok, nmX0, en_flOk (by decide +kernel) (fun _ w h => List.mem_cons_of_mem _ (List.mem_append_right _ h)), en_fpOk (by decide +kernel) (fun _ w h => List.mem_cons_of_mem _ (List.mem_append_right _ h))⟩
set_option maxRecDepth 100000 in
theorem owX0_phase : en_Own vwCl wsX0_phase RX0 0 TX0 17 tyX0 flX0_phase fpX0_phase := ⟨rfl, tyX0_ok, nmX0, en_flOk (by decide +kernel) (fun _ w h => List.mem_cons_of_mem _ (List.mem_append_right _ h)), en_fpOk (by decide +kernel) (fun _ w h => List.mem_cons_of_mem _ (List.mem_append_right _ h))⟩
set_option maxRecDepth 100000 in
theorem owX0_stack : en_Own vwCl wsX0_stack RX0 0 TX0 17 tyX0 flX0_stack fpX0_stack := ⟨rfl, tyX0_ok, nmX0, en_flOk (by decide +kernel) (fun _ w h => List.mem_cons_of_mem _ (List.mem_append_right _ h)), en_fpOk (by decide +kernel) (fun _ w h => List.mem_cons_of_mem _ (List.mem_append_right _ h))⟩
set_option maxRecDepth 100000 in
theorem owX0_page : en_Own vwCl wsX0_page RX0 0 TX0 17 tyX0 flX0_page fpX0_page := ⟨rfl, tyX0_ok, nmX0, en_flOk (by decide +kernel) (fun _ w h => List.mem_cons_of_mem _ (List.mem_append_right _ h)), en_fpOk (by decide +kernel) (fun _ w h => List.mem_cons_of_mem _ (List.mem_append_right _ h))⟩
set_option maxRecDepth 100000 in
theorem owX0_healed : en_Own vwCl wsX0_healed RX0 0 TX0 17 tyX0 flX0_healed fpX0_healed := ⟨rfl, tyX0_ok, nmX0, en_flOk (by decide +kernel) (fun _ w h => List.mem_cons_of_mem _ (List.mem_append_right _ h)), en_fpOk (by decide +kernel) (fun _ w h => List.mem_cons_of_mem _ (List.mem_append_right _ h))⟩
set_option maxRecDepth 100000 in
theorem owX0_moved : en_Own vwCl wsX0_moved RX0 0 TX0 17 tyX0 flX0_moved fpX0_moved := ⟨rfl, tyX0_ok, nmX0, en_flOk (by decide +kernel) (fun _ w h => List.mem_cons_of_mem _ (List.mem_append_right _ h)), en_fpOk (by decide +kernel) (fun _ w h => List.mem_cons_of_mem _ (List.mem_append_right _ h))⟩
set_option maxRecDepth 100000 in
theorem owX0_cycles : en_Own vwCl wsX0_cycles RX0 0 TX0 17 tyX0 flX0_cycles fpX0_cycles := ⟨rfl, tyX0_ok, nmX0, en_flOk (by decide +kernel) (fun _ w h => List.mem_cons_of_mem _ (List.mem_append_right _ h)), en_fpOk (by decide +kernel) (fun _ w h => List.mem_cons_of_mem _ (List.mem_append_right _ h))⟩
theorem owX0_isRoot : en_Own vwCl wsX0_isRoot RX0 0 TX0 17 tyX0 flX0_isRoot fpX0_isRoot := ⟨rfl, tyX0_ok, nmX0, en_flN, en_flN⟩
theorem owX0_pageOf : en_Own vwCl wsX0_pageOf RX0 0 TX0 17 tyX0 flX0_pageOf fpX0_pageOf := ⟨rfl, tyX0_ok, nmX0, en_flN, en_flN⟩
set_option maxRecDepth 100000 in
theorem owX0_holdsNothing : en_Own vwCl wsX0_holdsNothing RX0 0 TX0 17 tyX0 flX0_holdsNothing fpX0_holdsNothing := ⟨rfl, tyX0_ok, nmX0, en_flOk (by decide +kernel) (fun _ w h => List.mem_cons_of_mem _ (List.mem_append_right _ h)), en_fpOk (by decide +kernel) (fun _ w h => List.mem_cons_of_mem _ (List.mem_append_right _ h))⟩
set_option maxRecDepth 100000 in
theorem owX0_fieldSlot : en_Own vwCl wsX0_fieldSlot RX0 0 TX0 17 tyX0 flX0_fieldSlot fpX0_fieldSlot := ⟨rfl, tyX0_ok, nmX0, en_flOk (by decide +kernel) (fun _ w h => List.mem_cons_of_mem _ (List.mem_append_right _ h)), en_fpOk (by decide +kernel) (fun _ w h => List.mem_cons_of_mem _ (List.mem_append_right _ h))⟩
set_option maxRecDepth 100000 in
theorem owX0_copySlot : en_Own vwCl wsX0_copySlot RX0 0 TX0 17 tyX0 flX0_copySlot fpX0_copySlot := ⟨rfl, tyX0_ok, nmX0, en_flOk (by decide +kernel) (fun _ w h => List.mem_cons_of_mem _ (List.mem_append_right _ h)), en_fpOk (by decide +kernel) (fun _ w h => List.mem_cons_of_mem _ (List.mem_append_right _ h))⟩
set_option maxRecDepth 100000 in
theorem owX0_goodColour : en_Own vwCl wsX0_goodColour RX0 0 TX0 17 tyX0 flX0_goodColour fpX0_goodColour := ⟨rfl, tyX0_ok, nmX0, en_flOk (by decide +kernel) (fun _ w h => List.mem_cons_of_mem _ (List.mem_append_right _ h)), en_fpOk (by decide +kernel) (fun _ w h => List.mem_cons_of_mem _ (List.mem_append_right _ h))⟩
set_option maxRecDepth 100000 in
theorem owX0_pageState : en_Own vwCl wsX0_pageState RX0 0 TX0 17 tyX0 flX0_pageState fpX0_pageState := ⟨rfl, tyX0_ok, nmX0, en_flOk (by decide +kernel) (fun _ w h => List.mem_cons_of_mem _ (List.mem_append_right _ h)), en_fpOk (by decide +kernel) (fun _ w h => List.mem_cons_of_mem _ (List.mem_append_right _ h))⟩
set_option maxRecDepth 100000 in
theorem owX0_markedObjects : en_Own vwCl wsX0_markedObjects RX0 0 TX0 17 tyX0 flX0_markedObjects fpX0_markedObjects := ⟨rfl, tyX0_ok, nmX0, en_flOk (by decide +kernel) (fun _ w h => List.mem_cons_of_mem _ (List.mem_append_right _ h)), en_fpOk (by decide +kernel) (fun _ w h => List.mem_cons_of_mem _ (List.mem_append_right _ h))⟩
set_option maxRecDepth 100000 in
theorem owX0_forwardings : en_Own vwCl wsX0_forwardings RX0 0 TX0 17 tyX0 flX0_forwardings fpX0_forwardings := ⟨rfl, tyX0_ok, nmX0, en_flOk (by decide +kernel) (fun _ w h => List.mem_cons_of_mem _ (List.mem_append_right _ h)), en_fpOk (by decide +kernel) (fun _ w h => List.mem_cons_of_mem _ (List.mem_append_right _ h))⟩
set_option maxRecDepth 100000 in
theorem owX0_takeRoom : en_Own vwCl wsX0_takeRoom RX0 0 TX0 17 tyX0 flX0_takeRoom fpX0_takeRoom := ⟨rfl, tyX0_ok, nmX0, en_flOk (by decide +kernel) (fun _ w h => List.mem_cons_of_mem _ (List.mem_append_right _ h)), en_fpOk (by decide +kernel) (fun _ w h => List.mem_cons_of_mem _ (List.mem_append_right _ h))⟩
set_option maxRecDepth 100000 in
theorem owX0_leastFreePage : en_Own vwCl wsX0_leastFreePage RX0 0 TX0 17 tyX0 flX0_leastFreePage fpX0_leastFreePage := ⟨rfl, tyX0_ok, nmX0, en_flOk (by decide +kernel) (fun _ w h => List.mem_cons_of_mem _ (List.mem_append_right _ h)), en_fpOk (by decide +kernel) (fun _ w h => List.mem_cons_of_mem _ (List.mem_append_right _ h))⟩
set_option maxRecDepth 100000 in
theorem owX0_heal : en_Own vwCl wsX0_heal RX0 0 TX0 17 tyX0 flX0_heal fpX0_heal := ⟨rfl, tyX0_ok, nmX0, en_flOk (by decide +kernel) (fun _ w h => List.mem_cons_of_mem _ (List.mem_append_right _ h)), en_fpOk (by decide +kernel) (fun _ w h => List.mem_cons_of_mem _ (List.mem_append_right _ h))⟩
theorem owX0_healSlots : en_Own vwCl wsX0_healSlots RX0 0 TX0 17 tyX0 flX0_healSlots fpX0_healSlots := ⟨rfl, tyX0_ok, nmX0, en_flN, en_flN⟩
set_option maxRecDepth 100000 in
theorem owX0_mark : en_Own vwCl wsX0_mark RX0 0 TX0 17 tyX0 flX0_mark fpX0_mark := ⟨rfl, tyX0_ok, nmX0, en_flOk (by decide +kernel) (fun _ w h => List.mem_cons_of_mem _ (List.mem_append_right _ h)), en_fpOk (by decide +kernel) (fun _ w h => List.mem_cons_of_mem _ (List.mem_append_right _ h))⟩
set_option maxRecDepth 100000 in
theorem owX0_moveAway : en_Own vwCl wsX0_moveAway RX0 0 TX0 17 tyX0 flX0_moveAway fpX0_moveAway := ⟨rfl, tyX0_ok, nmX0, en_flOk (by decide +kernel) (fun _ w h => List.mem_cons_of_mem _ (List.mem_append_right _ h)), en_fpOk (by decide +kernel) (fun _ w h => List.mem_cons_of_mem _ (List.mem_append_right _ h))⟩
set_option maxRecDepth 100000 in
theorem owX0_step : en_Own vwCl wsX0_step RX0 0 TX0 17 tyX0 flX0_step fpX0_step := ⟨rfl, tyX0_ok, nmX0, en_flOk (by decide +kernel) (fun _ w h => List.mem_cons_of_mem _ (List.mem_append_right _ h)), en_fpOk (by decide +kernel) (fun _ w h => List.mem_cons_of_mem _ (List.mem_append_right _ h))⟩
set_option maxRecDepth 100000 in
theorem owX0_beginMarking : en_Own vwCl wsX0_beginMarking RX0 0 TX0 17 tyX0 flX0_beginMarking fpX0_beginMarking := ⟨rfl, tyX0_ok, nmX0, en_flOk (by decide +kernel) (fun _ w h => List.mem_cons_of_mem _ (List.mem_append_right _ h)), en_fpOk (by decide +kernel) (fun _ w h => List.mem_cons_of_mem _ (List.mem_append_right _ h))⟩
set_option maxRecDepth 100000 in
theorem owX0_beginRelocating : en_Own vwCl wsX0_beginRelocating RX0 0 TX0 17 tyX0 flX0_beginRelocating fpX0_beginRelocating := ⟨rfl, tyX0_ok, nmX0, en_flOk (by decide +kernel) (fun _ w h => List.mem_cons_of_mem _ (List.mem_append_right _ h)), en_fpOk (by decide +kernel) (fun _ w h => List.mem_cons_of_mem _ (List.mem_append_right _ h))⟩
set_option maxRecDepth 100000 in
theorem owX0_judge : en_Own vwCl wsX0_judge RX0 0 TX0 17 tyX0 flX0_judge fpX0_judge := ⟨rfl, tyX0_ok, nmX0, en_flOk (by decide +kernel) (fun _ w h => List.mem_cons_of_mem _ (List.mem_append_right _ h)), en_fpOk (by decide +kernel) (fun _ w h => List.mem_cons_of_mem _ (List.mem_append_right _ h))⟩
set_option maxRecDepth 100000 in
theorem owX0_liveWords : en_Own vwCl wsX0_liveWords RX0 0 TX0 17 tyX0 flX0_liveWords fpX0_liveWords := ⟨rfl, tyX0_ok, nmX0, en_flOk (by decide +kernel) (fun _ w h => List.mem_cons_of_mem _ (List.mem_append_right _ h)), en_fpOk (by decide +kernel) (fun _ w h => List.mem_cons_of_mem _ (List.mem_append_right _ h))⟩
set_option maxRecDepth 100000 in
theorem owX0_becomeFree : en_Own vwCl wsX0_becomeFree RX0 0 TX0 17 tyX0 flX0_becomeFree fpX0_becomeFree := ⟨rfl, tyX0_ok, nmX0, en_flOk (by decide +kernel) (fun _ w h => List.mem_cons_of_mem _ (List.mem_append_right _ h)), en_fpOk (by decide +kernel) (fun _ w h => List.mem_cons_of_mem _ (List.mem_append_right _ h))⟩
set_option maxRecDepth 100000 in
theorem owX0_relocateNext : en_Own vwCl wsX0_relocateNext RX0 0 TX0 17 tyX0 flX0_relocateNext fpX0_relocateNext := ⟨rfl, tyX0_ok, nmX0, en_flOk (by decide +kernel) (fun _ w h => List.mem_cons_of_mem _ (List.mem_append_right _ h)), en_fpOk (by decide +kernel) (fun _ w h => List.mem_cons_of_mem _ (List.mem_append_right _ h))⟩
set_option maxRecDepth 100000 in
theorem owX0_leastPageOfSet : en_Own vwCl wsX0_leastPageOfSet RX0 0 TX0 17 tyX0 flX0_leastPageOfSet fpX0_leastPageOfSet := ⟨rfl, tyX0_ok, nmX0, en_flOk (by decide +kernel) (fun _ w h => List.mem_cons_of_mem _ (List.mem_append_right _ h)), en_fpOk (by decide +kernel) (fun _ w h => List.mem_cons_of_mem _ (List.mem_append_right _ h))⟩
set_option maxRecDepth 100000 in
theorem owX0_leastMarkedPlace : en_Own vwCl wsX0_leastMarkedPlace RX0 0 TX0 17 tyX0 flX0_leastMarkedPlace fpX0_leastMarkedPlace := ⟨rfl, tyX0_ok, nmX0, en_flOk (by decide +kernel) (fun _ w h => List.mem_cons_of_mem _ (List.mem_append_right _ h)), en_fpOk (by decide +kernel) (fun _ w h => List.mem_cons_of_mem _ (List.mem_append_right _ h))⟩
theorem owX1_isRoot : en_Own vwCl wsX1_isRoot RX1 1 TX1 19 tyX1 flX1_isRoot fpX1_isRoot := ⟨rfl, tyX1_ok, nmX1, en_flN, en_flN⟩
theorem owX1_slotOf : en_Own vwCl wsX1_slotOf RX1 1 TX1 19 tyX1 flX1_slotOf fpX1_slotOf := ⟨rfl, tyX1_ok, nmX1, en_flN, en_flN⟩
set_option maxRecDepth 100000 in
theorem owX1_holds : en_Own vwCl wsX1_holds RX1 1 TX1 19 tyX1 flX1_holds fpX1_holds := ⟨rfl, tyX1_ok, nmX1, en_flOk (by decide +kernel) (fun _ w h => List.mem_cons_of_mem _ (List.mem_append_right _ h)), en_fpOk (by decide +kernel) (fun _ w h => List.mem_cons_of_mem _ (List.mem_append_right _ h))⟩
set_option maxRecDepth 100000 in
theorem owX1_good : en_Own vwCl wsX1_good RX1 1 TX1 19 tyX1 flX1_good fpX1_good := ⟨rfl, tyX1_ok, nmX1, en_flOk (by decide +kernel) (fun _ w h => List.mem_cons_of_mem _ (List.mem_append_right _ h)), en_fpOk (by decide +kernel) (fun _ w h => List.mem_cons_of_mem _ (List.mem_append_right _ h))⟩
set_option maxRecDepth 100000 in
theorem owX1_room : en_Own vwCl wsX1_room RX1 1 TX1 19 tyX1 flX1_room fpX1_room := ⟨rfl, tyX1_ok, nmX1, en_flOk (by decide +kernel) (fun _ w h => List.mem_cons_of_mem _ (List.mem_append_right _ h)), en_fpOk (by decide +kernel) (fun _ w h => List.mem_cons_of_mem _ (List.mem_append_right _ h))⟩
set_option maxRecDepth 100000 in
theorem owX1_release : en_Own vwCl wsX1_release RX1 1 TX1 19 tyX1 flX1_release fpX1_release := ⟨rfl, tyX1_ok, nmX1, en_flOk (by decide +kernel) (fun _ w h => List.mem_cons_of_mem _ (List.mem_append_right _ h)), en_fpOk (by decide +kernel) (fun _ w h => List.mem_cons_of_mem _ (List.mem_append_right _ h))⟩
set_option maxRecDepth 100000 in
theorem owX1_move : en_Own vwCl wsX1_move RX1 1 TX1 19 tyX1 flX1_move fpX1_move := ⟨rfl, tyX1_ok, nmX1, en_flOk (by decide +kernel) (fun _ w h => List.mem_cons_of_mem _ (List.mem_append_right _ h)), en_fpOk (by decide +kernel) (fun _ w h => List.mem_cons_of_mem _ (List.mem_append_right _ h))⟩
set_option maxRecDepth 100000 in
theorem owX1_mark : en_Own vwCl wsX1_mark RX1 1 TX1 19 tyX1 flX1_mark fpX1_mark := ⟨rfl, tyX1_ok, nmX1, en_flOk (by decide +kernel) (fun _ w h => List.mem_cons_of_mem _ (List.mem_append_right _ h)), en_fpOk (by decide +kernel) (fun _ w h => List.mem_cons_of_mem _ (List.mem_append_right _ h))⟩
set_option maxRecDepth 100000 in
theorem owX1_heal : en_Own vwCl wsX1_heal RX1 1 TX1 19 tyX1 flX1_heal fpX1_heal := ⟨rfl, tyX1_ok, nmX1, en_flOk (by decide +kernel) (fun _ w h => List.mem_cons_of_mem _ (List.mem_append_right _ h)), en_fpOk (by decide +kernel) (fun _ w h => List.mem_cons_of_mem _ (List.mem_append_right _ h))⟩
theorem owX1_healRoots : en_Own vwCl wsX1_healRoots RX1 1 TX1 19 tyX1 flX1_healRoots fpX1_healRoots := ⟨rfl, tyX1_ok, nmX1, en_flN, en_flN⟩
set_option maxRecDepth 100000 in
theorem owX1_make : en_Own vwCl wsX1_make RX1 1 TX1 19 tyX1 flX1_make fpX1_make := ⟨rfl, tyX1_ok, nmX1, en_flOk (by decide +kernel) (fun _ w h => List.mem_cons_of_mem _ (List.mem_append_right _ h)), en_fpOk (by decide +kernel) (fun _ w h => List.mem_cons_of_mem _ (List.mem_append_right _ h))⟩
set_option maxRecDepth 100000 in
theorem owX1_field : en_Own vwCl wsX1_field RX1 1 TX1 19 tyX1 flX1_field fpX1_field := ⟨rfl, tyX1_ok, nmX1, en_flOk (by decide +kernel) (fun _ w h => List.mem_cons_of_mem _ (List.mem_append_right _ h)), en_fpOk (by decide +kernel) (fun _ w h => List.mem_cons_of_mem _ (List.mem_append_right _ h))⟩
set_option maxRecDepth 100000 in
theorem owX1_copySlot : en_Own vwCl wsX1_copySlot RX1 1 TX1 19 tyX1 flX1_copySlot fpX1_copySlot := ⟨rfl, tyX1_ok, nmX1, en_flOk (by decide +kernel) (fun _ w h => List.mem_cons_of_mem _ (List.mem_append_right _ h)), en_fpOk (by decide +kernel) (fun _ w h => List.mem_cons_of_mem _ (List.mem_append_right _ h))⟩
set_option maxRecDepth 100000 in
theorem owX1_load : en_Own vwCl wsX1_load RX1 1 TX1 19 tyX1 flX1_load fpX1_load := ⟨rfl, tyX1_ok, nmX1, en_flOk (by decide +kernel) (fun _ w h => List.mem_cons_of_mem _ (List.mem_append_right _ h)), en_fpOk (by decide +kernel) (fun _ w h => List.mem_cons_of_mem _ (List.mem_append_right _ h))⟩
theorem owX1_store : en_Own vwCl wsX1_store RX1 1 TX1 19 tyX1 flX1_store fpX1_store := ⟨rfl, tyX1_ok, nmX1, en_flN, en_flN⟩
theorem owX1_copy : en_Own vwCl wsX1_copy RX1 1 TX1 19 tyX1 flX1_copy fpX1_copy := ⟨rfl, tyX1_ok, nmX1, en_flN, en_flN⟩
set_option maxRecDepth 100000 in
theorem owX1_drop : en_Own vwCl wsX1_drop RX1 1 TX1 19 tyX1 flX1_drop fpX1_drop := ⟨rfl, tyX1_ok, nmX1, en_flOk (by decide +kernel) (fun _ w h => List.mem_cons_of_mem _ (List.mem_append_right _ h)), en_fpOk (by decide +kernel) (fun _ w h => List.mem_cons_of_mem _ (List.mem_append_right _ h))⟩
set_option maxRecDepth 100000 in
theorem owX1_value : en_Own vwCl wsX1_value RX1 1 TX1 19 tyX1 flX1_value fpX1_value := ⟨rfl, tyX1_ok, nmX1, en_flOk (by decide +kernel) (fun _ w h => List.mem_cons_of_mem _ (List.mem_append_right _ h)), en_fpOk (by decide +kernel) (fun _ w h => List.mem_cons_of_mem _ (List.mem_append_right _ h))⟩
set_option maxRecDepth 100000 in
theorem owX1_set : en_Own vwCl wsX1_set RX1 1 TX1 19 tyX1 flX1_set fpX1_set := ⟨rfl, tyX1_ok, nmX1, en_flOk (by decide +kernel) (fun _ w h => List.mem_cons_of_mem _ (List.mem_append_right _ h)), en_fpOk (by decide +kernel) (fun _ w h => List.mem_cons_of_mem _ (List.mem_append_right _ h))⟩
set_option maxRecDepth 100000 in
theorem owX1_fields : en_Own vwCl wsX1_fields RX1 1 TX1 19 tyX1 flX1_fields fpX1_fields := ⟨rfl, tyX1_ok, nmX1, en_flOk (by decide +kernel) (fun _ w h => List.mem_cons_of_mem _ (List.mem_append_right _ h)), en_fpOk (by decide +kernel) (fun _ w h => List.mem_cons_of_mem _ (List.mem_append_right _ h))⟩
set_option maxRecDepth 100000 in
theorem owX1_place : en_Own vwCl wsX1_place RX1 1 TX1 19 tyX1 flX1_place fpX1_place := ⟨rfl, tyX1_ok, nmX1, en_flOk (by decide +kernel) (fun _ w h => List.mem_cons_of_mem _ (List.mem_append_right _ h)), en_fpOk (by decide +kernel) (fun _ w h => List.mem_cons_of_mem _ (List.mem_append_right _ h))⟩
set_option maxRecDepth 100000 in
theorem owX1_colour : en_Own vwCl wsX1_colour RX1 1 TX1 19 tyX1 flX1_colour fpX1_colour := ⟨rfl, tyX1_ok, nmX1, en_flOk (by decide +kernel) (fun _ w h => List.mem_cons_of_mem _ (List.mem_append_right _ h)), en_fpOk (by decide +kernel) (fun _ w h => List.mem_cons_of_mem _ (List.mem_append_right _ h))⟩
set_option maxRecDepth 100000 in
theorem owX1_behind : en_Own vwCl wsX1_behind RX1 1 TX1 19 tyX1 flX1_behind fpX1_behind := ⟨rfl, tyX1_ok, nmX1, en_flOk (by decide +kernel) (fun _ w h => List.mem_cons_of_mem _ (List.mem_append_right _ h)), en_fpOk (by decide +kernel) (fun _ w h => List.mem_cons_of_mem _ (List.mem_append_right _ h))⟩
set_option maxRecDepth 100000 in
theorem owX1_begin : en_Own vwCl wsX1_begin RX1 1 TX1 19 tyX1 flX1_begin fpX1_begin := ⟨rfl, tyX1_ok, nmX1, en_flOk (by decide +kernel) (fun _ w h => List.mem_cons_of_mem _ (List.mem_append_right _ h)), en_fpOk (by decide +kernel) (fun _ w h => List.mem_cons_of_mem _ (List.mem_append_right _ h))⟩
set_option maxRecDepth 100000 in
theorem owX1_markedIn : en_Own vwCl wsX1_markedIn RX1 1 TX1 19 tyX1 flX1_markedIn fpX1_markedIn := ⟨rfl, tyX1_ok, nmX1, en_flOk (by decide +kernel) (fun _ w h => List.mem_cons_of_mem _ (List.mem_append_right _ h)), en_fpOk (by decide +kernel) (fun _ w h => List.mem_cons_of_mem _ (List.mem_append_right _ h))⟩
set_option maxRecDepth 100000 in
theorem owX1_markOne : en_Own vwCl wsX1_markOne RX1 1 TX1 19 tyX1 flX1_markOne fpX1_markOne := ⟨rfl, tyX1_ok, nmX1, en_flOk (by decide +kernel) (fun _ w h => List.mem_cons_of_mem _ (List.mem_append_right _ h)), en_fpOk (by decide +kernel) (fun _ w h => List.mem_cons_of_mem _ (List.mem_append_right _ h))⟩
set_option maxRecDepth 100000 in
theorem owX1_choose : en_Own vwCl wsX1_choose RX1 1 TX1 19 tyX1 flX1_choose fpX1_choose := ⟨rfl, tyX1_ok, nmX1, en_flOk (by decide +kernel) (fun _ w h => List.mem_cons_of_mem _ (List.mem_append_right _ h)), en_fpOk (by decide +kernel) (fun _ w h => List.mem_cons_of_mem _ (List.mem_append_right _ h))⟩
set_option maxRecDepth 100000 in
theorem owX1_leastInSet : en_Own vwCl wsX1_leastInSet RX1 1 TX1 19 tyX1 flX1_leastInSet fpX1_leastInSet := ⟨rfl, tyX1_ok, nmX1, en_flOk (by decide +kernel) (fun _ w h => List.mem_cons_of_mem _ (List.mem_append_right _ h)), en_fpOk (by decide +kernel) (fun _ w h => List.mem_cons_of_mem _ (List.mem_append_right _ h))⟩
set_option maxRecDepth 100000 in
theorem owX1_relocate : en_Own vwCl wsX1_relocate RX1 1 TX1 19 tyX1 flX1_relocate fpX1_relocate := ⟨rfl, tyX1_ok, nmX1, en_flOk (by decide +kernel) (fun _ w h => List.mem_cons_of_mem _ (List.mem_append_right _ h)), en_fpOk (by decide +kernel) (fun _ w h => List.mem_cons_of_mem _ (List.mem_append_right _ h))⟩
set_option maxRecDepth 100000 in
theorem owX1_step : en_Own vwCl wsX1_step RX1 1 TX1 19 tyX1 flX1_step fpX1_step := ⟨rfl, tyX1_ok, nmX1, en_flOk (by decide +kernel) (fun _ w h => List.mem_cons_of_mem _ (List.mem_append_right _ h)), en_fpOk (by decide +kernel) (fun _ w h => List.mem_cons_of_mem _ (List.mem_append_right _ h))⟩
set_option maxRecDepth 100000 in
theorem owX1_collect : en_Own vwCl wsX1_collect RX1 1 TX1 19 tyX1 flX1_collect fpX1_collect := ⟨rfl, tyX1_ok, nmX1, en_flOk (by decide +kernel) (fun _ w h => List.mem_cons_of_mem _ (List.mem_append_right _ h)), en_fpOk (by decide +kernel) (fun _ w h => List.mem_cons_of_mem _ (List.mem_append_right _ h))⟩
set_option maxRecDepth 100000 in
theorem owX1_phase : en_Own vwCl wsX1_phase RX1 1 TX1 19 tyX1 flX1_phase fpX1_phase := ⟨rfl, tyX1_ok, nmX1, en_flOk (by decide +kernel) (fun _ w h => List.mem_cons_of_mem _ (List.mem_append_right _ h)), en_fpOk (by decide +kernel) (fun _ w h => List.mem_cons_of_mem _ (List.mem_append_right _ h))⟩
set_option maxRecDepth 100000 in
theorem owX1_stack : en_Own vwCl wsX1_stack RX1 1 TX1 19 tyX1 flX1_stack fpX1_stack := ⟨rfl, tyX1_ok, nmX1, en_flOk (by decide +kernel) (fun _ w h => List.mem_cons_of_mem _ (List.mem_append_right _ h)), en_fpOk (by decide +kernel) (fun _ w h => List.mem_cons_of_mem _ (List.mem_append_right _ h))⟩
set_option maxRecDepth 100000 in
theorem owX1_page : en_Own vwCl wsX1_page RX1 1 TX1 19 tyX1 flX1_page fpX1_page := ⟨rfl, tyX1_ok, nmX1, en_flOk (by decide +kernel) (fun _ w h => List.mem_cons_of_mem _ (List.mem_append_right _ h)), en_fpOk (by decide +kernel) (fun _ w h => List.mem_cons_of_mem _ (List.mem_append_right _ h))⟩
set_option maxRecDepth 100000 in
theorem owX1_healed : en_Own vwCl wsX1_healed RX1 1 TX1 19 tyX1 flX1_healed fpX1_healed := ⟨rfl, tyX1_ok, nmX1, en_flOk (by decide +kernel) (fun _ w h => List.mem_cons_of_mem _ (List.mem_append_right _ h)), en_fpOk (by decide +kernel) (fun _ w h => List.mem_cons_of_mem _ (List.mem_append_right _ h))⟩
set_option maxRecDepth 100000 in
theorem owX1_moved : en_Own vwCl wsX1_moved RX1 1 TX1 19 tyX1 flX1_moved fpX1_moved := ⟨rfl, tyX1_ok, nmX1, en_flOk (by decide +kernel) (fun _ w h => List.mem_cons_of_mem _ (List.mem_append_right _ h)), en_fpOk (by decide +kernel) (fun _ w h => List.mem_cons_of_mem _ (List.mem_append_right _ h))⟩
set_option maxRecDepth 100000 in
theorem owX1_cycles : en_Own vwCl wsX1_cycles RX1 1 TX1 19 tyX1 flX1_cycles fpX1_cycles := ⟨rfl, tyX1_ok, nmX1, en_flOk (by decide +kernel) (fun _ w h => List.mem_cons_of_mem _ (List.mem_append_right _ h)), en_fpOk (by decide +kernel) (fun _ w h => List.mem_cons_of_mem _ (List.mem_append_right _ h))⟩
