def tcX0_init_0 : List (Instr × Nat) := [(.aload_n 0, 1), (.invokespecial 3, 3), (.aload_n 0, 1), (.aload_n 1, 1), (.putfield 9, 3), (.aload_n 0, 1), (.aload_n 2, 1), (.putfield 15, 3), (.return_, 1)]
theorem ocX0_init_0 : chk (cX0_init.data.toList.drop 0) tcX0_init_0 = true := by decide +kernel
theorem dX0_init_0 : decode cX0_init 0 = .ok (.aload_n 0, 1) := chk_nth ocX0_init_0 (k := 0) rfl
theorem dX0_init_1 : decode cX0_init 1 = .ok (.invokespecial 3, 3) := chk_nth ocX0_init_0 (k := 1) rfl
theorem dX0_init_4 : decode cX0_init 4 = .ok (.aload_n 0, 1) := chk_nth ocX0_init_0 (k := 2) rfl
theorem dX0_init_5 : decode cX0_init 5 = .ok (.aload_n 1, 1) := chk_nth ocX0_init_0 (k := 3) rfl
theorem dX0_init_6 : decode cX0_init 6 = .ok (.putfield 9, 3) := chk_nth ocX0_init_0 (k := 4) rfl
theorem dX0_init_9 : decode cX0_init 9 = .ok (.aload_n 0, 1) := chk_nth ocX0_init_0 (k := 5) rfl
theorem dX0_init_10 : decode cX0_init 10 = .ok (.aload_n 2, 1) := chk_nth ocX0_init_0 (k := 6) rfl
theorem dX0_init_11 : decode cX0_init 11 = .ok (.putfield 15, 3) := chk_nth ocX0_init_0 (k := 7) rfl
theorem dX0_init_14 : decode cX0_init 14 = .ok (.return_, 1) := chk_nth ocX0_init_0 (k := 8) rfl
def tcX0_walks_0 : List (Instr × Nat) := [(.aload_n 0, 1), (.getfield 15, 3), (.iload_n 1, 1), (.iload_n 2, 1), (.aload_n 3, 1), (.iload_n 1, 1), (.invokevirtual 19, 3), (.aload_n 3, 1), (.invokevirtual 25, 3), (.istore 4, 2), (.iload 4, 2), (.ifCond .ge 7, 3), (.iload 4, 2), (.ineg, 1), (.ireturn, 1), (.aload_n 3, 1), (.iload_n 1, 1), (.iload 4, 2), (.bipush 20, 2), (.idiv, 1), (.iload 4, 2), (.bipush 20, 2), (.irem, 1), (.invokevirtual 31, 3)]
theorem ocX0_walks_0 : chk (cX0_walks.data.toList.drop 0) tcX0_walks_0 = true := by decide +kernel
theorem dX0_walks_0 : decode cX0_walks 0 = .ok (.aload_n 0, 1) := chk_nth ocX0_walks_0 (k := 0) rfl
theorem dX0_walks_1 : decode cX0_walks 1 = .ok (.getfield 15, 3) := chk_nth ocX0_walks_0 (k := 1) rfl
theorem dX0_walks_4 : decode cX0_walks 4 = .ok (.iload_n 1, 1) := chk_nth ocX0_walks_0 (k := 2) rfl
theorem dX0_walks_5 : decode cX0_walks 5 = .ok (.iload_n 2, 1) := chk_nth ocX0_walks_0 (k := 3) rfl
theorem dX0_walks_6 : decode cX0_walks 6 = .ok (.aload_n 3, 1) := chk_nth ocX0_walks_0 (k := 4) rfl
theorem dX0_walks_7 : decode cX0_walks 7 = .ok (.iload_n 1, 1) := chk_nth ocX0_walks_0 (k := 5) rfl
theorem dX0_walks_8 : decode cX0_walks 8 = .ok (.invokevirtual 19, 3) := chk_nth ocX0_walks_0 (k := 6) rfl
theorem dX0_walks_11 : decode cX0_walks 11 = .ok (.aload_n 3, 1) := chk_nth ocX0_walks_0 (k := 7) rfl
theorem dX0_walks_12 : decode cX0_walks 12 = .ok (.invokevirtual 25, 3) := chk_nth ocX0_walks_0 (k := 8) rfl
theorem dX0_walks_15 : decode cX0_walks 15 = .ok (.istore 4, 2) := chk_nth ocX0_walks_0 (k := 9) rfl
theorem dX0_walks_17 : decode cX0_walks 17 = .ok (.iload 4, 2) := chk_nth ocX0_walks_0 (k := 10) rfl
theorem dX0_walks_19 : decode cX0_walks 19 = .ok (.ifCond .ge 7, 3) := chk_nth ocX0_walks_0 (k := 11) rfl
theorem dX0_walks_22 : decode cX0_walks 22 = .ok (.iload 4, 2) := chk_nth ocX0_walks_0 (k := 12) rfl
theorem dX0_walks_24 : decode cX0_walks 24 = .ok (.ineg, 1) := chk_nth ocX0_walks_0 (k := 13) rfl
theorem dX0_walks_25 : decode cX0_walks 25 = .ok (.ireturn, 1) := chk_nth ocX0_walks_0 (k := 14) rfl
theorem dX0_walks_26 : decode cX0_walks 26 = .ok (.aload_n 3, 1) := chk_nth ocX0_walks_0 (k := 15) rfl
theorem dX0_walks_27 : decode cX0_walks 27 = .ok (.iload_n 1, 1) := chk_nth ocX0_walks_0 (k := 16) rfl
theorem dX0_walks_28 : decode cX0_walks 28 = .ok (.iload 4, 2) := chk_nth ocX0_walks_0 (k := 17) rfl
theorem dX0_walks_30 : decode cX0_walks 30 = .ok (.bipush 20, 2) := chk_nth ocX0_walks_0 (k := 18) rfl
theorem dX0_walks_32 : decode cX0_walks 32 = .ok (.idiv, 1) := chk_nth ocX0_walks_0 (k := 19) rfl
theorem dX0_walks_33 : decode cX0_walks 33 = .ok (.iload 4, 2) := chk_nth ocX0_walks_0 (k := 20) rfl
theorem dX0_walks_35 : decode cX0_walks 35 = .ok (.bipush 20, 2) := chk_nth ocX0_walks_0 (k := 21) rfl
theorem dX0_walks_37 : decode cX0_walks 37 = .ok (.irem, 1) := chk_nth ocX0_walks_0 (k := 22) rfl
theorem dX0_walks_38 : decode cX0_walks 38 = .ok (.invokevirtual 31, 3) := chk_nth ocX0_walks_0 (k := 23) rfl
def tcX0_walks_1 : List (Instr × Nat) := [(.iconst 0, 1), (.ireturn, 1)]
theorem ocX0_walks_1 : chk (cX0_walks.data.toList.drop 41) tcX0_walks_1 = true := by decide +kernel
theorem dX0_walks_41 : decode cX0_walks 41 = .ok (.iconst 0, 1) := chk_nth ocX0_walks_1 (k := 0) rfl
theorem dX0_walks_42 : decode cX0_walks 42 = .ok (.ireturn, 1) := chk_nth ocX0_walks_1 (k := 1) rfl
def tcX0_signs_0 : List (Instr × Nat) := [(.aload_n 0, 1), (.getfield 9, 3), (.iload_n 1, 1), (.invokevirtual 35, 3), (.ifCond .eq 12, 3), (.iload_n 2, 1), (.ifCond .lt 8, 3), (.iload_n 2, 1), (.iconst 3, 1), (.if_icmp .le 5, 3), (.iconst 1, 1), (.ireturn, 1), (.aload_n 3, 1), (.iload_n 1, 1), (.iload_n 2, 1), (.invokevirtual 41, 3), (.iconst 0, 1), (.ireturn, 1)]
theorem ocX0_signs_0 : chk (cX0_signs.data.toList.drop 0) tcX0_signs_0 = true := by decide +kernel
theorem dX0_signs_0 : decode cX0_signs 0 = .ok (.aload_n 0, 1) := chk_nth ocX0_signs_0 (k := 0) rfl
theorem dX0_signs_1 : decode cX0_signs 1 = .ok (.getfield 9, 3) := chk_nth ocX0_signs_0 (k := 1) rfl
theorem dX0_signs_4 : decode cX0_signs 4 = .ok (.iload_n 1, 1) := chk_nth ocX0_signs_0 (k := 2) rfl
theorem dX0_signs_5 : decode cX0_signs 5 = .ok (.invokevirtual 35, 3) := chk_nth ocX0_signs_0 (k := 3) rfl
theorem dX0_signs_8 : decode cX0_signs 8 = .ok (.ifCond .eq 12, 3) := chk_nth ocX0_signs_0 (k := 4) rfl
theorem dX0_signs_11 : decode cX0_signs 11 = .ok (.iload_n 2, 1) := chk_nth ocX0_signs_0 (k := 5) rfl
theorem dX0_signs_12 : decode cX0_signs 12 = .ok (.ifCond .lt 8, 3) := chk_nth ocX0_signs_0 (k := 6) rfl
theorem dX0_signs_15 : decode cX0_signs 15 = .ok (.iload_n 2, 1) := chk_nth ocX0_signs_0 (k := 7) rfl
theorem dX0_signs_16 : decode cX0_signs 16 = .ok (.iconst 3, 1) := chk_nth ocX0_signs_0 (k := 8) rfl
theorem dX0_signs_17 : decode cX0_signs 17 = .ok (.if_icmp .le 5, 3) := chk_nth ocX0_signs_0 (k := 9) rfl
theorem dX0_signs_20 : decode cX0_signs 20 = .ok (.iconst 1, 1) := chk_nth ocX0_signs_0 (k := 10) rfl
theorem dX0_signs_21 : decode cX0_signs 21 = .ok (.ireturn, 1) := chk_nth ocX0_signs_0 (k := 11) rfl
theorem dX0_signs_22 : decode cX0_signs 22 = .ok (.aload_n 3, 1) := chk_nth ocX0_signs_0 (k := 12) rfl
theorem dX0_signs_23 : decode cX0_signs 23 = .ok (.iload_n 1, 1) := chk_nth ocX0_signs_0 (k := 13) rfl
theorem dX0_signs_24 : decode cX0_signs 24 = .ok (.iload_n 2, 1) := chk_nth ocX0_signs_0 (k := 14) rfl
theorem dX0_signs_25 : decode cX0_signs 25 = .ok (.invokevirtual 41, 3) := chk_nth ocX0_signs_0 (k := 15) rfl
theorem dX0_signs_28 : decode cX0_signs 28 = .ok (.iconst 0, 1) := chk_nth ocX0_signs_0 (k := 16) rfl
theorem dX0_signs_29 : decode cX0_signs 29 = .ok (.ireturn, 1) := chk_nth ocX0_signs_0 (k := 17) rfl
def tcX0_plants_0 : List (Instr × Nat) := [(.iload_n 1, 1), (.ifCond .lt 9, 3), (.iload_n 1, 1), (.bipush 9, 2), (.if_icmp .le 5, 3), (.iconst 1, 1), (.ireturn, 1), (.aload_n 2, 1), (.iload_n 1, 1), (.putfield 45, 3), (.iconst 0, 1), (.ireturn, 1)]
theorem ocX0_plants_0 : chk (cX0_plants.data.toList.drop 0) tcX0_plants_0 = true := by decide +kernel
theorem dX0_plants_0 : decode cX0_plants 0 = .ok (.iload_n 1, 1) := chk_nth ocX0_plants_0 (k := 0) rfl
theorem dX0_plants_1 : decode cX0_plants 1 = .ok (.ifCond .lt 9, 3) := chk_nth ocX0_plants_0 (k := 1) rfl
theorem dX0_plants_4 : decode cX0_plants 4 = .ok (.iload_n 1, 1) := chk_nth ocX0_plants_0 (k := 2) rfl
theorem dX0_plants_5 : decode cX0_plants 5 = .ok (.bipush 9, 2) := chk_nth ocX0_plants_0 (k := 3) rfl
theorem dX0_plants_7 : decode cX0_plants 7 = .ok (.if_icmp .le 5, 3) := chk_nth ocX0_plants_0 (k := 4) rfl
theorem dX0_plants_10 : decode cX0_plants 10 = .ok (.iconst 1, 1) := chk_nth ocX0_plants_0 (k := 5) rfl
theorem dX0_plants_11 : decode cX0_plants 11 = .ok (.ireturn, 1) := chk_nth ocX0_plants_0 (k := 6) rfl
theorem dX0_plants_12 : decode cX0_plants 12 = .ok (.aload_n 2, 1) := chk_nth ocX0_plants_0 (k := 7) rfl
theorem dX0_plants_13 : decode cX0_plants 13 = .ok (.iload_n 1, 1) := chk_nth ocX0_plants_0 (k := 8) rfl
theorem dX0_plants_14 : decode cX0_plants 14 = .ok (.putfield 45, 3) := chk_nth ocX0_plants_0 (k := 9) rfl
theorem dX0_plants_17 : decode cX0_plants 17 = .ok (.iconst 0, 1) := chk_nth ocX0_plants_0 (k := 10) rfl
theorem dX0_plants_18 : decode cX0_plants 18 = .ok (.ireturn, 1) := chk_nth ocX0_plants_0 (k := 11) rfl
def tcX0_moves_0 : List (Instr × Nat) := [(.aload_n 0, 1), (.getfield 9, 3), (.iload_n 1, 1), (.invokevirtual 49, 3), (.ifCond .eq 21, 3), (.aload_n 0, 1), (.getfield 9, 3), (.iload_n 2, 1), (.invokevirtual 52, 3), (.ifCond .eq 10, 3), (.iload_n 3, 1), (.invokestatic 55, 3), (.ifCond .ne 5, 3), (.iconst 1, 1), (.ireturn, 1), (.aload 4, 2), (.iload_n 1, 1), (.iload_n 2, 1), (.iload_n 3, 1), (.invokevirtual 31, 3), (.iconst 0, 1), (.ireturn, 1)]
theorem ocX0_moves_0 : chk (cX0_moves.data.toList.drop 0) tcX0_moves_0 = true := by decide +kernel
theorem dX0_moves_0 : decode cX0_moves 0 = .ok (.aload_n 0, 1) := chk_nth ocX0_moves_0 (k := 0) rfl
theorem dX0_moves_1 : decode cX0_moves 1 = .ok (.getfield 9, 3) := chk_nth ocX0_moves_0 (k := 1) rfl
theorem dX0_moves_4 : decode cX0_moves 4 = .ok (.iload_n 1, 1) := chk_nth ocX0_moves_0 (k := 2) rfl
theorem dX0_moves_5 : decode cX0_moves 5 = .ok (.invokevirtual 49, 3) := chk_nth ocX0_moves_0 (k := 3) rfl
theorem dX0_moves_8 : decode cX0_moves 8 = .ok (.ifCond .eq 21, 3) := chk_nth ocX0_moves_0 (k := 4) rfl
theorem dX0_moves_11 : decode cX0_moves 11 = .ok (.aload_n 0, 1) := chk_nth ocX0_moves_0 (k := 5) rfl
theorem dX0_moves_12 : decode cX0_moves 12 = .ok (.getfield 9, 3) := chk_nth ocX0_moves_0 (k := 6) rfl
theorem dX0_moves_15 : decode cX0_moves 15 = .ok (.iload_n 2, 1) := chk_nth ocX0_moves_0 (k := 7) rfl
theorem dX0_moves_16 : decode cX0_moves 16 = .ok (.invokevirtual 52, 3) := chk_nth ocX0_moves_0 (k := 8) rfl
theorem dX0_moves_19 : decode cX0_moves 19 = .ok (.ifCond .eq 10, 3) := chk_nth ocX0_moves_0 (k := 9) rfl
theorem dX0_moves_22 : decode cX0_moves 22 = .ok (.iload_n 3, 1) := chk_nth ocX0_moves_0 (k := 10) rfl
theorem dX0_moves_23 : decode cX0_moves 23 = .ok (.invokestatic 55, 3) := chk_nth ocX0_moves_0 (k := 11) rfl
theorem dX0_moves_26 : decode cX0_moves 26 = .ok (.ifCond .ne 5, 3) := chk_nth ocX0_moves_0 (k := 12) rfl
theorem dX0_moves_29 : decode cX0_moves 29 = .ok (.iconst 1, 1) := chk_nth ocX0_moves_0 (k := 13) rfl
theorem dX0_moves_30 : decode cX0_moves 30 = .ok (.ireturn, 1) := chk_nth ocX0_moves_0 (k := 14) rfl
theorem dX0_moves_31 : decode cX0_moves 31 = .ok (.aload 4, 2) := chk_nth ocX0_moves_0 (k := 15) rfl
theorem dX0_moves_33 : decode cX0_moves 33 = .ok (.iload_n 1, 1) := chk_nth ocX0_moves_0 (k := 16) rfl
theorem dX0_moves_34 : decode cX0_moves 34 = .ok (.iload_n 2, 1) := chk_nth ocX0_moves_0 (k := 17) rfl
theorem dX0_moves_35 : decode cX0_moves 35 = .ok (.iload_n 3, 1) := chk_nth ocX0_moves_0 (k := 18) rfl
theorem dX0_moves_36 : decode cX0_moves 36 = .ok (.invokevirtual 31, 3) := chk_nth ocX0_moves_0 (k := 19) rfl
theorem dX0_moves_39 : decode cX0_moves 39 = .ok (.iconst 0, 1) := chk_nth ocX0_moves_0 (k := 20) rfl
theorem dX0_moves_40 : decode cX0_moves 40 = .ok (.ireturn, 1) := chk_nth ocX0_moves_0 (k := 21) rfl
def tcX0_told_0 : List (Instr × Nat) := [(.lload_n 1, 1), (.lconst 0, 1), (.lcmp, 1), (.ifCond .lt 11, 3), (.lload_n 1, 1), (.ldc2_w 58, 3), (.lcmp, 1), (.ifCond .le 5, 3), (.iconst 1, 1), (.ireturn, 1), (.lload_n 1, 1), (.l2i, 1), (.istore 4, 2), (.iload 4, 2), (.bipush 100, 2), (.if_icmp .ge 19, 3), (.aload_n 0, 1), (.iload 4, 2), (.bipush 10, 2), (.idiv, 1), (.iload 4, 2), (.bipush 10, 2), (.irem, 1), (.aload_n 3, 1)]
theorem ocX0_told_0 : chk (cX0_told.data.toList.drop 0) tcX0_told_0 = true := by decide +kernel
theorem dX0_told_0 : decode cX0_told 0 = .ok (.lload_n 1, 1) := chk_nth ocX0_told_0 (k := 0) rfl
theorem dX0_told_1 : decode cX0_told 1 = .ok (.lconst 0, 1) := chk_nth ocX0_told_0 (k := 1) rfl
theorem dX0_told_2 : decode cX0_told 2 = .ok (.lcmp, 1) := chk_nth ocX0_told_0 (k := 2) rfl
theorem dX0_told_3 : decode cX0_told 3 = .ok (.ifCond .lt 11, 3) := chk_nth ocX0_told_0 (k := 3) rfl
theorem dX0_told_6 : decode cX0_told 6 = .ok (.lload_n 1, 1) := chk_nth ocX0_told_0 (k := 4) rfl
theorem dX0_told_7 : decode cX0_told 7 = .ok (.ldc2_w 58, 3) := chk_nth ocX0_told_0 (k := 5) rfl
theorem dX0_told_10 : decode cX0_told 10 = .ok (.lcmp, 1) := chk_nth ocX0_told_0 (k := 6) rfl
theorem dX0_told_11 : decode cX0_told 11 = .ok (.ifCond .le 5, 3) := chk_nth ocX0_told_0 (k := 7) rfl
theorem dX0_told_14 : decode cX0_told 14 = .ok (.iconst 1, 1) := chk_nth ocX0_told_0 (k := 8) rfl
theorem dX0_told_15 : decode cX0_told 15 = .ok (.ireturn, 1) := chk_nth ocX0_told_0 (k := 9) rfl
theorem dX0_told_16 : decode cX0_told 16 = .ok (.lload_n 1, 1) := chk_nth ocX0_told_0 (k := 10) rfl
theorem dX0_told_17 : decode cX0_told 17 = .ok (.l2i, 1) := chk_nth ocX0_told_0 (k := 11) rfl
theorem dX0_told_18 : decode cX0_told 18 = .ok (.istore 4, 2) := chk_nth ocX0_told_0 (k := 12) rfl
theorem dX0_told_20 : decode cX0_told 20 = .ok (.iload 4, 2) := chk_nth ocX0_told_0 (k := 13) rfl
theorem dX0_told_22 : decode cX0_told 22 = .ok (.bipush 100, 2) := chk_nth ocX0_told_0 (k := 14) rfl
theorem dX0_told_24 : decode cX0_told 24 = .ok (.if_icmp .ge 19, 3) := chk_nth ocX0_told_0 (k := 15) rfl
theorem dX0_told_27 : decode cX0_told 27 = .ok (.aload_n 0, 1) := chk_nth ocX0_told_0 (k := 16) rfl
theorem dX0_told_28 : decode cX0_told 28 = .ok (.iload 4, 2) := chk_nth ocX0_told_0 (k := 17) rfl
theorem dX0_told_30 : decode cX0_told 30 = .ok (.bipush 10, 2) := chk_nth ocX0_told_0 (k := 18) rfl
theorem dX0_told_32 : decode cX0_told 32 = .ok (.idiv, 1) := chk_nth ocX0_told_0 (k := 19) rfl
theorem dX0_told_33 : decode cX0_told 33 = .ok (.iload 4, 2) := chk_nth ocX0_told_0 (k := 20) rfl
theorem dX0_told_35 : decode cX0_told 35 = .ok (.bipush 10, 2) := chk_nth ocX0_told_0 (k := 21) rfl
theorem dX0_told_37 : decode cX0_told 37 = .ok (.irem, 1) := chk_nth ocX0_told_0 (k := 22) rfl
theorem dX0_told_38 : decode cX0_told 38 = .ok (.aload_n 3, 1) := chk_nth ocX0_told_0 (k := 23) rfl
def tcX0_told_1 : List (Instr × Nat) := [(.invokevirtual 60, 3), (.ireturn, 1), (.iload 4, 2), (.sipush 200, 3), (.if_icmp .ge 22, 3), (.aload_n 0, 1), (.iload 4, 2), (.bipush 100, 2), (.isub, 1), (.bipush 10, 2), (.idiv, 1), (.iload 4, 2), (.bipush 10, 2), (.irem, 1), (.aload_n 3, 1), (.invokevirtual 64, 3), (.ireturn, 1), (.iload 4, 2), (.sipush 1000, 3), (.if_icmp .ge 15, 3), (.aload_n 0, 1), (.iload 4, 2), (.sipush 200, 3), (.isub, 1)]
theorem ocX0_told_1 : chk (cX0_told.data.toList.drop 39) tcX0_told_1 = true := by decide +kernel
theorem dX0_told_39 : decode cX0_told 39 = .ok (.invokevirtual 60, 3) := chk_nth ocX0_told_1 (k := 0) rfl
theorem dX0_told_42 : decode cX0_told 42 = .ok (.ireturn, 1) := chk_nth ocX0_told_1 (k := 1) rfl
theorem dX0_told_43 : decode cX0_told 43 = .ok (.iload 4, 2) := chk_nth ocX0_told_1 (k := 2) rfl
theorem dX0_told_45 : decode cX0_told 45 = .ok (.sipush 200, 3) := chk_nth ocX0_told_1 (k := 3) rfl
theorem dX0_told_48 : decode cX0_told 48 = .ok (.if_icmp .ge 22, 3) := chk_nth ocX0_told_1 (k := 4) rfl
theorem dX0_told_51 : decode cX0_told 51 = .ok (.aload_n 0, 1) := chk_nth ocX0_told_1 (k := 5) rfl
theorem dX0_told_52 : decode cX0_told 52 = .ok (.iload 4, 2) := chk_nth ocX0_told_1 (k := 6) rfl
theorem dX0_told_54 : decode cX0_told 54 = .ok (.bipush 100, 2) := chk_nth ocX0_told_1 (k := 7) rfl
theorem dX0_told_56 : decode cX0_told 56 = .ok (.isub, 1) := chk_nth ocX0_told_1 (k := 8) rfl
theorem dX0_told_57 : decode cX0_told 57 = .ok (.bipush 10, 2) := chk_nth ocX0_told_1 (k := 9) rfl
theorem dX0_told_59 : decode cX0_told 59 = .ok (.idiv, 1) := chk_nth ocX0_told_1 (k := 10) rfl
theorem dX0_told_60 : decode cX0_told 60 = .ok (.iload 4, 2) := chk_nth ocX0_told_1 (k := 11) rfl
theorem dX0_told_62 : decode cX0_told 62 = .ok (.bipush 10, 2) := chk_nth ocX0_told_1 (k := 12) rfl
theorem dX0_told_64 : decode cX0_told 64 = .ok (.irem, 1) := chk_nth ocX0_told_1 (k := 13) rfl
theorem dX0_told_65 : decode cX0_told 65 = .ok (.aload_n 3, 1) := chk_nth ocX0_told_1 (k := 14) rfl
theorem dX0_told_66 : decode cX0_told 66 = .ok (.invokevirtual 64, 3) := chk_nth ocX0_told_1 (k := 15) rfl
theorem dX0_told_69 : decode cX0_told 69 = .ok (.ireturn, 1) := chk_nth ocX0_told_1 (k := 16) rfl
theorem dX0_told_70 : decode cX0_told 70 = .ok (.iload 4, 2) := chk_nth ocX0_told_1 (k := 17) rfl
theorem dX0_told_72 : decode cX0_told 72 = .ok (.sipush 1000, 3) := chk_nth ocX0_told_1 (k := 18) rfl
theorem dX0_told_75 : decode cX0_told 75 = .ok (.if_icmp .ge 15, 3) := chk_nth ocX0_told_1 (k := 19) rfl
theorem dX0_told_78 : decode cX0_told 78 = .ok (.aload_n 0, 1) := chk_nth ocX0_told_1 (k := 20) rfl
theorem dX0_told_79 : decode cX0_told 79 = .ok (.iload 4, 2) := chk_nth ocX0_told_1 (k := 21) rfl
theorem dX0_told_81 : decode cX0_told 81 = .ok (.sipush 200, 3) := chk_nth ocX0_told_1 (k := 22) rfl
theorem dX0_told_84 : decode cX0_told 84 = .ok (.isub, 1) := chk_nth ocX0_told_1 (k := 23) rfl
def tcX0_told_2 : List (Instr × Nat) := [(.aload_n 3, 1), (.invokevirtual 67, 3), (.ireturn, 1), (.aload_n 0, 1), (.iload 4, 2), (.sipush 1000, 3), (.isub, 1), (.sipush 1000, 3), (.idiv, 1), (.iload 4, 2), (.sipush 1000, 3), (.irem, 1), (.bipush 100, 2), (.idiv, 1), (.iload 4, 2), (.bipush 100, 2), (.irem, 1), (.aload_n 3, 1), (.invokevirtual 71, 3), (.ireturn, 1)]
theorem ocX0_told_2 : chk (cX0_told.data.toList.drop 85) tcX0_told_2 = true := by decide +kernel
theorem dX0_told_85 : decode cX0_told 85 = .ok (.aload_n 3, 1) := chk_nth ocX0_told_2 (k := 0) rfl
theorem dX0_told_86 : decode cX0_told 86 = .ok (.invokevirtual 67, 3) := chk_nth ocX0_told_2 (k := 1) rfl
theorem dX0_told_89 : decode cX0_told 89 = .ok (.ireturn, 1) := chk_nth ocX0_told_2 (k := 2) rfl
theorem dX0_told_90 : decode cX0_told 90 = .ok (.aload_n 0, 1) := chk_nth ocX0_told_2 (k := 3) rfl
theorem dX0_told_91 : decode cX0_told 91 = .ok (.iload 4, 2) := chk_nth ocX0_told_2 (k := 4) rfl
theorem dX0_told_93 : decode cX0_told 93 = .ok (.sipush 1000, 3) := chk_nth ocX0_told_2 (k := 5) rfl
theorem dX0_told_96 : decode cX0_told 96 = .ok (.isub, 1) := chk_nth ocX0_told_2 (k := 6) rfl
theorem dX0_told_97 : decode cX0_told 97 = .ok (.sipush 1000, 3) := chk_nth ocX0_told_2 (k := 7) rfl
theorem dX0_told_100 : decode cX0_told 100 = .ok (.idiv, 1) := chk_nth ocX0_told_2 (k := 8) rfl
theorem dX0_told_101 : decode cX0_told 101 = .ok (.iload 4, 2) := chk_nth ocX0_told_2 (k := 9) rfl
theorem dX0_told_103 : decode cX0_told 103 = .ok (.sipush 1000, 3) := chk_nth ocX0_told_2 (k := 10) rfl
theorem dX0_told_106 : decode cX0_told 106 = .ok (.irem, 1) := chk_nth ocX0_told_2 (k := 11) rfl
theorem dX0_told_107 : decode cX0_told 107 = .ok (.bipush 100, 2) := chk_nth ocX0_told_2 (k := 12) rfl
theorem dX0_told_109 : decode cX0_told 109 = .ok (.idiv, 1) := chk_nth ocX0_told_2 (k := 13) rfl
theorem dX0_told_110 : decode cX0_told 110 = .ok (.iload 4, 2) := chk_nth ocX0_told_2 (k := 14) rfl
theorem dX0_told_112 : decode cX0_told 112 = .ok (.bipush 100, 2) := chk_nth ocX0_told_2 (k := 15) rfl
theorem dX0_told_114 : decode cX0_told 114 = .ok (.irem, 1) := chk_nth ocX0_told_2 (k := 16) rfl
theorem dX0_told_115 : decode cX0_told 115 = .ok (.aload_n 3, 1) := chk_nth ocX0_told_2 (k := 17) rfl
theorem dX0_told_116 : decode cX0_told 116 = .ok (.invokevirtual 71, 3) := chk_nth ocX0_told_2 (k := 18) rfl
theorem dX0_told_119 : decode cX0_told 119 = .ok (.ireturn, 1) := chk_nth ocX0_told_2 (k := 19) rfl
def tcX0_allOf_0 : List (Instr × Nat) := [(.aload_n 0, 1), (.iconst 0, 1), (.putfield 74, 3), (.iconst 0, 1), (.istore_n 3, 1), (.iload_n 3, 1), (.aload_n 1, 1), (.getfield 77, 3), (.if_icmp .ge 32, 3), (.aload_n 0, 1), (.aload_n 0, 1), (.aload_n 1, 1), (.iload_n 3, 1), (.invokevirtual 82, 3), (.aload_n 2, 1), (.invokevirtual 86, 3), (.putfield 74, 3), (.aload_n 0, 1), (.getfield 74, 3), (.ifCond .eq 5, 3), (.iload_n 3, 1), (.ireturn, 1), (.iinc 3 1, 3), (.goto (-34), 3)]
theorem ocX0_allOf_0 : chk (cX0_allOf.data.toList.drop 0) tcX0_allOf_0 = true := by decide +kernel
theorem dX0_allOf_0 : decode cX0_allOf 0 = .ok (.aload_n 0, 1) := chk_nth ocX0_allOf_0 (k := 0) rfl
theorem dX0_allOf_1 : decode cX0_allOf 1 = .ok (.iconst 0, 1) := chk_nth ocX0_allOf_0 (k := 1) rfl
theorem dX0_allOf_2 : decode cX0_allOf 2 = .ok (.putfield 74, 3) := chk_nth ocX0_allOf_0 (k := 2) rfl
theorem dX0_allOf_5 : decode cX0_allOf 5 = .ok (.iconst 0, 1) := chk_nth ocX0_allOf_0 (k := 3) rfl
theorem dX0_allOf_6 : decode cX0_allOf 6 = .ok (.istore_n 3, 1) := chk_nth ocX0_allOf_0 (k := 4) rfl
theorem dX0_allOf_7 : decode cX0_allOf 7 = .ok (.iload_n 3, 1) := chk_nth ocX0_allOf_0 (k := 5) rfl
theorem dX0_allOf_8 : decode cX0_allOf 8 = .ok (.aload_n 1, 1) := chk_nth ocX0_allOf_0 (k := 6) rfl
theorem dX0_allOf_9 : decode cX0_allOf 9 = .ok (.getfield 77, 3) := chk_nth ocX0_allOf_0 (k := 7) rfl
theorem dX0_allOf_12 : decode cX0_allOf 12 = .ok (.if_icmp .ge 32, 3) := chk_nth ocX0_allOf_0 (k := 8) rfl
theorem dX0_allOf_15 : decode cX0_allOf 15 = .ok (.aload_n 0, 1) := chk_nth ocX0_allOf_0 (k := 9) rfl
theorem dX0_allOf_16 : decode cX0_allOf 16 = .ok (.aload_n 0, 1) := chk_nth ocX0_allOf_0 (k := 10) rfl
theorem dX0_allOf_17 : decode cX0_allOf 17 = .ok (.aload_n 1, 1) := chk_nth ocX0_allOf_0 (k := 11) rfl
theorem dX0_allOf_18 : decode cX0_allOf 18 = .ok (.iload_n 3, 1) := chk_nth ocX0_allOf_0 (k := 12) rfl
theorem dX0_allOf_19 : decode cX0_allOf 19 = .ok (.invokevirtual 82, 3) := chk_nth ocX0_allOf_0 (k := 13) rfl
theorem dX0_allOf_22 : decode cX0_allOf 22 = .ok (.aload_n 2, 1) := chk_nth ocX0_allOf_0 (k := 14) rfl
theorem dX0_allOf_23 : decode cX0_allOf 23 = .ok (.invokevirtual 86, 3) := chk_nth ocX0_allOf_0 (k := 15) rfl
theorem dX0_allOf_26 : decode cX0_allOf 26 = .ok (.putfield 74, 3) := chk_nth ocX0_allOf_0 (k := 16) rfl
theorem dX0_allOf_29 : decode cX0_allOf 29 = .ok (.aload_n 0, 1) := chk_nth ocX0_allOf_0 (k := 17) rfl
theorem dX0_allOf_30 : decode cX0_allOf 30 = .ok (.getfield 74, 3) := chk_nth ocX0_allOf_0 (k := 18) rfl
theorem dX0_allOf_33 : decode cX0_allOf 33 = .ok (.ifCond .eq 5, 3) := chk_nth ocX0_allOf_0 (k := 19) rfl
theorem dX0_allOf_36 : decode cX0_allOf 36 = .ok (.iload_n 3, 1) := chk_nth ocX0_allOf_0 (k := 20) rfl
theorem dX0_allOf_37 : decode cX0_allOf 37 = .ok (.ireturn, 1) := chk_nth ocX0_allOf_0 (k := 21) rfl
theorem dX0_allOf_38 : decode cX0_allOf 38 = .ok (.iinc 3 1, 3) := chk_nth ocX0_allOf_0 (k := 22) rfl
theorem dX0_allOf_41 : decode cX0_allOf 41 = .ok (.goto (-34), 3) := chk_nth ocX0_allOf_0 (k := 23) rfl
def tcX0_allOf_1 : List (Instr × Nat) := [(.aload_n 1, 1), (.getfield 77, 3), (.iconst 0, 1), (.invokestatic 90, 3), (.ireturn, 1)]
theorem ocX0_allOf_1 : chk (cX0_allOf.data.toList.drop 44) tcX0_allOf_1 = true := by decide +kernel
theorem dX0_allOf_44 : decode cX0_allOf 44 = .ok (.aload_n 1, 1) := chk_nth ocX0_allOf_1 (k := 0) rfl
theorem dX0_allOf_45 : decode cX0_allOf 45 = .ok (.getfield 77, 3) := chk_nth ocX0_allOf_1 (k := 1) rfl
theorem dX0_allOf_48 : decode cX0_allOf 48 = .ok (.iconst 0, 1) := chk_nth ocX0_allOf_1 (k := 2) rfl
theorem dX0_allOf_49 : decode cX0_allOf 49 = .ok (.invokestatic 90, 3) := chk_nth ocX0_allOf_1 (k := 3) rfl
theorem dX0_allOf_52 : decode cX0_allOf 52 = .ok (.ireturn, 1) := chk_nth ocX0_allOf_1 (k := 4) rfl
def tcX0_drawn_0 : List (Instr × Nat) := [(.aload_n 0, 1), (.iload_n 1, 1), (.putfield 96, 3), (.iconst 0, 1), (.istore 4, 2), (.iconst 0, 1), (.istore 5, 2), (.iload 5, 2), (.iload_n 2, 1), (.if_icmp .ge 20, 3), (.aload_n 0, 1), (.aload_n 3, 1), (.invokevirtual 99, 3), (.ifCond .ne 6, 3), (.iinc 4 1, 3), (.iinc 5 1, 3), (.goto (-20), 3), (.iload 4, 2), (.ireturn, 1)]
theorem ocX0_drawn_0 : chk (cX0_drawn.data.toList.drop 0) tcX0_drawn_0 = true := by decide +kernel
theorem dX0_drawn_0 : decode cX0_drawn 0 = .ok (.aload_n 0, 1) := chk_nth ocX0_drawn_0 (k := 0) rfl
theorem dX0_drawn_1 : decode cX0_drawn 1 = .ok (.iload_n 1, 1) := chk_nth ocX0_drawn_0 (k := 1) rfl
theorem dX0_drawn_2 : decode cX0_drawn 2 = .ok (.putfield 96, 3) := chk_nth ocX0_drawn_0 (k := 2) rfl
theorem dX0_drawn_5 : decode cX0_drawn 5 = .ok (.iconst 0, 1) := chk_nth ocX0_drawn_0 (k := 3) rfl
theorem dX0_drawn_6 : decode cX0_drawn 6 = .ok (.istore 4, 2) := chk_nth ocX0_drawn_0 (k := 4) rfl
theorem dX0_drawn_8 : decode cX0_drawn 8 = .ok (.iconst 0, 1) := chk_nth ocX0_drawn_0 (k := 5) rfl
theorem dX0_drawn_9 : decode cX0_drawn 9 = .ok (.istore 5, 2) := chk_nth ocX0_drawn_0 (k := 6) rfl
theorem dX0_drawn_11 : decode cX0_drawn 11 = .ok (.iload 5, 2) := chk_nth ocX0_drawn_0 (k := 7) rfl
theorem dX0_drawn_13 : decode cX0_drawn 13 = .ok (.iload_n 2, 1) := chk_nth ocX0_drawn_0 (k := 8) rfl
theorem dX0_drawn_14 : decode cX0_drawn 14 = .ok (.if_icmp .ge 20, 3) := chk_nth ocX0_drawn_0 (k := 9) rfl
theorem dX0_drawn_17 : decode cX0_drawn 17 = .ok (.aload_n 0, 1) := chk_nth ocX0_drawn_0 (k := 10) rfl
theorem dX0_drawn_18 : decode cX0_drawn 18 = .ok (.aload_n 3, 1) := chk_nth ocX0_drawn_0 (k := 11) rfl
theorem dX0_drawn_19 : decode cX0_drawn 19 = .ok (.invokevirtual 99, 3) := chk_nth ocX0_drawn_0 (k := 12) rfl
theorem dX0_drawn_22 : decode cX0_drawn 22 = .ok (.ifCond .ne 6, 3) := chk_nth ocX0_drawn_0 (k := 13) rfl
theorem dX0_drawn_25 : decode cX0_drawn 25 = .ok (.iinc 4 1, 3) := chk_nth ocX0_drawn_0 (k := 14) rfl
theorem dX0_drawn_28 : decode cX0_drawn 28 = .ok (.iinc 5 1, 3) := chk_nth ocX0_drawn_0 (k := 15) rfl
theorem dX0_drawn_31 : decode cX0_drawn 31 = .ok (.goto (-20), 3) := chk_nth ocX0_drawn_0 (k := 16) rfl
theorem dX0_drawn_34 : decode cX0_drawn 34 = .ok (.iload 4, 2) := chk_nth ocX0_drawn_0 (k := 17) rfl
theorem dX0_drawn_36 : decode cX0_drawn 36 = .ok (.ireturn, 1) := chk_nth ocX0_drawn_0 (k := 18) rfl
def tcX0_drawnDeed_0 : List (Instr × Nat) := [(.aload_n 0, 1), (.bipush 6, 2), (.invokevirtual 103, 3), (.istore_n 2, 1), (.iload_n 2, 1), (.iconst 4, 1), (.if_icmp .ge 22, 3), (.aload_n 0, 1), (.iconst 3, 1), (.invokevirtual 103, 3), (.istore_n 3, 1), (.aload_n 0, 1), (.iload_n 3, 1), (.aload_n 0, 1), (.bipush 8, 2), (.invokevirtual 103, 3), (.aload_n 1, 1), (.invokevirtual 60, 3), (.ireturn, 1), (.iload_n 2, 1), (.iconst 4, 1), (.if_icmp .ne 22, 3), (.aload_n 0, 1), (.bipush 8, 2)]
theorem ocX0_drawnDeed_0 : chk (cX0_drawnDeed.data.toList.drop 0) tcX0_drawnDeed_0 = true := by decide +kernel
theorem dX0_drawnDeed_0 : decode cX0_drawnDeed 0 = .ok (.aload_n 0, 1) := chk_nth ocX0_drawnDeed_0 (k := 0) rfl
theorem dX0_drawnDeed_1 : decode cX0_drawnDeed 1 = .ok (.bipush 6, 2) := chk_nth ocX0_drawnDeed_0 (k := 1) rfl
theorem dX0_drawnDeed_3 : decode cX0_drawnDeed 3 = .ok (.invokevirtual 103, 3) := chk_nth ocX0_drawnDeed_0 (k := 2) rfl
theorem dX0_drawnDeed_6 : decode cX0_drawnDeed 6 = .ok (.istore_n 2, 1) := chk_nth ocX0_drawnDeed_0 (k := 3) rfl
theorem dX0_drawnDeed_7 : decode cX0_drawnDeed 7 = .ok (.iload_n 2, 1) := chk_nth ocX0_drawnDeed_0 (k := 4) rfl
theorem dX0_drawnDeed_8 : decode cX0_drawnDeed 8 = .ok (.iconst 4, 1) := chk_nth ocX0_drawnDeed_0 (k := 5) rfl
theorem dX0_drawnDeed_9 : decode cX0_drawnDeed 9 = .ok (.if_icmp .ge 22, 3) := chk_nth ocX0_drawnDeed_0 (k := 6) rfl
theorem dX0_drawnDeed_12 : decode cX0_drawnDeed 12 = .ok (.aload_n 0, 1) := chk_nth ocX0_drawnDeed_0 (k := 7) rfl
theorem dX0_drawnDeed_13 : decode cX0_drawnDeed 13 = .ok (.iconst 3, 1) := chk_nth ocX0_drawnDeed_0 (k := 8) rfl
theorem dX0_drawnDeed_14 : decode cX0_drawnDeed 14 = .ok (.invokevirtual 103, 3) := chk_nth ocX0_drawnDeed_0 (k := 9) rfl
theorem dX0_drawnDeed_17 : decode cX0_drawnDeed 17 = .ok (.istore_n 3, 1) := chk_nth ocX0_drawnDeed_0 (k := 10) rfl
theorem dX0_drawnDeed_18 : decode cX0_drawnDeed 18 = .ok (.aload_n 0, 1) := chk_nth ocX0_drawnDeed_0 (k := 11) rfl
theorem dX0_drawnDeed_19 : decode cX0_drawnDeed 19 = .ok (.iload_n 3, 1) := chk_nth ocX0_drawnDeed_0 (k := 12) rfl
theorem dX0_drawnDeed_20 : decode cX0_drawnDeed 20 = .ok (.aload_n 0, 1) := chk_nth ocX0_drawnDeed_0 (k := 13) rfl
theorem dX0_drawnDeed_21 : decode cX0_drawnDeed 21 = .ok (.bipush 8, 2) := chk_nth ocX0_drawnDeed_0 (k := 14) rfl
theorem dX0_drawnDeed_23 : decode cX0_drawnDeed 23 = .ok (.invokevirtual 103, 3) := chk_nth ocX0_drawnDeed_0 (k := 15) rfl
theorem dX0_drawnDeed_26 : decode cX0_drawnDeed 26 = .ok (.aload_n 1, 1) := chk_nth ocX0_drawnDeed_0 (k := 16) rfl
theorem dX0_drawnDeed_27 : decode cX0_drawnDeed 27 = .ok (.invokevirtual 60, 3) := chk_nth ocX0_drawnDeed_0 (k := 17) rfl
theorem dX0_drawnDeed_30 : decode cX0_drawnDeed 30 = .ok (.ireturn, 1) := chk_nth ocX0_drawnDeed_0 (k := 18) rfl
theorem dX0_drawnDeed_31 : decode cX0_drawnDeed 31 = .ok (.iload_n 2, 1) := chk_nth ocX0_drawnDeed_0 (k := 19) rfl
theorem dX0_drawnDeed_32 : decode cX0_drawnDeed 32 = .ok (.iconst 4, 1) := chk_nth ocX0_drawnDeed_0 (k := 20) rfl
theorem dX0_drawnDeed_33 : decode cX0_drawnDeed 33 = .ok (.if_icmp .ne 22, 3) := chk_nth ocX0_drawnDeed_0 (k := 21) rfl
theorem dX0_drawnDeed_36 : decode cX0_drawnDeed 36 = .ok (.aload_n 0, 1) := chk_nth ocX0_drawnDeed_0 (k := 22) rfl
theorem dX0_drawnDeed_37 : decode cX0_drawnDeed 37 = .ok (.bipush 8, 2) := chk_nth ocX0_drawnDeed_0 (k := 23) rfl
def tcX0_drawnDeed_1 : List (Instr × Nat) := [(.invokevirtual 103, 3), (.istore_n 3, 1), (.aload_n 0, 1), (.iload_n 3, 1), (.aload_n 0, 1), (.iconst 4, 1), (.invokevirtual 103, 3), (.aload_n 1, 1), (.invokevirtual 64, 3), (.ireturn, 1), (.aload_n 0, 1), (.aload_n 0, 1), (.bipush 10, 2), (.invokevirtual 103, 3), (.aload_n 1, 1), (.invokevirtual 67, 3), (.ireturn, 1)]
theorem ocX0_drawnDeed_1 : chk (cX0_drawnDeed.data.toList.drop 39) tcX0_drawnDeed_1 = true := by decide +kernel
theorem dX0_drawnDeed_39 : decode cX0_drawnDeed 39 = .ok (.invokevirtual 103, 3) := chk_nth ocX0_drawnDeed_1 (k := 0) rfl
theorem dX0_drawnDeed_42 : decode cX0_drawnDeed 42 = .ok (.istore_n 3, 1) := chk_nth ocX0_drawnDeed_1 (k := 1) rfl
theorem dX0_drawnDeed_43 : decode cX0_drawnDeed 43 = .ok (.aload_n 0, 1) := chk_nth ocX0_drawnDeed_1 (k := 2) rfl
theorem dX0_drawnDeed_44 : decode cX0_drawnDeed 44 = .ok (.iload_n 3, 1) := chk_nth ocX0_drawnDeed_1 (k := 3) rfl
theorem dX0_drawnDeed_45 : decode cX0_drawnDeed 45 = .ok (.aload_n 0, 1) := chk_nth ocX0_drawnDeed_1 (k := 4) rfl
theorem dX0_drawnDeed_46 : decode cX0_drawnDeed 46 = .ok (.iconst 4, 1) := chk_nth ocX0_drawnDeed_1 (k := 5) rfl
theorem dX0_drawnDeed_47 : decode cX0_drawnDeed 47 = .ok (.invokevirtual 103, 3) := chk_nth ocX0_drawnDeed_1 (k := 6) rfl
theorem dX0_drawnDeed_50 : decode cX0_drawnDeed 50 = .ok (.aload_n 1, 1) := chk_nth ocX0_drawnDeed_1 (k := 7) rfl
theorem dX0_drawnDeed_51 : decode cX0_drawnDeed 51 = .ok (.invokevirtual 64, 3) := chk_nth ocX0_drawnDeed_1 (k := 8) rfl
theorem dX0_drawnDeed_54 : decode cX0_drawnDeed 54 = .ok (.ireturn, 1) := chk_nth ocX0_drawnDeed_1 (k := 9) rfl
theorem dX0_drawnDeed_55 : decode cX0_drawnDeed 55 = .ok (.aload_n 0, 1) := chk_nth ocX0_drawnDeed_1 (k := 10) rfl
theorem dX0_drawnDeed_56 : decode cX0_drawnDeed 56 = .ok (.aload_n 0, 1) := chk_nth ocX0_drawnDeed_1 (k := 11) rfl
theorem dX0_drawnDeed_57 : decode cX0_drawnDeed 57 = .ok (.bipush 10, 2) := chk_nth ocX0_drawnDeed_1 (k := 12) rfl
theorem dX0_drawnDeed_59 : decode cX0_drawnDeed 59 = .ok (.invokevirtual 103, 3) := chk_nth ocX0_drawnDeed_1 (k := 13) rfl
theorem dX0_drawnDeed_62 : decode cX0_drawnDeed 62 = .ok (.aload_n 1, 1) := chk_nth ocX0_drawnDeed_1 (k := 14) rfl
theorem dX0_drawnDeed_63 : decode cX0_drawnDeed 63 = .ok (.invokevirtual 67, 3) := chk_nth ocX0_drawnDeed_1 (k := 15) rfl
theorem dX0_drawnDeed_66 : decode cX0_drawnDeed 66 = .ok (.ireturn, 1) := chk_nth ocX0_drawnDeed_1 (k := 16) rfl
def tcX0_draw_0 : List (Instr × Nat) := [(.aload_n 0, 1), (.ldc 106, 2), (.aload_n 0, 1), (.getfield 96, 3), (.imul, 1), (.sipush 12345, 3), (.iadd, 1), (.putfield 96, 3), (.iload_n 1, 1), (.ifCond .le 15, 3), (.aload_n 0, 1), (.getfield 96, 3), (.bipush 16, 2), (.iushr, 1), (.iload_n 1, 1), (.irem, 1), (.goto 4, 3), (.iconst 0, 1), (.ireturn, 1)]
theorem ocX0_draw_0 : chk (cX0_draw.data.toList.drop 0) tcX0_draw_0 = true := by decide +kernel
theorem dX0_draw_0 : decode cX0_draw 0 = .ok (.aload_n 0, 1) := chk_nth ocX0_draw_0 (k := 0) rfl
theorem dX0_draw_1 : decode cX0_draw 1 = .ok (.ldc 106, 2) := chk_nth ocX0_draw_0 (k := 1) rfl
theorem dX0_draw_3 : decode cX0_draw 3 = .ok (.aload_n 0, 1) := chk_nth ocX0_draw_0 (k := 2) rfl
theorem dX0_draw_4 : decode cX0_draw 4 = .ok (.getfield 96, 3) := chk_nth ocX0_draw_0 (k := 3) rfl
theorem dX0_draw_7 : decode cX0_draw 7 = .ok (.imul, 1) := chk_nth ocX0_draw_0 (k := 4) rfl
theorem dX0_draw_8 : decode cX0_draw 8 = .ok (.sipush 12345, 3) := chk_nth ocX0_draw_0 (k := 5) rfl
theorem dX0_draw_11 : decode cX0_draw 11 = .ok (.iadd, 1) := chk_nth ocX0_draw_0 (k := 6) rfl
theorem dX0_draw_12 : decode cX0_draw 12 = .ok (.putfield 96, 3) := chk_nth ocX0_draw_0 (k := 7) rfl
theorem dX0_draw_15 : decode cX0_draw 15 = .ok (.iload_n 1, 1) := chk_nth ocX0_draw_0 (k := 8) rfl
theorem dX0_draw_16 : decode cX0_draw 16 = .ok (.ifCond .le 15, 3) := chk_nth ocX0_draw_0 (k := 9) rfl
theorem dX0_draw_19 : decode cX0_draw 19 = .ok (.aload_n 0, 1) := chk_nth ocX0_draw_0 (k := 10) rfl
theorem dX0_draw_20 : decode cX0_draw 20 = .ok (.getfield 96, 3) := chk_nth ocX0_draw_0 (k := 11) rfl
theorem dX0_draw_23 : decode cX0_draw 23 = .ok (.bipush 16, 2) := chk_nth ocX0_draw_0 (k := 12) rfl
theorem dX0_draw_25 : decode cX0_draw 25 = .ok (.iushr, 1) := chk_nth ocX0_draw_0 (k := 13) rfl
theorem dX0_draw_26 : decode cX0_draw 26 = .ok (.iload_n 1, 1) := chk_nth ocX0_draw_0 (k := 14) rfl
theorem dX0_draw_27 : decode cX0_draw 27 = .ok (.irem, 1) := chk_nth ocX0_draw_0 (k := 15) rfl
theorem dX0_draw_28 : decode cX0_draw 28 = .ok (.goto 4, 3) := chk_nth ocX0_draw_0 (k := 16) rfl
theorem dX0_draw_31 : decode cX0_draw 31 = .ok (.iconst 0, 1) := chk_nth ocX0_draw_0 (k := 17) rfl
theorem dX0_draw_32 : decode cX0_draw 32 = .ok (.ireturn, 1) := chk_nth ocX0_draw_0 (k := 18) rfl
def tcX1_init_0 : List (Instr × Nat) := [(.aload_n 0, 1), (.invokespecial 3, 3), (.aload_n 0, 1), (.new 9, 3), (.dup, 1), (.invokespecial 11, 3), (.putfield 12, 3), (.aload_n 0, 1), (.aload_n 1, 1), (.putfield 18, 3), (.return_, 1)]
theorem ocX1_init_0 : chk (cX1_init.data.toList.drop 0) tcX1_init_0 = true := by decide +kernel
theorem dX1_init_0 : decode cX1_init 0 = .ok (.aload_n 0, 1) := chk_nth ocX1_init_0 (k := 0) rfl
theorem dX1_init_1 : decode cX1_init 1 = .ok (.invokespecial 3, 3) := chk_nth ocX1_init_0 (k := 1) rfl
theorem dX1_init_4 : decode cX1_init 4 = .ok (.aload_n 0, 1) := chk_nth ocX1_init_0 (k := 2) rfl
theorem dX1_init_5 : decode cX1_init 5 = .ok (.new 9, 3) := chk_nth ocX1_init_0 (k := 3) rfl
theorem dX1_init_8 : decode cX1_init 8 = .ok (.dup, 1) := chk_nth ocX1_init_0 (k := 4) rfl
theorem dX1_init_9 : decode cX1_init 9 = .ok (.invokespecial 11, 3) := chk_nth ocX1_init_0 (k := 5) rfl
theorem dX1_init_12 : decode cX1_init 12 = .ok (.putfield 12, 3) := chk_nth ocX1_init_0 (k := 6) rfl
theorem dX1_init_15 : decode cX1_init 15 = .ok (.aload_n 0, 1) := chk_nth ocX1_init_0 (k := 7) rfl
theorem dX1_init_16 : decode cX1_init 16 = .ok (.aload_n 1, 1) := chk_nth ocX1_init_0 (k := 8) rfl
theorem dX1_init_17 : decode cX1_init 17 = .ok (.putfield 18, 3) := chk_nth ocX1_init_0 (k := 9) rfl
theorem dX1_init_20 : decode cX1_init 20 = .ok (.return_, 1) := chk_nth ocX1_init_0 (k := 10) rfl
def tcX1_begin_0 : List (Instr × Nat) := [(.aload_n 0, 1), (.getfield 18, 3), (.aload_n 3, 1), (.getfield 22, 3), (.invokevirtual 26, 3), (.aload_n 0, 1), (.iload_n 1, 1), (.putfield 32, 3), (.aload_n 0, 1), (.iload_n 2, 1), (.putfield 35, 3), (.aload_n 0, 1), (.getfield 12, 3), (.aload_n 3, 1), (.invokevirtual 38, 3), (.return_, 1)]
theorem ocX1_begin_0 : chk (cX1_begin.data.toList.drop 0) tcX1_begin_0 = true := by decide +kernel
theorem dX1_begin_0 : decode cX1_begin 0 = .ok (.aload_n 0, 1) := chk_nth ocX1_begin_0 (k := 0) rfl
theorem dX1_begin_1 : decode cX1_begin 1 = .ok (.getfield 18, 3) := chk_nth ocX1_begin_0 (k := 1) rfl
theorem dX1_begin_4 : decode cX1_begin 4 = .ok (.aload_n 3, 1) := chk_nth ocX1_begin_0 (k := 2) rfl
theorem dX1_begin_5 : decode cX1_begin 5 = .ok (.getfield 22, 3) := chk_nth ocX1_begin_0 (k := 3) rfl
theorem dX1_begin_8 : decode cX1_begin 8 = .ok (.invokevirtual 26, 3) := chk_nth ocX1_begin_0 (k := 4) rfl
theorem dX1_begin_11 : decode cX1_begin 11 = .ok (.aload_n 0, 1) := chk_nth ocX1_begin_0 (k := 5) rfl
theorem dX1_begin_12 : decode cX1_begin 12 = .ok (.iload_n 1, 1) := chk_nth ocX1_begin_0 (k := 6) rfl
theorem dX1_begin_13 : decode cX1_begin 13 = .ok (.putfield 32, 3) := chk_nth ocX1_begin_0 (k := 7) rfl
theorem dX1_begin_16 : decode cX1_begin 16 = .ok (.aload_n 0, 1) := chk_nth ocX1_begin_0 (k := 8) rfl
theorem dX1_begin_17 : decode cX1_begin 17 = .ok (.iload_n 2, 1) := chk_nth ocX1_begin_0 (k := 9) rfl
theorem dX1_begin_18 : decode cX1_begin 18 = .ok (.putfield 35, 3) := chk_nth ocX1_begin_0 (k := 10) rfl
theorem dX1_begin_21 : decode cX1_begin 21 = .ok (.aload_n 0, 1) := chk_nth ocX1_begin_0 (k := 11) rfl
theorem dX1_begin_22 : decode cX1_begin 22 = .ok (.getfield 12, 3) := chk_nth ocX1_begin_0 (k := 12) rfl
theorem dX1_begin_25 : decode cX1_begin 25 = .ok (.aload_n 3, 1) := chk_nth ocX1_begin_0 (k := 13) rfl
theorem dX1_begin_26 : decode cX1_begin 26 = .ok (.invokevirtual 38, 3) := chk_nth ocX1_begin_0 (k := 14) rfl
theorem dX1_begin_29 : decode cX1_begin 29 = .ok (.return_, 1) := chk_nth ocX1_begin_0 (k := 15) rfl
def tcX1_fewestTurns_0 : List (Instr × Nat) := [(.iconst 0, 1), (.istore_n 1, 1), (.iload_n 1, 1), (.iconst 3, 1), (.if_icmp .gt 30, 3), (.aload_n 0, 1), (.aload_n 0, 1), (.getfield 12, 3), (.aload_n 0, 1), (.getfield 32, 3), (.invokevirtual 42, 3), (.iload_n 1, 1), (.invokevirtual 46, 3), (.ifCond .eq 5, 3), (.iload_n 1, 1), (.ireturn, 1), (.iinc 1 1, 3), (.goto (-29), 3), (.iconst (-1), 1), (.ireturn, 1)]
theorem ocX1_fewestTurns_0 : chk (cX1_fewestTurns.data.toList.drop 0) tcX1_fewestTurns_0 = true := by decide +kernel
theorem dX1_fewestTurns_0 : decode cX1_fewestTurns 0 = .ok (.iconst 0, 1) := chk_nth ocX1_fewestTurns_0 (k := 0) rfl
theorem dX1_fewestTurns_1 : decode cX1_fewestTurns 1 = .ok (.istore_n 1, 1) := chk_nth ocX1_fewestTurns_0 (k := 1) rfl
theorem dX1_fewestTurns_2 : decode cX1_fewestTurns 2 = .ok (.iload_n 1, 1) := chk_nth ocX1_fewestTurns_0 (k := 2) rfl
theorem dX1_fewestTurns_3 : decode cX1_fewestTurns 3 = .ok (.iconst 3, 1) := chk_nth ocX1_fewestTurns_0 (k := 3) rfl
theorem dX1_fewestTurns_4 : decode cX1_fewestTurns 4 = .ok (.if_icmp .gt 30, 3) := chk_nth ocX1_fewestTurns_0 (k := 4) rfl
theorem dX1_fewestTurns_7 : decode cX1_fewestTurns 7 = .ok (.aload_n 0, 1) := chk_nth ocX1_fewestTurns_0 (k := 5) rfl
theorem dX1_fewestTurns_8 : decode cX1_fewestTurns 8 = .ok (.aload_n 0, 1) := chk_nth ocX1_fewestTurns_0 (k := 6) rfl
theorem dX1_fewestTurns_9 : decode cX1_fewestTurns 9 = .ok (.getfield 12, 3) := chk_nth ocX1_fewestTurns_0 (k := 7) rfl
theorem dX1_fewestTurns_12 : decode cX1_fewestTurns 12 = .ok (.aload_n 0, 1) := chk_nth ocX1_fewestTurns_0 (k := 8) rfl
theorem dX1_fewestTurns_13 : decode cX1_fewestTurns 13 = .ok (.getfield 32, 3) := chk_nth ocX1_fewestTurns_0 (k := 9) rfl
theorem dX1_fewestTurns_16 : decode cX1_fewestTurns 16 = .ok (.invokevirtual 42, 3) := chk_nth ocX1_fewestTurns_0 (k := 10) rfl
theorem dX1_fewestTurns_19 : decode cX1_fewestTurns 19 = .ok (.iload_n 1, 1) := chk_nth ocX1_fewestTurns_0 (k := 11) rfl
theorem dX1_fewestTurns_20 : decode cX1_fewestTurns 20 = .ok (.invokevirtual 46, 3) := chk_nth ocX1_fewestTurns_0 (k := 12) rfl
theorem dX1_fewestTurns_23 : decode cX1_fewestTurns 23 = .ok (.ifCond .eq 5, 3) := chk_nth ocX1_fewestTurns_0 (k := 13) rfl
theorem dX1_fewestTurns_26 : decode cX1_fewestTurns 26 = .ok (.iload_n 1, 1) := chk_nth ocX1_fewestTurns_0 (k := 14) rfl
theorem dX1_fewestTurns_27 : decode cX1_fewestTurns 27 = .ok (.ireturn, 1) := chk_nth ocX1_fewestTurns_0 (k := 15) rfl
theorem dX1_fewestTurns_28 : decode cX1_fewestTurns 28 = .ok (.iinc 1 1, 3) := chk_nth ocX1_fewestTurns_0 (k := 16) rfl
theorem dX1_fewestTurns_31 : decode cX1_fewestTurns 31 = .ok (.goto (-29), 3) := chk_nth ocX1_fewestTurns_0 (k := 17) rfl
theorem dX1_fewestTurns_34 : decode cX1_fewestTurns 34 = .ok (.iconst (-1), 1) := chk_nth ocX1_fewestTurns_0 (k := 18) rfl
theorem dX1_fewestTurns_35 : decode cX1_fewestTurns 35 = .ok (.ireturn, 1) := chk_nth ocX1_fewestTurns_0 (k := 19) rfl
def tcX1_firstStreet_0 : List (Instr × Nat) := [(.aload_n 0, 1), (.invokevirtual 50, 3), (.istore_n 1, 1), (.iload_n 1, 1), (.iconst 1, 1), (.if_icmp .ge 5, 3), (.iconst (-1), 1), (.ireturn, 1), (.aload_n 0, 1), (.getfield 12, 3), (.aload_n 0, 1), (.getfield 32, 3), (.invokevirtual 42, 3), (.istore_n 2, 1), (.iconst 0, 1), (.istore_n 3, 1), (.iload_n 3, 1), (.aload_n 0, 1), (.getfield 18, 3), (.getfield 54, 3), (.getfield 58, 3), (.if_icmp .ge 21, 3), (.aload_n 0, 1), (.iload_n 3, 1)]
theorem ocX1_firstStreet_0 : chk (cX1_firstStreet.data.toList.drop 0) tcX1_firstStreet_0 = true := by decide +kernel
theorem dX1_firstStreet_0 : decode cX1_firstStreet 0 = .ok (.aload_n 0, 1) := chk_nth ocX1_firstStreet_0 (k := 0) rfl
theorem dX1_firstStreet_1 : decode cX1_firstStreet 1 = .ok (.invokevirtual 50, 3) := chk_nth ocX1_firstStreet_0 (k := 1) rfl
theorem dX1_firstStreet_4 : decode cX1_firstStreet 4 = .ok (.istore_n 1, 1) := chk_nth ocX1_firstStreet_0 (k := 2) rfl
theorem dX1_firstStreet_5 : decode cX1_firstStreet 5 = .ok (.iload_n 1, 1) := chk_nth ocX1_firstStreet_0 (k := 3) rfl
theorem dX1_firstStreet_6 : decode cX1_firstStreet 6 = .ok (.iconst 1, 1) := chk_nth ocX1_firstStreet_0 (k := 4) rfl
theorem dX1_firstStreet_7 : decode cX1_firstStreet 7 = .ok (.if_icmp .ge 5, 3) := chk_nth ocX1_firstStreet_0 (k := 5) rfl
theorem dX1_firstStreet_10 : decode cX1_firstStreet 10 = .ok (.iconst (-1), 1) := chk_nth ocX1_firstStreet_0 (k := 6) rfl
theorem dX1_firstStreet_11 : decode cX1_firstStreet 11 = .ok (.ireturn, 1) := chk_nth ocX1_firstStreet_0 (k := 7) rfl
theorem dX1_firstStreet_12 : decode cX1_firstStreet 12 = .ok (.aload_n 0, 1) := chk_nth ocX1_firstStreet_0 (k := 8) rfl
theorem dX1_firstStreet_13 : decode cX1_firstStreet 13 = .ok (.getfield 12, 3) := chk_nth ocX1_firstStreet_0 (k := 9) rfl
theorem dX1_firstStreet_16 : decode cX1_firstStreet 16 = .ok (.aload_n 0, 1) := chk_nth ocX1_firstStreet_0 (k := 10) rfl
theorem dX1_firstStreet_17 : decode cX1_firstStreet 17 = .ok (.getfield 32, 3) := chk_nth ocX1_firstStreet_0 (k := 11) rfl
theorem dX1_firstStreet_20 : decode cX1_firstStreet 20 = .ok (.invokevirtual 42, 3) := chk_nth ocX1_firstStreet_0 (k := 12) rfl
theorem dX1_firstStreet_23 : decode cX1_firstStreet 23 = .ok (.istore_n 2, 1) := chk_nth ocX1_firstStreet_0 (k := 13) rfl
theorem dX1_firstStreet_24 : decode cX1_firstStreet 24 = .ok (.iconst 0, 1) := chk_nth ocX1_firstStreet_0 (k := 14) rfl
theorem dX1_firstStreet_25 : decode cX1_firstStreet 25 = .ok (.istore_n 3, 1) := chk_nth ocX1_firstStreet_0 (k := 15) rfl
theorem dX1_firstStreet_26 : decode cX1_firstStreet 26 = .ok (.iload_n 3, 1) := chk_nth ocX1_firstStreet_0 (k := 16) rfl
theorem dX1_firstStreet_27 : decode cX1_firstStreet 27 = .ok (.aload_n 0, 1) := chk_nth ocX1_firstStreet_0 (k := 17) rfl
theorem dX1_firstStreet_28 : decode cX1_firstStreet 28 = .ok (.getfield 18, 3) := chk_nth ocX1_firstStreet_0 (k := 18) rfl
theorem dX1_firstStreet_31 : decode cX1_firstStreet 31 = .ok (.getfield 54, 3) := chk_nth ocX1_firstStreet_0 (k := 19) rfl
theorem dX1_firstStreet_34 : decode cX1_firstStreet 34 = .ok (.getfield 58, 3) := chk_nth ocX1_firstStreet_0 (k := 20) rfl
theorem dX1_firstStreet_37 : decode cX1_firstStreet 37 = .ok (.if_icmp .ge 21, 3) := chk_nth ocX1_firstStreet_0 (k := 21) rfl
theorem dX1_firstStreet_40 : decode cX1_firstStreet 40 = .ok (.aload_n 0, 1) := chk_nth ocX1_firstStreet_0 (k := 22) rfl
theorem dX1_firstStreet_41 : decode cX1_firstStreet 41 = .ok (.iload_n 3, 1) := chk_nth ocX1_firstStreet_0 (k := 23) rfl
def tcX1_firstStreet_1 : List (Instr × Nat) := [(.iload_n 2, 1), (.iload_n 1, 1), (.invokevirtual 62, 3), (.ifCond .eq 5, 3), (.iload_n 3, 1), (.ireturn, 1), (.iinc 3 1, 3), (.goto (-29), 3), (.aload_n 0, 1), (.bipush 99, 2), (.iload_n 2, 1), (.iload_n 1, 1), (.invokevirtual 62, 3), (.ifCond .eq 8, 3), (.bipush 99, 2), (.goto 4, 3), (.iconst (-1), 1), (.ireturn, 1)]
theorem ocX1_firstStreet_1 : chk (cX1_firstStreet.data.toList.drop 42) tcX1_firstStreet_1 = true := by decide +kernel
theorem dX1_firstStreet_42 : decode cX1_firstStreet 42 = .ok (.iload_n 2, 1) := chk_nth ocX1_firstStreet_1 (k := 0) rfl
theorem dX1_firstStreet_43 : decode cX1_firstStreet 43 = .ok (.iload_n 1, 1) := chk_nth ocX1_firstStreet_1 (k := 1) rfl
theorem dX1_firstStreet_44 : decode cX1_firstStreet 44 = .ok (.invokevirtual 62, 3) := chk_nth ocX1_firstStreet_1 (k := 2) rfl
theorem dX1_firstStreet_47 : decode cX1_firstStreet 47 = .ok (.ifCond .eq 5, 3) := chk_nth ocX1_firstStreet_1 (k := 3) rfl
theorem dX1_firstStreet_50 : decode cX1_firstStreet 50 = .ok (.iload_n 3, 1) := chk_nth ocX1_firstStreet_1 (k := 4) rfl
theorem dX1_firstStreet_51 : decode cX1_firstStreet 51 = .ok (.ireturn, 1) := chk_nth ocX1_firstStreet_1 (k := 5) rfl
theorem dX1_firstStreet_52 : decode cX1_firstStreet 52 = .ok (.iinc 3 1, 3) := chk_nth ocX1_firstStreet_1 (k := 6) rfl
theorem dX1_firstStreet_55 : decode cX1_firstStreet 55 = .ok (.goto (-29), 3) := chk_nth ocX1_firstStreet_1 (k := 7) rfl
theorem dX1_firstStreet_58 : decode cX1_firstStreet 58 = .ok (.aload_n 0, 1) := chk_nth ocX1_firstStreet_1 (k := 8) rfl
theorem dX1_firstStreet_59 : decode cX1_firstStreet 59 = .ok (.bipush 99, 2) := chk_nth ocX1_firstStreet_1 (k := 9) rfl
theorem dX1_firstStreet_61 : decode cX1_firstStreet 61 = .ok (.iload_n 2, 1) := chk_nth ocX1_firstStreet_1 (k := 10) rfl
theorem dX1_firstStreet_62 : decode cX1_firstStreet 62 = .ok (.iload_n 1, 1) := chk_nth ocX1_firstStreet_1 (k := 11) rfl
theorem dX1_firstStreet_63 : decode cX1_firstStreet 63 = .ok (.invokevirtual 62, 3) := chk_nth ocX1_firstStreet_1 (k := 12) rfl
theorem dX1_firstStreet_66 : decode cX1_firstStreet 66 = .ok (.ifCond .eq 8, 3) := chk_nth ocX1_firstStreet_1 (k := 13) rfl
theorem dX1_firstStreet_69 : decode cX1_firstStreet 69 = .ok (.bipush 99, 2) := chk_nth ocX1_firstStreet_1 (k := 14) rfl
theorem dX1_firstStreet_71 : decode cX1_firstStreet 71 = .ok (.goto 4, 3) := chk_nth ocX1_firstStreet_1 (k := 15) rfl
theorem dX1_firstStreet_74 : decode cX1_firstStreet 74 = .ok (.iconst (-1), 1) := chk_nth ocX1_firstStreet_1 (k := 16) rfl
theorem dX1_firstStreet_75 : decode cX1_firstStreet 75 = .ok (.ireturn, 1) := chk_nth ocX1_firstStreet_1 (k := 17) rfl
def tcX1_wins_0 : List (Instr × Nat) := [(.iload_n 1, 1), (.bipush 20, 2), (.idiv, 1), (.aload_n 0, 1), (.getfield 35, 3), (.if_icmp .ne 5, 3), (.iconst 1, 1), (.ireturn, 1), (.iload_n 2, 1), (.iconst 1, 1), (.if_icmp .ge 5, 3), (.iconst 0, 1), (.ireturn, 1), (.iconst 0, 1), (.istore_n 3, 1), (.iload_n 3, 1), (.aload_n 0, 1), (.getfield 18, 3), (.getfield 54, 3), (.getfield 58, 3), (.if_icmp .ge 21, 3), (.aload_n 0, 1), (.iload_n 3, 1), (.iload_n 1, 1)]
theorem ocX1_wins_0 : chk (cX1_wins.data.toList.drop 0) tcX1_wins_0 = true := by decide +kernel
theorem dX1_wins_0 : decode cX1_wins 0 = .ok (.iload_n 1, 1) := chk_nth ocX1_wins_0 (k := 0) rfl
theorem dX1_wins_1 : decode cX1_wins 1 = .ok (.bipush 20, 2) := chk_nth ocX1_wins_0 (k := 1) rfl
theorem dX1_wins_3 : decode cX1_wins 3 = .ok (.idiv, 1) := chk_nth ocX1_wins_0 (k := 2) rfl
theorem dX1_wins_4 : decode cX1_wins 4 = .ok (.aload_n 0, 1) := chk_nth ocX1_wins_0 (k := 3) rfl
theorem dX1_wins_5 : decode cX1_wins 5 = .ok (.getfield 35, 3) := chk_nth ocX1_wins_0 (k := 4) rfl
theorem dX1_wins_8 : decode cX1_wins 8 = .ok (.if_icmp .ne 5, 3) := chk_nth ocX1_wins_0 (k := 5) rfl
theorem dX1_wins_11 : decode cX1_wins 11 = .ok (.iconst 1, 1) := chk_nth ocX1_wins_0 (k := 6) rfl
theorem dX1_wins_12 : decode cX1_wins 12 = .ok (.ireturn, 1) := chk_nth ocX1_wins_0 (k := 7) rfl
theorem dX1_wins_13 : decode cX1_wins 13 = .ok (.iload_n 2, 1) := chk_nth ocX1_wins_0 (k := 8) rfl
theorem dX1_wins_14 : decode cX1_wins 14 = .ok (.iconst 1, 1) := chk_nth ocX1_wins_0 (k := 9) rfl
theorem dX1_wins_15 : decode cX1_wins 15 = .ok (.if_icmp .ge 5, 3) := chk_nth ocX1_wins_0 (k := 10) rfl
theorem dX1_wins_18 : decode cX1_wins 18 = .ok (.iconst 0, 1) := chk_nth ocX1_wins_0 (k := 11) rfl
theorem dX1_wins_19 : decode cX1_wins 19 = .ok (.ireturn, 1) := chk_nth ocX1_wins_0 (k := 12) rfl
theorem dX1_wins_20 : decode cX1_wins 20 = .ok (.iconst 0, 1) := chk_nth ocX1_wins_0 (k := 13) rfl
theorem dX1_wins_21 : decode cX1_wins 21 = .ok (.istore_n 3, 1) := chk_nth ocX1_wins_0 (k := 14) rfl
theorem dX1_wins_22 : decode cX1_wins 22 = .ok (.iload_n 3, 1) := chk_nth ocX1_wins_0 (k := 15) rfl
theorem dX1_wins_23 : decode cX1_wins 23 = .ok (.aload_n 0, 1) := chk_nth ocX1_wins_0 (k := 16) rfl
theorem dX1_wins_24 : decode cX1_wins 24 = .ok (.getfield 18, 3) := chk_nth ocX1_wins_0 (k := 17) rfl
theorem dX1_wins_27 : decode cX1_wins 27 = .ok (.getfield 54, 3) := chk_nth ocX1_wins_0 (k := 18) rfl
theorem dX1_wins_30 : decode cX1_wins 30 = .ok (.getfield 58, 3) := chk_nth ocX1_wins_0 (k := 19) rfl
theorem dX1_wins_33 : decode cX1_wins 33 = .ok (.if_icmp .ge 21, 3) := chk_nth ocX1_wins_0 (k := 20) rfl
theorem dX1_wins_36 : decode cX1_wins 36 = .ok (.aload_n 0, 1) := chk_nth ocX1_wins_0 (k := 21) rfl
theorem dX1_wins_37 : decode cX1_wins 37 = .ok (.iload_n 3, 1) := chk_nth ocX1_wins_0 (k := 22) rfl
theorem dX1_wins_38 : decode cX1_wins 38 = .ok (.iload_n 1, 1) := chk_nth ocX1_wins_0 (k := 23) rfl
def tcX1_wins_1 : List (Instr × Nat) := [(.iload_n 2, 1), (.invokevirtual 62, 3), (.ifCond .eq 5, 3), (.iconst 1, 1), (.ireturn, 1), (.iinc 3 1, 3), (.goto (-29), 3), (.aload_n 0, 1), (.bipush 99, 2), (.iload_n 1, 1), (.iload_n 2, 1), (.invokevirtual 62, 3), (.ireturn, 1)]
theorem ocX1_wins_1 : chk (cX1_wins.data.toList.drop 39) tcX1_wins_1 = true := by decide +kernel
theorem dX1_wins_39 : decode cX1_wins 39 = .ok (.iload_n 2, 1) := chk_nth ocX1_wins_1 (k := 0) rfl
theorem dX1_wins_40 : decode cX1_wins 40 = .ok (.invokevirtual 62, 3) := chk_nth ocX1_wins_1 (k := 1) rfl
theorem dX1_wins_43 : decode cX1_wins 43 = .ok (.ifCond .eq 5, 3) := chk_nth ocX1_wins_1 (k := 2) rfl
theorem dX1_wins_46 : decode cX1_wins 46 = .ok (.iconst 1, 1) := chk_nth ocX1_wins_1 (k := 3) rfl
theorem dX1_wins_47 : decode cX1_wins 47 = .ok (.ireturn, 1) := chk_nth ocX1_wins_1 (k := 4) rfl
theorem dX1_wins_48 : decode cX1_wins 48 = .ok (.iinc 3 1, 3) := chk_nth ocX1_wins_1 (k := 5) rfl
theorem dX1_wins_51 : decode cX1_wins 51 = .ok (.goto (-29), 3) := chk_nth ocX1_wins_1 (k := 6) rfl
theorem dX1_wins_54 : decode cX1_wins 54 = .ok (.aload_n 0, 1) := chk_nth ocX1_wins_1 (k := 7) rfl
theorem dX1_wins_55 : decode cX1_wins 55 = .ok (.bipush 99, 2) := chk_nth ocX1_wins_1 (k := 8) rfl
theorem dX1_wins_57 : decode cX1_wins 57 = .ok (.iload_n 1, 1) := chk_nth ocX1_wins_1 (k := 9) rfl
theorem dX1_wins_58 : decode cX1_wins 58 = .ok (.iload_n 2, 1) := chk_nth ocX1_wins_1 (k := 10) rfl
theorem dX1_wins_59 : decode cX1_wins 59 = .ok (.invokevirtual 62, 3) := chk_nth ocX1_wins_1 (k := 11) rfl
theorem dX1_wins_62 : decode cX1_wins 62 = .ok (.ireturn, 1) := chk_nth ocX1_wins_1 (k := 12) rfl
def tcX1_winsBy_0 : List (Instr × Nat) := [(.iload_n 1, 1), (.bipush 99, 2), (.if_icmp .ne 7, 3), (.iload_n 2, 1), (.goto 20, 3), (.aload_n 0, 1), (.getfield 18, 3), (.aload_n 0, 1), (.getfield 32, 3), (.iload_n 1, 1), (.iload_n 2, 1), (.aload_n 0, 1), (.getfield 12, 3), (.invokevirtual 66, 3), (.istore 4, 2), (.iload 4, 2), (.ifCond .ge 5, 3), (.iconst 0, 1), (.ireturn, 1), (.iload 4, 2), (.bipush 20, 2), (.idiv, 1), (.aload_n 0, 1), (.getfield 35, 3)]
theorem ocX1_winsBy_0 : chk (cX1_winsBy.data.toList.drop 0) tcX1_winsBy_0 = true := by decide +kernel
theorem dX1_winsBy_0 : decode cX1_winsBy 0 = .ok (.iload_n 1, 1) := chk_nth ocX1_winsBy_0 (k := 0) rfl
theorem dX1_winsBy_1 : decode cX1_winsBy 1 = .ok (.bipush 99, 2) := chk_nth ocX1_winsBy_0 (k := 1) rfl
theorem dX1_winsBy_3 : decode cX1_winsBy 3 = .ok (.if_icmp .ne 7, 3) := chk_nth ocX1_winsBy_0 (k := 2) rfl
theorem dX1_winsBy_6 : decode cX1_winsBy 6 = .ok (.iload_n 2, 1) := chk_nth ocX1_winsBy_0 (k := 3) rfl
theorem dX1_winsBy_7 : decode cX1_winsBy 7 = .ok (.goto 20, 3) := chk_nth ocX1_winsBy_0 (k := 4) rfl
theorem dX1_winsBy_10 : decode cX1_winsBy 10 = .ok (.aload_n 0, 1) := chk_nth ocX1_winsBy_0 (k := 5) rfl
theorem dX1_winsBy_11 : decode cX1_winsBy 11 = .ok (.getfield 18, 3) := chk_nth ocX1_winsBy_0 (k := 6) rfl
theorem dX1_winsBy_14 : decode cX1_winsBy 14 = .ok (.aload_n 0, 1) := chk_nth ocX1_winsBy_0 (k := 7) rfl
theorem dX1_winsBy_15 : decode cX1_winsBy 15 = .ok (.getfield 32, 3) := chk_nth ocX1_winsBy_0 (k := 8) rfl
theorem dX1_winsBy_18 : decode cX1_winsBy 18 = .ok (.iload_n 1, 1) := chk_nth ocX1_winsBy_0 (k := 9) rfl
theorem dX1_winsBy_19 : decode cX1_winsBy 19 = .ok (.iload_n 2, 1) := chk_nth ocX1_winsBy_0 (k := 10) rfl
theorem dX1_winsBy_20 : decode cX1_winsBy 20 = .ok (.aload_n 0, 1) := chk_nth ocX1_winsBy_0 (k := 11) rfl
theorem dX1_winsBy_21 : decode cX1_winsBy 21 = .ok (.getfield 12, 3) := chk_nth ocX1_winsBy_0 (k := 12) rfl
theorem dX1_winsBy_24 : decode cX1_winsBy 24 = .ok (.invokevirtual 66, 3) := chk_nth ocX1_winsBy_0 (k := 13) rfl
theorem dX1_winsBy_27 : decode cX1_winsBy 27 = .ok (.istore 4, 2) := chk_nth ocX1_winsBy_0 (k := 14) rfl
theorem dX1_winsBy_29 : decode cX1_winsBy 29 = .ok (.iload 4, 2) := chk_nth ocX1_winsBy_0 (k := 15) rfl
theorem dX1_winsBy_31 : decode cX1_winsBy 31 = .ok (.ifCond .ge 5, 3) := chk_nth ocX1_winsBy_0 (k := 16) rfl
theorem dX1_winsBy_34 : decode cX1_winsBy 34 = .ok (.iconst 0, 1) := chk_nth ocX1_winsBy_0 (k := 17) rfl
theorem dX1_winsBy_35 : decode cX1_winsBy 35 = .ok (.ireturn, 1) := chk_nth ocX1_winsBy_0 (k := 18) rfl
theorem dX1_winsBy_36 : decode cX1_winsBy 36 = .ok (.iload 4, 2) := chk_nth ocX1_winsBy_0 (k := 19) rfl
theorem dX1_winsBy_38 : decode cX1_winsBy 38 = .ok (.bipush 20, 2) := chk_nth ocX1_winsBy_0 (k := 20) rfl
theorem dX1_winsBy_40 : decode cX1_winsBy 40 = .ok (.idiv, 1) := chk_nth ocX1_winsBy_0 (k := 21) rfl
theorem dX1_winsBy_41 : decode cX1_winsBy 41 = .ok (.aload_n 0, 1) := chk_nth ocX1_winsBy_0 (k := 22) rfl
theorem dX1_winsBy_42 : decode cX1_winsBy 42 = .ok (.getfield 35, 3) := chk_nth ocX1_winsBy_0 (k := 23) rfl
def tcX1_winsBy_1 : List (Instr × Nat) := [(.if_icmp .ne 5, 3), (.iconst 1, 1), (.ireturn, 1), (.iload_n 3, 1), (.iconst 1, 1), (.if_icmp .le 19, 3), (.aload_n 0, 1), (.iload 4, 2), (.iload_n 3, 1), (.iconst 1, 1), (.isub, 1), (.invokevirtual 70, 3), (.ifCond .eq 7, 3), (.iconst 1, 1), (.goto 4, 3), (.iconst 0, 1), (.ireturn, 1)]
theorem ocX1_winsBy_1 : chk (cX1_winsBy.data.toList.drop 45) tcX1_winsBy_1 = true := by decide +kernel
theorem dX1_winsBy_45 : decode cX1_winsBy 45 = .ok (.if_icmp .ne 5, 3) := chk_nth ocX1_winsBy_1 (k := 0) rfl
theorem dX1_winsBy_48 : decode cX1_winsBy 48 = .ok (.iconst 1, 1) := chk_nth ocX1_winsBy_1 (k := 1) rfl
theorem dX1_winsBy_49 : decode cX1_winsBy 49 = .ok (.ireturn, 1) := chk_nth ocX1_winsBy_1 (k := 2) rfl
theorem dX1_winsBy_50 : decode cX1_winsBy 50 = .ok (.iload_n 3, 1) := chk_nth ocX1_winsBy_1 (k := 3) rfl
theorem dX1_winsBy_51 : decode cX1_winsBy 51 = .ok (.iconst 1, 1) := chk_nth ocX1_winsBy_1 (k := 4) rfl
theorem dX1_winsBy_52 : decode cX1_winsBy 52 = .ok (.if_icmp .le 19, 3) := chk_nth ocX1_winsBy_1 (k := 5) rfl
theorem dX1_winsBy_55 : decode cX1_winsBy 55 = .ok (.aload_n 0, 1) := chk_nth ocX1_winsBy_1 (k := 6) rfl
theorem dX1_winsBy_56 : decode cX1_winsBy 56 = .ok (.iload 4, 2) := chk_nth ocX1_winsBy_1 (k := 7) rfl
theorem dX1_winsBy_58 : decode cX1_winsBy 58 = .ok (.iload_n 3, 1) := chk_nth ocX1_winsBy_1 (k := 8) rfl
theorem dX1_winsBy_59 : decode cX1_winsBy 59 = .ok (.iconst 1, 1) := chk_nth ocX1_winsBy_1 (k := 9) rfl
theorem dX1_winsBy_60 : decode cX1_winsBy 60 = .ok (.isub, 1) := chk_nth ocX1_winsBy_1 (k := 10) rfl
theorem dX1_winsBy_61 : decode cX1_winsBy 61 = .ok (.invokevirtual 70, 3) := chk_nth ocX1_winsBy_1 (k := 11) rfl
theorem dX1_winsBy_64 : decode cX1_winsBy 64 = .ok (.ifCond .eq 7, 3) := chk_nth ocX1_winsBy_1 (k := 12) rfl
theorem dX1_winsBy_67 : decode cX1_winsBy 67 = .ok (.iconst 1, 1) := chk_nth ocX1_winsBy_1 (k := 13) rfl
theorem dX1_winsBy_68 : decode cX1_winsBy 68 = .ok (.goto 4, 3) := chk_nth ocX1_winsBy_1 (k := 14) rfl
theorem dX1_winsBy_71 : decode cX1_winsBy 71 = .ok (.iconst 0, 1) := chk_nth ocX1_winsBy_1 (k := 15) rfl
theorem dX1_winsBy_72 : decode cX1_winsBy 72 = .ok (.ireturn, 1) := chk_nth ocX1_winsBy_1 (k := 16) rfl
def tcX1_winsWhateverIsShut_0 : List (Instr × Nat) := [(.iconst 0, 1), (.istore_n 3, 1), (.iload_n 3, 1), (.aload_n 0, 1), (.getfield 18, 3), (.getfield 54, 3), (.getfield 58, 3), (.if_icmp .ge 62, 3), (.aload_n 0, 1), (.getfield 12, 3), (.iload_n 3, 1), (.invokevirtual 73, 3), (.istore 4, 2), (.iload 4, 2), (.iconst 3, 1), (.if_icmp .ne 6, 3), (.goto 37, 3), (.aload_n 0, 1), (.getfield 12, 3), (.iload_n 3, 1), (.iconst 3, 1), (.invokevirtual 76, 3), (.aload_n 0, 1), (.iload_n 1, 1)]
theorem ocX1_winsWhateverIsShut_0 : chk (cX1_winsWhateverIsShut.data.toList.drop 0) tcX1_winsWhateverIsShut_0 = true := by decide +kernel
theorem dX1_winsWhateverIsShut_0 : decode cX1_winsWhateverIsShut 0 = .ok (.iconst 0, 1) := chk_nth ocX1_winsWhateverIsShut_0 (k := 0) rfl
theorem dX1_winsWhateverIsShut_1 : decode cX1_winsWhateverIsShut 1 = .ok (.istore_n 3, 1) := chk_nth ocX1_winsWhateverIsShut_0 (k := 1) rfl
theorem dX1_winsWhateverIsShut_2 : decode cX1_winsWhateverIsShut 2 = .ok (.iload_n 3, 1) := chk_nth ocX1_winsWhateverIsShut_0 (k := 2) rfl
theorem dX1_winsWhateverIsShut_3 : decode cX1_winsWhateverIsShut 3 = .ok (.aload_n 0, 1) := chk_nth ocX1_winsWhateverIsShut_0 (k := 3) rfl
theorem dX1_winsWhateverIsShut_4 : decode cX1_winsWhateverIsShut 4 = .ok (.getfield 18, 3) := chk_nth ocX1_winsWhateverIsShut_0 (k := 4) rfl
theorem dX1_winsWhateverIsShut_7 : decode cX1_winsWhateverIsShut 7 = .ok (.getfield 54, 3) := chk_nth ocX1_winsWhateverIsShut_0 (k := 5) rfl
theorem dX1_winsWhateverIsShut_10 : decode cX1_winsWhateverIsShut 10 = .ok (.getfield 58, 3) := chk_nth ocX1_winsWhateverIsShut_0 (k := 6) rfl
theorem dX1_winsWhateverIsShut_13 : decode cX1_winsWhateverIsShut 13 = .ok (.if_icmp .ge 62, 3) := chk_nth ocX1_winsWhateverIsShut_0 (k := 7) rfl
theorem dX1_winsWhateverIsShut_16 : decode cX1_winsWhateverIsShut 16 = .ok (.aload_n 0, 1) := chk_nth ocX1_winsWhateverIsShut_0 (k := 8) rfl
theorem dX1_winsWhateverIsShut_17 : decode cX1_winsWhateverIsShut 17 = .ok (.getfield 12, 3) := chk_nth ocX1_winsWhateverIsShut_0 (k := 9) rfl
theorem dX1_winsWhateverIsShut_20 : decode cX1_winsWhateverIsShut 20 = .ok (.iload_n 3, 1) := chk_nth ocX1_winsWhateverIsShut_0 (k := 10) rfl
theorem dX1_winsWhateverIsShut_21 : decode cX1_winsWhateverIsShut 21 = .ok (.invokevirtual 73, 3) := chk_nth ocX1_winsWhateverIsShut_0 (k := 11) rfl
theorem dX1_winsWhateverIsShut_24 : decode cX1_winsWhateverIsShut 24 = .ok (.istore 4, 2) := chk_nth ocX1_winsWhateverIsShut_0 (k := 12) rfl
theorem dX1_winsWhateverIsShut_26 : decode cX1_winsWhateverIsShut 26 = .ok (.iload 4, 2) := chk_nth ocX1_winsWhateverIsShut_0 (k := 13) rfl
theorem dX1_winsWhateverIsShut_28 : decode cX1_winsWhateverIsShut 28 = .ok (.iconst 3, 1) := chk_nth ocX1_winsWhateverIsShut_0 (k := 14) rfl
theorem dX1_winsWhateverIsShut_29 : decode cX1_winsWhateverIsShut 29 = .ok (.if_icmp .ne 6, 3) := chk_nth ocX1_winsWhateverIsShut_0 (k := 15) rfl
theorem dX1_winsWhateverIsShut_32 : decode cX1_winsWhateverIsShut 32 = .ok (.goto 37, 3) := chk_nth ocX1_winsWhateverIsShut_0 (k := 16) rfl
theorem dX1_winsWhateverIsShut_35 : decode cX1_winsWhateverIsShut 35 = .ok (.aload_n 0, 1) := chk_nth ocX1_winsWhateverIsShut_0 (k := 17) rfl
theorem dX1_winsWhateverIsShut_36 : decode cX1_winsWhateverIsShut 36 = .ok (.getfield 12, 3) := chk_nth ocX1_winsWhateverIsShut_0 (k := 18) rfl
theorem dX1_winsWhateverIsShut_39 : decode cX1_winsWhateverIsShut 39 = .ok (.iload_n 3, 1) := chk_nth ocX1_winsWhateverIsShut_0 (k := 19) rfl
theorem dX1_winsWhateverIsShut_40 : decode cX1_winsWhateverIsShut 40 = .ok (.iconst 3, 1) := chk_nth ocX1_winsWhateverIsShut_0 (k := 20) rfl
theorem dX1_winsWhateverIsShut_41 : decode cX1_winsWhateverIsShut 41 = .ok (.invokevirtual 76, 3) := chk_nth ocX1_winsWhateverIsShut_0 (k := 21) rfl
theorem dX1_winsWhateverIsShut_44 : decode cX1_winsWhateverIsShut 44 = .ok (.aload_n 0, 1) := chk_nth ocX1_winsWhateverIsShut_0 (k := 22) rfl
theorem dX1_winsWhateverIsShut_45 : decode cX1_winsWhateverIsShut 45 = .ok (.iload_n 1, 1) := chk_nth ocX1_winsWhateverIsShut_0 (k := 23) rfl
def tcX1_winsWhateverIsShut_1 : List (Instr × Nat) := [(.iload_n 2, 1), (.invokevirtual 46, 3), (.istore 5, 2), (.aload_n 0, 1), (.getfield 12, 3), (.iload_n 3, 1), (.iload 4, 2), (.invokevirtual 76, 3), (.iload 5, 2), (.ifCond .ne 5, 3), (.iconst 0, 1), (.ireturn, 1), (.iinc 3 1, 3), (.goto (-70), 3), (.aload_n 0, 1), (.iload_n 1, 1), (.iload_n 2, 1), (.invokevirtual 46, 3), (.ireturn, 1)]
theorem ocX1_winsWhateverIsShut_1 : chk (cX1_winsWhateverIsShut.data.toList.drop 46) tcX1_winsWhateverIsShut_1 = true := by decide +kernel
theorem dX1_winsWhateverIsShut_46 : decode cX1_winsWhateverIsShut 46 = .ok (.iload_n 2, 1) := chk_nth ocX1_winsWhateverIsShut_1 (k := 0) rfl
theorem dX1_winsWhateverIsShut_47 : decode cX1_winsWhateverIsShut 47 = .ok (.invokevirtual 46, 3) := chk_nth ocX1_winsWhateverIsShut_1 (k := 1) rfl
theorem dX1_winsWhateverIsShut_50 : decode cX1_winsWhateverIsShut 50 = .ok (.istore 5, 2) := chk_nth ocX1_winsWhateverIsShut_1 (k := 2) rfl
theorem dX1_winsWhateverIsShut_52 : decode cX1_winsWhateverIsShut 52 = .ok (.aload_n 0, 1) := chk_nth ocX1_winsWhateverIsShut_1 (k := 3) rfl
theorem dX1_winsWhateverIsShut_53 : decode cX1_winsWhateverIsShut 53 = .ok (.getfield 12, 3) := chk_nth ocX1_winsWhateverIsShut_1 (k := 4) rfl
theorem dX1_winsWhateverIsShut_56 : decode cX1_winsWhateverIsShut 56 = .ok (.iload_n 3, 1) := chk_nth ocX1_winsWhateverIsShut_1 (k := 5) rfl
theorem dX1_winsWhateverIsShut_57 : decode cX1_winsWhateverIsShut 57 = .ok (.iload 4, 2) := chk_nth ocX1_winsWhateverIsShut_1 (k := 6) rfl
theorem dX1_winsWhateverIsShut_59 : decode cX1_winsWhateverIsShut 59 = .ok (.invokevirtual 76, 3) := chk_nth ocX1_winsWhateverIsShut_1 (k := 7) rfl
theorem dX1_winsWhateverIsShut_62 : decode cX1_winsWhateverIsShut 62 = .ok (.iload 5, 2) := chk_nth ocX1_winsWhateverIsShut_1 (k := 8) rfl
theorem dX1_winsWhateverIsShut_64 : decode cX1_winsWhateverIsShut 64 = .ok (.ifCond .ne 5, 3) := chk_nth ocX1_winsWhateverIsShut_1 (k := 9) rfl
theorem dX1_winsWhateverIsShut_67 : decode cX1_winsWhateverIsShut 67 = .ok (.iconst 0, 1) := chk_nth ocX1_winsWhateverIsShut_1 (k := 10) rfl
theorem dX1_winsWhateverIsShut_68 : decode cX1_winsWhateverIsShut 68 = .ok (.ireturn, 1) := chk_nth ocX1_winsWhateverIsShut_1 (k := 11) rfl
theorem dX1_winsWhateverIsShut_69 : decode cX1_winsWhateverIsShut 69 = .ok (.iinc 3 1, 3) := chk_nth ocX1_winsWhateverIsShut_1 (k := 12) rfl
theorem dX1_winsWhateverIsShut_72 : decode cX1_winsWhateverIsShut 72 = .ok (.goto (-70), 3) := chk_nth ocX1_winsWhateverIsShut_1 (k := 13) rfl
theorem dX1_winsWhateverIsShut_75 : decode cX1_winsWhateverIsShut 75 = .ok (.aload_n 0, 1) := chk_nth ocX1_winsWhateverIsShut_1 (k := 14) rfl
theorem dX1_winsWhateverIsShut_76 : decode cX1_winsWhateverIsShut 76 = .ok (.iload_n 1, 1) := chk_nth ocX1_winsWhateverIsShut_1 (k := 15) rfl
theorem dX1_winsWhateverIsShut_77 : decode cX1_winsWhateverIsShut 77 = .ok (.iload_n 2, 1) := chk_nth ocX1_winsWhateverIsShut_1 (k := 16) rfl
theorem dX1_winsWhateverIsShut_78 : decode cX1_winsWhateverIsShut 78 = .ok (.invokevirtual 46, 3) := chk_nth ocX1_winsWhateverIsShut_1 (k := 17) rfl
theorem dX1_winsWhateverIsShut_81 : decode cX1_winsWhateverIsShut 81 = .ok (.ireturn, 1) := chk_nth ocX1_winsWhateverIsShut_1 (k := 18) rfl
def tcX2_init_0 : List (Instr × Nat) := [(.aload_n 0, 1), (.invokespecial 3, 3), (.aload_n 0, 1), (.bipush 10, 2), (.anewarray 9, 3), (.putfield 11, 3), (.iconst 0, 1), (.istore_n 1, 1), (.iload_n 1, 1), (.aload_n 0, 1), (.getfield 11, 3), (.arraylength, 1), (.if_icmp .ge 22, 3), (.aload_n 0, 1), (.getfield 11, 3), (.iload_n 1, 1), (.new 9, 3), (.dup, 1), (.invokespecial 17, 3), (.aastore, 1), (.iinc 1 1, 3), (.goto (-25), 3), (.return_, 1)]
theorem ocX2_init_0 : chk (cX2_init.data.toList.drop 0) tcX2_init_0 = true := by decide +kernel
theorem dX2_init_0 : decode cX2_init 0 = .ok (.aload_n 0, 1) := chk_nth ocX2_init_0 (k := 0) rfl
theorem dX2_init_1 : decode cX2_init 1 = .ok (.invokespecial 3, 3) := chk_nth ocX2_init_0 (k := 1) rfl
theorem dX2_init_4 : decode cX2_init 4 = .ok (.aload_n 0, 1) := chk_nth ocX2_init_0 (k := 2) rfl
theorem dX2_init_5 : decode cX2_init 5 = .ok (.bipush 10, 2) := chk_nth ocX2_init_0 (k := 3) rfl
theorem dX2_init_7 : decode cX2_init 7 = .ok (.anewarray 9, 3) := chk_nth ocX2_init_0 (k := 4) rfl
theorem dX2_init_10 : decode cX2_init 10 = .ok (.putfield 11, 3) := chk_nth ocX2_init_0 (k := 5) rfl
theorem dX2_init_13 : decode cX2_init 13 = .ok (.iconst 0, 1) := chk_nth ocX2_init_0 (k := 6) rfl
theorem dX2_init_14 : decode cX2_init 14 = .ok (.istore_n 1, 1) := chk_nth ocX2_init_0 (k := 7) rfl
theorem dX2_init_15 : decode cX2_init 15 = .ok (.iload_n 1, 1) := chk_nth ocX2_init_0 (k := 8) rfl
theorem dX2_init_16 : decode cX2_init 16 = .ok (.aload_n 0, 1) := chk_nth ocX2_init_0 (k := 9) rfl
theorem dX2_init_17 : decode cX2_init 17 = .ok (.getfield 11, 3) := chk_nth ocX2_init_0 (k := 10) rfl
theorem dX2_init_20 : decode cX2_init 20 = .ok (.arraylength, 1) := chk_nth ocX2_init_0 (k := 11) rfl
theorem dX2_init_21 : decode cX2_init 21 = .ok (.if_icmp .ge 22, 3) := chk_nth ocX2_init_0 (k := 12) rfl
theorem dX2_init_24 : decode cX2_init 24 = .ok (.aload_n 0, 1) := chk_nth ocX2_init_0 (k := 13) rfl
theorem dX2_init_25 : decode cX2_init 25 = .ok (.getfield 11, 3) := chk_nth ocX2_init_0 (k := 14) rfl
theorem dX2_init_28 : decode cX2_init 28 = .ok (.iload_n 1, 1) := chk_nth ocX2_init_0 (k := 15) rfl
theorem dX2_init_29 : decode cX2_init 29 = .ok (.new 9, 3) := chk_nth ocX2_init_0 (k := 16) rfl
theorem dX2_init_32 : decode cX2_init 32 = .ok (.dup, 1) := chk_nth ocX2_init_0 (k := 17) rfl
theorem dX2_init_33 : decode cX2_init 33 = .ok (.invokespecial 17, 3) := chk_nth ocX2_init_0 (k := 18) rfl
theorem dX2_init_36 : decode cX2_init 36 = .ok (.aastore, 1) := chk_nth ocX2_init_0 (k := 19) rfl
theorem dX2_init_37 : decode cX2_init 37 = .ok (.iinc 1 1, 3) := chk_nth ocX2_init_0 (k := 20) rfl
theorem dX2_init_40 : decode cX2_init 40 = .ok (.goto (-25), 3) := chk_nth ocX2_init_0 (k := 21) rfl
theorem dX2_init_43 : decode cX2_init 43 = .ok (.return_, 1) := chk_nth ocX2_init_0 (k := 22) rfl
def tcX2_keep_0 : List (Instr × Nat) := [(.aload_n 0, 1), (.aload_n 0, 1), (.getfield 18, 3), (.invokevirtual 22, 3), (.astore_n 2, 1), (.aload_n 2, 1), (.ifnull 8, 3), (.aload_n 2, 1), (.aload_n 1, 1), (.invokevirtual 26, 3), (.aload_n 0, 1), (.getfield 18, 3), (.bipush 10, 2), (.if_icmp .ge 16, 3), (.aload_n 0, 1), (.dup, 1), (.getfield 18, 3), (.iconst 1, 1), (.iadd, 1), (.putfield 18, 3), (.goto 16, 3), (.aload_n 0, 1), (.aload_n 0, 1), (.getfield 30, 3)]
theorem ocX2_keep_0 : chk (cX2_keep.data.toList.drop 0) tcX2_keep_0 = true := by decide +kernel
theorem dX2_keep_0 : decode cX2_keep 0 = .ok (.aload_n 0, 1) := chk_nth ocX2_keep_0 (k := 0) rfl
theorem dX2_keep_1 : decode cX2_keep 1 = .ok (.aload_n 0, 1) := chk_nth ocX2_keep_0 (k := 1) rfl
theorem dX2_keep_2 : decode cX2_keep 2 = .ok (.getfield 18, 3) := chk_nth ocX2_keep_0 (k := 2) rfl
theorem dX2_keep_5 : decode cX2_keep 5 = .ok (.invokevirtual 22, 3) := chk_nth ocX2_keep_0 (k := 3) rfl
theorem dX2_keep_8 : decode cX2_keep 8 = .ok (.astore_n 2, 1) := chk_nth ocX2_keep_0 (k := 4) rfl
theorem dX2_keep_9 : decode cX2_keep 9 = .ok (.aload_n 2, 1) := chk_nth ocX2_keep_0 (k := 5) rfl
theorem dX2_keep_10 : decode cX2_keep 10 = .ok (.ifnull 8, 3) := chk_nth ocX2_keep_0 (k := 6) rfl
theorem dX2_keep_13 : decode cX2_keep 13 = .ok (.aload_n 2, 1) := chk_nth ocX2_keep_0 (k := 7) rfl
theorem dX2_keep_14 : decode cX2_keep 14 = .ok (.aload_n 1, 1) := chk_nth ocX2_keep_0 (k := 8) rfl
theorem dX2_keep_15 : decode cX2_keep 15 = .ok (.invokevirtual 26, 3) := chk_nth ocX2_keep_0 (k := 9) rfl
theorem dX2_keep_18 : decode cX2_keep 18 = .ok (.aload_n 0, 1) := chk_nth ocX2_keep_0 (k := 10) rfl
theorem dX2_keep_19 : decode cX2_keep 19 = .ok (.getfield 18, 3) := chk_nth ocX2_keep_0 (k := 11) rfl
theorem dX2_keep_22 : decode cX2_keep 22 = .ok (.bipush 10, 2) := chk_nth ocX2_keep_0 (k := 12) rfl
theorem dX2_keep_24 : decode cX2_keep 24 = .ok (.if_icmp .ge 16, 3) := chk_nth ocX2_keep_0 (k := 13) rfl
theorem dX2_keep_27 : decode cX2_keep 27 = .ok (.aload_n 0, 1) := chk_nth ocX2_keep_0 (k := 14) rfl
theorem dX2_keep_28 : decode cX2_keep 28 = .ok (.dup, 1) := chk_nth ocX2_keep_0 (k := 15) rfl
theorem dX2_keep_29 : decode cX2_keep 29 = .ok (.getfield 18, 3) := chk_nth ocX2_keep_0 (k := 16) rfl
theorem dX2_keep_32 : decode cX2_keep 32 = .ok (.iconst 1, 1) := chk_nth ocX2_keep_0 (k := 17) rfl
theorem dX2_keep_33 : decode cX2_keep 33 = .ok (.iadd, 1) := chk_nth ocX2_keep_0 (k := 18) rfl
theorem dX2_keep_34 : decode cX2_keep 34 = .ok (.putfield 18, 3) := chk_nth ocX2_keep_0 (k := 19) rfl
theorem dX2_keep_37 : decode cX2_keep 37 = .ok (.goto 16, 3) := chk_nth ocX2_keep_0 (k := 20) rfl
theorem dX2_keep_40 : decode cX2_keep 40 = .ok (.aload_n 0, 1) := chk_nth ocX2_keep_0 (k := 21) rfl
theorem dX2_keep_41 : decode cX2_keep 41 = .ok (.aload_n 0, 1) := chk_nth ocX2_keep_0 (k := 22) rfl
theorem dX2_keep_42 : decode cX2_keep 42 = .ok (.getfield 30, 3) := chk_nth ocX2_keep_0 (k := 23) rfl
def tcX2_keep_1 : List (Instr × Nat) := [(.iconst 1, 1), (.iadd, 1), (.bipush 10, 2), (.irem, 1), (.putfield 30, 3), (.return_, 1)]
theorem ocX2_keep_1 : chk (cX2_keep.data.toList.drop 45) tcX2_keep_1 = true := by decide +kernel
theorem dX2_keep_45 : decode cX2_keep 45 = .ok (.iconst 1, 1) := chk_nth ocX2_keep_1 (k := 0) rfl
theorem dX2_keep_46 : decode cX2_keep 46 = .ok (.iadd, 1) := chk_nth ocX2_keep_1 (k := 1) rfl
theorem dX2_keep_47 : decode cX2_keep 47 = .ok (.bipush 10, 2) := chk_nth ocX2_keep_1 (k := 2) rfl
theorem dX2_keep_49 : decode cX2_keep 49 = .ok (.irem, 1) := chk_nth ocX2_keep_1 (k := 3) rfl
theorem dX2_keep_50 : decode cX2_keep 50 = .ok (.putfield 30, 3) := chk_nth ocX2_keep_1 (k := 4) rfl
theorem dX2_keep_53 : decode cX2_keep 53 = .ok (.return_, 1) := chk_nth ocX2_keep_1 (k := 5) rfl
def tcX2_bringBack_0 : List (Instr × Nat) := [(.aload_n 0, 1), (.aload_n 0, 1), (.getfield 18, 3), (.iload_n 1, 1), (.isub, 1), (.invokevirtual 22, 3), (.astore_n 3, 1), (.aload_n 3, 1), (.ifnull 18, 3), (.aload_n 2, 1), (.aload_n 3, 1), (.invokevirtual 26, 3), (.aload_n 0, 1), (.dup, 1), (.getfield 18, 3), (.iload_n 1, 1), (.isub, 1), (.putfield 18, 3), (.return_, 1)]
theorem ocX2_bringBack_0 : chk (cX2_bringBack.data.toList.drop 0) tcX2_bringBack_0 = true := by decide +kernel
theorem dX2_bringBack_0 : decode cX2_bringBack 0 = .ok (.aload_n 0, 1) := chk_nth ocX2_bringBack_0 (k := 0) rfl
theorem dX2_bringBack_1 : decode cX2_bringBack 1 = .ok (.aload_n 0, 1) := chk_nth ocX2_bringBack_0 (k := 1) rfl
theorem dX2_bringBack_2 : decode cX2_bringBack 2 = .ok (.getfield 18, 3) := chk_nth ocX2_bringBack_0 (k := 2) rfl
theorem dX2_bringBack_5 : decode cX2_bringBack 5 = .ok (.iload_n 1, 1) := chk_nth ocX2_bringBack_0 (k := 3) rfl
theorem dX2_bringBack_6 : decode cX2_bringBack 6 = .ok (.isub, 1) := chk_nth ocX2_bringBack_0 (k := 4) rfl
theorem dX2_bringBack_7 : decode cX2_bringBack 7 = .ok (.invokevirtual 22, 3) := chk_nth ocX2_bringBack_0 (k := 5) rfl
theorem dX2_bringBack_10 : decode cX2_bringBack 10 = .ok (.astore_n 3, 1) := chk_nth ocX2_bringBack_0 (k := 6) rfl
theorem dX2_bringBack_11 : decode cX2_bringBack 11 = .ok (.aload_n 3, 1) := chk_nth ocX2_bringBack_0 (k := 7) rfl
theorem dX2_bringBack_12 : decode cX2_bringBack 12 = .ok (.ifnull 18, 3) := chk_nth ocX2_bringBack_0 (k := 8) rfl
theorem dX2_bringBack_15 : decode cX2_bringBack 15 = .ok (.aload_n 2, 1) := chk_nth ocX2_bringBack_0 (k := 9) rfl
theorem dX2_bringBack_16 : decode cX2_bringBack 16 = .ok (.aload_n 3, 1) := chk_nth ocX2_bringBack_0 (k := 10) rfl
theorem dX2_bringBack_17 : decode cX2_bringBack 17 = .ok (.invokevirtual 26, 3) := chk_nth ocX2_bringBack_0 (k := 11) rfl
theorem dX2_bringBack_20 : decode cX2_bringBack 20 = .ok (.aload_n 0, 1) := chk_nth ocX2_bringBack_0 (k := 12) rfl
theorem dX2_bringBack_21 : decode cX2_bringBack 21 = .ok (.dup, 1) := chk_nth ocX2_bringBack_0 (k := 13) rfl
theorem dX2_bringBack_22 : decode cX2_bringBack 22 = .ok (.getfield 18, 3) := chk_nth ocX2_bringBack_0 (k := 14) rfl
theorem dX2_bringBack_25 : decode cX2_bringBack 25 = .ok (.iload_n 1, 1) := chk_nth ocX2_bringBack_0 (k := 15) rfl
theorem dX2_bringBack_26 : decode cX2_bringBack 26 = .ok (.isub, 1) := chk_nth ocX2_bringBack_0 (k := 16) rfl
theorem dX2_bringBack_27 : decode cX2_bringBack 27 = .ok (.putfield 18, 3) := chk_nth ocX2_bringBack_0 (k := 17) rfl
theorem dX2_bringBack_30 : decode cX2_bringBack 30 = .ok (.return_, 1) := chk_nth ocX2_bringBack_0 (k := 18) rfl
def tcX2_keptAt_0 : List (Instr × Nat) := [(.aload_n 0, 1), (.getfield 30, 3), (.iload_n 1, 1), (.iadd, 1), (.bipush 10, 2), (.irem, 1), (.istore_n 2, 1), (.iload_n 2, 1), (.ifCond .lt 21, 3), (.iload_n 2, 1), (.aload_n 0, 1), (.getfield 11, 3), (.arraylength, 1), (.if_icmp .ge 12, 3), (.aload_n 0, 1), (.getfield 11, 3), (.iload_n 2, 1), (.aaload, 1), (.goto 4, 3), (.aconst_null, 1), (.areturn, 1)]
theorem ocX2_keptAt_0 : chk (cX2_keptAt.data.toList.drop 0) tcX2_keptAt_0 = true := by decide +kernel
theorem dX2_keptAt_0 : decode cX2_keptAt 0 = .ok (.aload_n 0, 1) := chk_nth ocX2_keptAt_0 (k := 0) rfl
theorem dX2_keptAt_1 : decode cX2_keptAt 1 = .ok (.getfield 30, 3) := chk_nth ocX2_keptAt_0 (k := 1) rfl
theorem dX2_keptAt_4 : decode cX2_keptAt 4 = .ok (.iload_n 1, 1) := chk_nth ocX2_keptAt_0 (k := 2) rfl
theorem dX2_keptAt_5 : decode cX2_keptAt 5 = .ok (.iadd, 1) := chk_nth ocX2_keptAt_0 (k := 3) rfl
theorem dX2_keptAt_6 : decode cX2_keptAt 6 = .ok (.bipush 10, 2) := chk_nth ocX2_keptAt_0 (k := 4) rfl
theorem dX2_keptAt_8 : decode cX2_keptAt 8 = .ok (.irem, 1) := chk_nth ocX2_keptAt_0 (k := 5) rfl
theorem dX2_keptAt_9 : decode cX2_keptAt 9 = .ok (.istore_n 2, 1) := chk_nth ocX2_keptAt_0 (k := 6) rfl
theorem dX2_keptAt_10 : decode cX2_keptAt 10 = .ok (.iload_n 2, 1) := chk_nth ocX2_keptAt_0 (k := 7) rfl
theorem dX2_keptAt_11 : decode cX2_keptAt 11 = .ok (.ifCond .lt 21, 3) := chk_nth ocX2_keptAt_0 (k := 8) rfl
theorem dX2_keptAt_14 : decode cX2_keptAt 14 = .ok (.iload_n 2, 1) := chk_nth ocX2_keptAt_0 (k := 9) rfl
theorem dX2_keptAt_15 : decode cX2_keptAt 15 = .ok (.aload_n 0, 1) := chk_nth ocX2_keptAt_0 (k := 10) rfl
theorem dX2_keptAt_16 : decode cX2_keptAt 16 = .ok (.getfield 11, 3) := chk_nth ocX2_keptAt_0 (k := 11) rfl
theorem dX2_keptAt_19 : decode cX2_keptAt 19 = .ok (.arraylength, 1) := chk_nth ocX2_keptAt_0 (k := 12) rfl
theorem dX2_keptAt_20 : decode cX2_keptAt 20 = .ok (.if_icmp .ge 12, 3) := chk_nth ocX2_keptAt_0 (k := 13) rfl
theorem dX2_keptAt_23 : decode cX2_keptAt 23 = .ok (.aload_n 0, 1) := chk_nth ocX2_keptAt_0 (k := 14) rfl
theorem dX2_keptAt_24 : decode cX2_keptAt 24 = .ok (.getfield 11, 3) := chk_nth ocX2_keptAt_0 (k := 15) rfl
theorem dX2_keptAt_27 : decode cX2_keptAt 27 = .ok (.iload_n 2, 1) := chk_nth ocX2_keptAt_0 (k := 16) rfl
theorem dX2_keptAt_28 : decode cX2_keptAt 28 = .ok (.aaload, 1) := chk_nth ocX2_keptAt_0 (k := 17) rfl
theorem dX2_keptAt_29 : decode cX2_keptAt 29 = .ok (.goto 4, 3) := chk_nth ocX2_keptAt_0 (k := 18) rfl
theorem dX2_keptAt_32 : decode cX2_keptAt 32 = .ok (.aconst_null, 1) := chk_nth ocX2_keptAt_0 (k := 19) rfl
theorem dX2_keptAt_33 : decode cX2_keptAt 33 = .ok (.areturn, 1) := chk_nth ocX2_keptAt_0 (k := 20) rfl
def tcX3_init_0 : List (Instr × Nat) := [(.aload_n 0, 1), (.invokespecial 3, 3), (.aload_n 0, 1), (.sipush 900, 3), (.newarray .byte, 2), (.putfield 9, 3), (.aload_n 0, 1), (.new 15, 3), (.dup, 1), (.invokespecial 17, 3), (.putfield 18, 3), (.aload_n 0, 1), (.iconst (-1), 1), (.putfield 22, 3), (.return_, 1)]
theorem ocX3_init_0 : chk (cX3_init.data.toList.drop 0) tcX3_init_0 = true := by decide +kernel
theorem dX3_init_0 : decode cX3_init 0 = .ok (.aload_n 0, 1) := chk_nth ocX3_init_0 (k := 0) rfl
theorem dX3_init_1 : decode cX3_init 1 = .ok (.invokespecial 3, 3) := chk_nth ocX3_init_0 (k := 1) rfl
theorem dX3_init_4 : decode cX3_init 4 = .ok (.aload_n 0, 1) := chk_nth ocX3_init_0 (k := 2) rfl
theorem dX3_init_5 : decode cX3_init 5 = .ok (.sipush 900, 3) := chk_nth ocX3_init_0 (k := 3) rfl
theorem dX3_init_8 : decode cX3_init 8 = .ok (.newarray .byte, 2) := chk_nth ocX3_init_0 (k := 4) rfl
theorem dX3_init_10 : decode cX3_init 10 = .ok (.putfield 9, 3) := chk_nth ocX3_init_0 (k := 5) rfl
theorem dX3_init_13 : decode cX3_init 13 = .ok (.aload_n 0, 1) := chk_nth ocX3_init_0 (k := 6) rfl
theorem dX3_init_14 : decode cX3_init 14 = .ok (.new 15, 3) := chk_nth ocX3_init_0 (k := 7) rfl
theorem dX3_init_17 : decode cX3_init 17 = .ok (.dup, 1) := chk_nth ocX3_init_0 (k := 8) rfl
theorem dX3_init_18 : decode cX3_init 18 = .ok (.invokespecial 17, 3) := chk_nth ocX3_init_0 (k := 9) rfl
theorem dX3_init_21 : decode cX3_init 21 = .ok (.putfield 18, 3) := chk_nth ocX3_init_0 (k := 10) rfl
theorem dX3_init_24 : decode cX3_init 24 = .ok (.aload_n 0, 1) := chk_nth ocX3_init_0 (k := 11) rfl
theorem dX3_init_25 : decode cX3_init 25 = .ok (.iconst (-1), 1) := chk_nth ocX3_init_0 (k := 12) rfl
theorem dX3_init_26 : decode cX3_init 26 = .ok (.putfield 22, 3) := chk_nth ocX3_init_0 (k := 13) rfl
theorem dX3_init_29 : decode cX3_init 29 = .ok (.return_, 1) := chk_nth ocX3_init_0 (k := 14) rfl
def tcX3_append_0 : List (Instr × Nat) := [(.bipush 24, 2), (.istore_n 2, 1), (.iload_n 2, 1), (.ifCond .lt 44, 3), (.aload_n 0, 1), (.getfield 26, 3), (.aload_n 0, 1), (.getfield 9, 3), (.arraylength, 1), (.if_icmp .ge 26, 3), (.aload_n 0, 1), (.getfield 9, 3), (.aload_n 0, 1), (.getfield 26, 3), (.iload_n 1, 1), (.iload_n 2, 1), (.ishr, 1), (.i2b, 1), (.bastore, 1), (.aload_n 0, 1), (.dup, 1), (.getfield 26, 3), (.iconst 1, 1), (.iadd, 1)]
theorem ocX3_append_0 : chk (cX3_append.data.toList.drop 0) tcX3_append_0 = true := by decide +kernel
theorem dX3_append_0 : decode cX3_append 0 = .ok (.bipush 24, 2) := chk_nth ocX3_append_0 (k := 0) rfl
theorem dX3_append_2 : decode cX3_append 2 = .ok (.istore_n 2, 1) := chk_nth ocX3_append_0 (k := 1) rfl
theorem dX3_append_3 : decode cX3_append 3 = .ok (.iload_n 2, 1) := chk_nth ocX3_append_0 (k := 2) rfl
theorem dX3_append_4 : decode cX3_append 4 = .ok (.ifCond .lt 44, 3) := chk_nth ocX3_append_0 (k := 3) rfl
theorem dX3_append_7 : decode cX3_append 7 = .ok (.aload_n 0, 1) := chk_nth ocX3_append_0 (k := 4) rfl
theorem dX3_append_8 : decode cX3_append 8 = .ok (.getfield 26, 3) := chk_nth ocX3_append_0 (k := 5) rfl
theorem dX3_append_11 : decode cX3_append 11 = .ok (.aload_n 0, 1) := chk_nth ocX3_append_0 (k := 6) rfl
theorem dX3_append_12 : decode cX3_append 12 = .ok (.getfield 9, 3) := chk_nth ocX3_append_0 (k := 7) rfl
theorem dX3_append_15 : decode cX3_append 15 = .ok (.arraylength, 1) := chk_nth ocX3_append_0 (k := 8) rfl
theorem dX3_append_16 : decode cX3_append 16 = .ok (.if_icmp .ge 26, 3) := chk_nth ocX3_append_0 (k := 9) rfl
theorem dX3_append_19 : decode cX3_append 19 = .ok (.aload_n 0, 1) := chk_nth ocX3_append_0 (k := 10) rfl
theorem dX3_append_20 : decode cX3_append 20 = .ok (.getfield 9, 3) := chk_nth ocX3_append_0 (k := 11) rfl
theorem dX3_append_23 : decode cX3_append 23 = .ok (.aload_n 0, 1) := chk_nth ocX3_append_0 (k := 12) rfl
theorem dX3_append_24 : decode cX3_append 24 = .ok (.getfield 26, 3) := chk_nth ocX3_append_0 (k := 13) rfl
theorem dX3_append_27 : decode cX3_append 27 = .ok (.iload_n 1, 1) := chk_nth ocX3_append_0 (k := 14) rfl
theorem dX3_append_28 : decode cX3_append 28 = .ok (.iload_n 2, 1) := chk_nth ocX3_append_0 (k := 15) rfl
theorem dX3_append_29 : decode cX3_append 29 = .ok (.ishr, 1) := chk_nth ocX3_append_0 (k := 16) rfl
theorem dX3_append_30 : decode cX3_append 30 = .ok (.i2b, 1) := chk_nth ocX3_append_0 (k := 17) rfl
theorem dX3_append_31 : decode cX3_append 31 = .ok (.bastore, 1) := chk_nth ocX3_append_0 (k := 18) rfl
theorem dX3_append_32 : decode cX3_append 32 = .ok (.aload_n 0, 1) := chk_nth ocX3_append_0 (k := 19) rfl
theorem dX3_append_33 : decode cX3_append 33 = .ok (.dup, 1) := chk_nth ocX3_append_0 (k := 20) rfl
theorem dX3_append_34 : decode cX3_append 34 = .ok (.getfield 26, 3) := chk_nth ocX3_append_0 (k := 21) rfl
theorem dX3_append_37 : decode cX3_append 37 = .ok (.iconst 1, 1) := chk_nth ocX3_append_0 (k := 22) rfl
theorem dX3_append_38 : decode cX3_append 38 = .ok (.iadd, 1) := chk_nth ocX3_append_0 (k := 23) rfl
def tcX3_append_1 : List (Instr × Nat) := [(.putfield 26, 3), (.iinc 2 (-8), 3), (.goto (-42), 3), (.return_, 1)]
theorem ocX3_append_1 : chk (cX3_append.data.toList.drop 39) tcX3_append_1 = true := by decide +kernel
theorem dX3_append_39 : decode cX3_append 39 = .ok (.putfield 26, 3) := chk_nth ocX3_append_1 (k := 0) rfl
theorem dX3_append_42 : decode cX3_append 42 = .ok (.iinc 2 (-8), 3) := chk_nth ocX3_append_1 (k := 1) rfl
theorem dX3_append_45 : decode cX3_append 45 = .ok (.goto (-42), 3) := chk_nth ocX3_append_1 (k := 2) rfl
theorem dX3_append_48 : decode cX3_append 48 = .ok (.return_, 1) := chk_nth ocX3_append_1 (k := 3) rfl
def tcX3_read_0 : List (Instr × Nat) := [(.aload_n 0, 1), (.iconst 0, 1), (.putfield 29, 3), (.aload_n 0, 1), (.iconst (-1), 1), (.putfield 22, 3), (.aload_n 0, 1), (.iload_n 1, 1), (.aload_n 0, 1), (.getfield 26, 3), (.invokestatic 32, 3), (.putfield 38, 3), (.aload_n 0, 1), (.iconst 0, 1), (.putfield 41, 3), (.aload_n 0, 1), (.getfield 18, 3), (.invokevirtual 44, 3), (.aload_n 0, 1), (.invokevirtual 47, 3), (.aload_n 0, 1), (.sipush 1000, 3), (.invokevirtual 50, 3), (.aload_n 0, 1)]
theorem ocX3_read_0 : chk (cX3_read.data.toList.drop 0) tcX3_read_0 = true := by decide +kernel
theorem dX3_read_0 : decode cX3_read 0 = .ok (.aload_n 0, 1) := chk_nth ocX3_read_0 (k := 0) rfl
theorem dX3_read_1 : decode cX3_read 1 = .ok (.iconst 0, 1) := chk_nth ocX3_read_0 (k := 1) rfl
theorem dX3_read_2 : decode cX3_read 2 = .ok (.putfield 29, 3) := chk_nth ocX3_read_0 (k := 2) rfl
theorem dX3_read_5 : decode cX3_read 5 = .ok (.aload_n 0, 1) := chk_nth ocX3_read_0 (k := 3) rfl
theorem dX3_read_6 : decode cX3_read 6 = .ok (.iconst (-1), 1) := chk_nth ocX3_read_0 (k := 4) rfl
theorem dX3_read_7 : decode cX3_read 7 = .ok (.putfield 22, 3) := chk_nth ocX3_read_0 (k := 5) rfl
theorem dX3_read_10 : decode cX3_read 10 = .ok (.aload_n 0, 1) := chk_nth ocX3_read_0 (k := 6) rfl
theorem dX3_read_11 : decode cX3_read 11 = .ok (.iload_n 1, 1) := chk_nth ocX3_read_0 (k := 7) rfl
theorem dX3_read_12 : decode cX3_read 12 = .ok (.aload_n 0, 1) := chk_nth ocX3_read_0 (k := 8) rfl
theorem dX3_read_13 : decode cX3_read 13 = .ok (.getfield 26, 3) := chk_nth ocX3_read_0 (k := 9) rfl
theorem dX3_read_16 : decode cX3_read 16 = .ok (.invokestatic 32, 3) := chk_nth ocX3_read_0 (k := 10) rfl
theorem dX3_read_19 : decode cX3_read 19 = .ok (.putfield 38, 3) := chk_nth ocX3_read_0 (k := 11) rfl
theorem dX3_read_22 : decode cX3_read 22 = .ok (.aload_n 0, 1) := chk_nth ocX3_read_0 (k := 12) rfl
theorem dX3_read_23 : decode cX3_read 23 = .ok (.iconst 0, 1) := chk_nth ocX3_read_0 (k := 13) rfl
theorem dX3_read_24 : decode cX3_read 24 = .ok (.putfield 41, 3) := chk_nth ocX3_read_0 (k := 14) rfl
theorem dX3_read_27 : decode cX3_read 27 = .ok (.aload_n 0, 1) := chk_nth ocX3_read_0 (k := 15) rfl
theorem dX3_read_28 : decode cX3_read 28 = .ok (.getfield 18, 3) := chk_nth ocX3_read_0 (k := 16) rfl
theorem dX3_read_31 : decode cX3_read 31 = .ok (.invokevirtual 44, 3) := chk_nth ocX3_read_0 (k := 17) rfl
theorem dX3_read_34 : decode cX3_read 34 = .ok (.aload_n 0, 1) := chk_nth ocX3_read_0 (k := 18) rfl
theorem dX3_read_35 : decode cX3_read 35 = .ok (.invokevirtual 47, 3) := chk_nth ocX3_read_0 (k := 19) rfl
theorem dX3_read_38 : decode cX3_read 38 = .ok (.aload_n 0, 1) := chk_nth ocX3_read_0 (k := 20) rfl
theorem dX3_read_39 : decode cX3_read 39 = .ok (.sipush 1000, 3) := chk_nth ocX3_read_0 (k := 21) rfl
theorem dX3_read_42 : decode cX3_read 42 = .ok (.invokevirtual 50, 3) := chk_nth ocX3_read_0 (k := 22) rfl
theorem dX3_read_45 : decode cX3_read 45 = .ok (.aload_n 0, 1) := chk_nth ocX3_read_0 (k := 23) rfl
def tcX3_read_1 : List (Instr × Nat) := [(.getfield 18, 3), (.aload_n 0, 1), (.iconst 1, 1), (.bipush 6, 2), (.iconst (-1), 1), (.invokevirtual 54, 3), (.putfield 58, 3), (.aload_n 0, 1), (.bipush 59, 2), (.invokevirtual 50, 3), (.aload_n 0, 1), (.getfield 18, 3), (.iconst 1, 1), (.putfield 61, 3), (.iconst 0, 1), (.istore_n 2, 1), (.iload_n 2, 1), (.sipush 900, 3), (.if_icmp .ge 28, 3), (.aload_n 0, 1), (.getfield 64, 3), (.ifCond .eq 21, 3), (.aload_n 0, 1), (.getfield 64, 3)]
theorem ocX3_read_1 : chk (cX3_read.data.toList.drop 46) tcX3_read_1 = true := by decide +kernel
theorem dX3_read_46 : decode cX3_read 46 = .ok (.getfield 18, 3) := chk_nth ocX3_read_1 (k := 0) rfl
theorem dX3_read_49 : decode cX3_read 49 = .ok (.aload_n 0, 1) := chk_nth ocX3_read_1 (k := 1) rfl
theorem dX3_read_50 : decode cX3_read 50 = .ok (.iconst 1, 1) := chk_nth ocX3_read_1 (k := 2) rfl
theorem dX3_read_51 : decode cX3_read 51 = .ok (.bipush 6, 2) := chk_nth ocX3_read_1 (k := 3) rfl
theorem dX3_read_53 : decode cX3_read 53 = .ok (.iconst (-1), 1) := chk_nth ocX3_read_1 (k := 4) rfl
theorem dX3_read_54 : decode cX3_read 54 = .ok (.invokevirtual 54, 3) := chk_nth ocX3_read_1 (k := 5) rfl
theorem dX3_read_57 : decode cX3_read 57 = .ok (.putfield 58, 3) := chk_nth ocX3_read_1 (k := 6) rfl
theorem dX3_read_60 : decode cX3_read 60 = .ok (.aload_n 0, 1) := chk_nth ocX3_read_1 (k := 7) rfl
theorem dX3_read_61 : decode cX3_read 61 = .ok (.bipush 59, 2) := chk_nth ocX3_read_1 (k := 8) rfl
theorem dX3_read_63 : decode cX3_read 63 = .ok (.invokevirtual 50, 3) := chk_nth ocX3_read_1 (k := 9) rfl
theorem dX3_read_66 : decode cX3_read 66 = .ok (.aload_n 0, 1) := chk_nth ocX3_read_1 (k := 10) rfl
theorem dX3_read_67 : decode cX3_read 67 = .ok (.getfield 18, 3) := chk_nth ocX3_read_1 (k := 11) rfl
theorem dX3_read_70 : decode cX3_read 70 = .ok (.iconst 1, 1) := chk_nth ocX3_read_1 (k := 12) rfl
theorem dX3_read_71 : decode cX3_read 71 = .ok (.putfield 61, 3) := chk_nth ocX3_read_1 (k := 13) rfl
theorem dX3_read_74 : decode cX3_read 74 = .ok (.iconst 0, 1) := chk_nth ocX3_read_1 (k := 14) rfl
theorem dX3_read_75 : decode cX3_read 75 = .ok (.istore_n 2, 1) := chk_nth ocX3_read_1 (k := 15) rfl
theorem dX3_read_76 : decode cX3_read 76 = .ok (.iload_n 2, 1) := chk_nth ocX3_read_1 (k := 16) rfl
theorem dX3_read_77 : decode cX3_read 77 = .ok (.sipush 900, 3) := chk_nth ocX3_read_1 (k := 17) rfl
theorem dX3_read_80 : decode cX3_read 80 = .ok (.if_icmp .ge 28, 3) := chk_nth ocX3_read_1 (k := 18) rfl
theorem dX3_read_83 : decode cX3_read 83 = .ok (.aload_n 0, 1) := chk_nth ocX3_read_1 (k := 19) rfl
theorem dX3_read_84 : decode cX3_read 84 = .ok (.getfield 64, 3) := chk_nth ocX3_read_1 (k := 20) rfl
theorem dX3_read_87 : decode cX3_read 87 = .ok (.ifCond .eq 21, 3) := chk_nth ocX3_read_1 (k := 21) rfl
theorem dX3_read_90 : decode cX3_read 90 = .ok (.aload_n 0, 1) := chk_nth ocX3_read_1 (k := 22) rfl
theorem dX3_read_91 : decode cX3_read 91 = .ok (.getfield 64, 3) := chk_nth ocX3_read_1 (k := 23) rfl
def tcX3_read_2 : List (Instr × Nat) := [(.iconst 1, 1), (.if_icmp .eq 13, 3), (.aload_n 0, 1), (.invokevirtual 67, 3), (.iinc 2 1, 3), (.goto (-29), 3), (.aload_n 0, 1), (.iconst 0, 1), (.putfield 26, 3), (.return_, 1)]
theorem ocX3_read_2 : chk (cX3_read.data.toList.drop 94) tcX3_read_2 = true := by decide +kernel
theorem dX3_read_94 : decode cX3_read 94 = .ok (.iconst 1, 1) := chk_nth ocX3_read_2 (k := 0) rfl
theorem dX3_read_95 : decode cX3_read 95 = .ok (.if_icmp .eq 13, 3) := chk_nth ocX3_read_2 (k := 1) rfl
theorem dX3_read_98 : decode cX3_read 98 = .ok (.aload_n 0, 1) := chk_nth ocX3_read_2 (k := 2) rfl
theorem dX3_read_99 : decode cX3_read 99 = .ok (.invokevirtual 67, 3) := chk_nth ocX3_read_2 (k := 3) rfl
theorem dX3_read_102 : decode cX3_read 102 = .ok (.iinc 2 1, 3) := chk_nth ocX3_read_2 (k := 4) rfl
theorem dX3_read_105 : decode cX3_read 105 = .ok (.goto (-29), 3) := chk_nth ocX3_read_2 (k := 5) rfl
theorem dX3_read_108 : decode cX3_read 108 = .ok (.aload_n 0, 1) := chk_nth ocX3_read_2 (k := 6) rfl
theorem dX3_read_109 : decode cX3_read 109 = .ok (.iconst 0, 1) := chk_nth ocX3_read_2 (k := 7) rfl
theorem dX3_read_110 : decode cX3_read 110 = .ok (.putfield 26, 3) := chk_nth ocX3_read_2 (k := 8) rfl
theorem dX3_read_113 : decode cX3_read 113 = .ok (.return_, 1) := chk_nth ocX3_read_2 (k := 9) rfl
def tcX3_fail_0 : List (Instr × Nat) := [(.aload_n 0, 1), (.getfield 29, 3), (.ifCond .ne 21, 3), (.aload_n 0, 1), (.iload_n 1, 1), (.putfield 29, 3), (.aload_n 0, 1), (.aload_n 0, 1), (.getfield 70, 3), (.putfield 22, 3), (.aload_n 0, 1), (.iconst 1, 1), (.putfield 64, 3), (.return_, 1)]
theorem ocX3_fail_0 : chk (cX3_fail.data.toList.drop 0) tcX3_fail_0 = true := by decide +kernel
theorem dX3_fail_0 : decode cX3_fail 0 = .ok (.aload_n 0, 1) := chk_nth ocX3_fail_0 (k := 0) rfl
theorem dX3_fail_1 : decode cX3_fail 1 = .ok (.getfield 29, 3) := chk_nth ocX3_fail_0 (k := 1) rfl
theorem dX3_fail_4 : decode cX3_fail 4 = .ok (.ifCond .ne 21, 3) := chk_nth ocX3_fail_0 (k := 2) rfl
theorem dX3_fail_7 : decode cX3_fail 7 = .ok (.aload_n 0, 1) := chk_nth ocX3_fail_0 (k := 3) rfl
theorem dX3_fail_8 : decode cX3_fail 8 = .ok (.iload_n 1, 1) := chk_nth ocX3_fail_0 (k := 4) rfl
theorem dX3_fail_9 : decode cX3_fail 9 = .ok (.putfield 29, 3) := chk_nth ocX3_fail_0 (k := 5) rfl
theorem dX3_fail_12 : decode cX3_fail 12 = .ok (.aload_n 0, 1) := chk_nth ocX3_fail_0 (k := 6) rfl
theorem dX3_fail_13 : decode cX3_fail 13 = .ok (.aload_n 0, 1) := chk_nth ocX3_fail_0 (k := 7) rfl
theorem dX3_fail_14 : decode cX3_fail 14 = .ok (.getfield 70, 3) := chk_nth ocX3_fail_0 (k := 8) rfl
theorem dX3_fail_17 : decode cX3_fail 17 = .ok (.putfield 22, 3) := chk_nth ocX3_fail_0 (k := 9) rfl
theorem dX3_fail_20 : decode cX3_fail 20 = .ok (.aload_n 0, 1) := chk_nth ocX3_fail_0 (k := 10) rfl
theorem dX3_fail_21 : decode cX3_fail 21 = .ok (.iconst 1, 1) := chk_nth ocX3_fail_0 (k := 11) rfl
theorem dX3_fail_22 : decode cX3_fail 22 = .ok (.putfield 64, 3) := chk_nth ocX3_fail_0 (k := 12) rfl
theorem dX3_fail_25 : decode cX3_fail 25 = .ok (.return_, 1) := chk_nth ocX3_fail_0 (k := 13) rfl
def tcX3_advance_0 : List (Instr × Nat) := [(.aload_n 0, 1), (.getfield 29, 3), (.ifCond .eq 4, 3), (.return_, 1), (.aload_n 0, 1), (.getfield 41, 3), (.aload_n 0, 1), (.getfield 38, 3), (.if_icmp .ge 44, 3), (.aload_n 0, 1), (.getfield 9, 3), (.aload_n 0, 1), (.getfield 41, 3), (.baload, 1), (.bipush 32, 2), (.if_icmp .eq 17, 3), (.aload_n 0, 1), (.getfield 9, 3), (.aload_n 0, 1), (.getfield 41, 3), (.baload, 1), (.bipush 10, 2), (.if_icmp .ne 16, 3), (.aload_n 0, 1)]
theorem ocX3_advance_0 : chk (cX3_advance.data.toList.drop 0) tcX3_advance_0 = true := by decide +kernel
theorem dX3_advance_0 : decode cX3_advance 0 = .ok (.aload_n 0, 1) := chk_nth ocX3_advance_0 (k := 0) rfl
theorem dX3_advance_1 : decode cX3_advance 1 = .ok (.getfield 29, 3) := chk_nth ocX3_advance_0 (k := 1) rfl
theorem dX3_advance_4 : decode cX3_advance 4 = .ok (.ifCond .eq 4, 3) := chk_nth ocX3_advance_0 (k := 2) rfl
theorem dX3_advance_7 : decode cX3_advance 7 = .ok (.return_, 1) := chk_nth ocX3_advance_0 (k := 3) rfl
theorem dX3_advance_8 : decode cX3_advance 8 = .ok (.aload_n 0, 1) := chk_nth ocX3_advance_0 (k := 4) rfl
theorem dX3_advance_9 : decode cX3_advance 9 = .ok (.getfield 41, 3) := chk_nth ocX3_advance_0 (k := 5) rfl
theorem dX3_advance_12 : decode cX3_advance 12 = .ok (.aload_n 0, 1) := chk_nth ocX3_advance_0 (k := 6) rfl
theorem dX3_advance_13 : decode cX3_advance 13 = .ok (.getfield 38, 3) := chk_nth ocX3_advance_0 (k := 7) rfl
theorem dX3_advance_16 : decode cX3_advance 16 = .ok (.if_icmp .ge 44, 3) := chk_nth ocX3_advance_0 (k := 8) rfl
theorem dX3_advance_19 : decode cX3_advance 19 = .ok (.aload_n 0, 1) := chk_nth ocX3_advance_0 (k := 9) rfl
theorem dX3_advance_20 : decode cX3_advance 20 = .ok (.getfield 9, 3) := chk_nth ocX3_advance_0 (k := 10) rfl
theorem dX3_advance_23 : decode cX3_advance 23 = .ok (.aload_n 0, 1) := chk_nth ocX3_advance_0 (k := 11) rfl
theorem dX3_advance_24 : decode cX3_advance 24 = .ok (.getfield 41, 3) := chk_nth ocX3_advance_0 (k := 12) rfl
theorem dX3_advance_27 : decode cX3_advance 27 = .ok (.baload, 1) := chk_nth ocX3_advance_0 (k := 13) rfl
theorem dX3_advance_28 : decode cX3_advance 28 = .ok (.bipush 32, 2) := chk_nth ocX3_advance_0 (k := 14) rfl
theorem dX3_advance_30 : decode cX3_advance 30 = .ok (.if_icmp .eq 17, 3) := chk_nth ocX3_advance_0 (k := 15) rfl
theorem dX3_advance_33 : decode cX3_advance 33 = .ok (.aload_n 0, 1) := chk_nth ocX3_advance_0 (k := 16) rfl
theorem dX3_advance_34 : decode cX3_advance 34 = .ok (.getfield 9, 3) := chk_nth ocX3_advance_0 (k := 17) rfl
theorem dX3_advance_37 : decode cX3_advance 37 = .ok (.aload_n 0, 1) := chk_nth ocX3_advance_0 (k := 18) rfl
theorem dX3_advance_38 : decode cX3_advance 38 = .ok (.getfield 41, 3) := chk_nth ocX3_advance_0 (k := 19) rfl
theorem dX3_advance_41 : decode cX3_advance 41 = .ok (.baload, 1) := chk_nth ocX3_advance_0 (k := 20) rfl
theorem dX3_advance_42 : decode cX3_advance 42 = .ok (.bipush 10, 2) := chk_nth ocX3_advance_0 (k := 21) rfl
theorem dX3_advance_44 : decode cX3_advance 44 = .ok (.if_icmp .ne 16, 3) := chk_nth ocX3_advance_0 (k := 22) rfl
theorem dX3_advance_47 : decode cX3_advance 47 = .ok (.aload_n 0, 1) := chk_nth ocX3_advance_0 (k := 23) rfl
def tcX3_advance_1 : List (Instr × Nat) := [(.dup, 1), (.getfield 41, 3), (.iconst 1, 1), (.iadd, 1), (.putfield 41, 3), (.goto (-49), 3), (.aload_n 0, 1), (.aload_n 0, 1), (.getfield 41, 3), (.putfield 70, 3), (.aload_n 0, 1), (.getfield 41, 3), (.aload_n 0, 1), (.getfield 38, 3), (.if_icmp .lt 9, 3), (.aload_n 0, 1), (.iconst 0, 1), (.putfield 64, 3), (.return_, 1), (.aload_n 0, 1), (.getfield 9, 3), (.aload_n 0, 1), (.getfield 41, 3), (.baload, 1)]
theorem ocX3_advance_1 : chk (cX3_advance.data.toList.drop 48) tcX3_advance_1 = true := by decide +kernel
theorem dX3_advance_48 : decode cX3_advance 48 = .ok (.dup, 1) := chk_nth ocX3_advance_1 (k := 0) rfl
theorem dX3_advance_49 : decode cX3_advance 49 = .ok (.getfield 41, 3) := chk_nth ocX3_advance_1 (k := 1) rfl
theorem dX3_advance_52 : decode cX3_advance 52 = .ok (.iconst 1, 1) := chk_nth ocX3_advance_1 (k := 2) rfl
theorem dX3_advance_53 : decode cX3_advance 53 = .ok (.iadd, 1) := chk_nth ocX3_advance_1 (k := 3) rfl
theorem dX3_advance_54 : decode cX3_advance 54 = .ok (.putfield 41, 3) := chk_nth ocX3_advance_1 (k := 4) rfl
theorem dX3_advance_57 : decode cX3_advance 57 = .ok (.goto (-49), 3) := chk_nth ocX3_advance_1 (k := 5) rfl
theorem dX3_advance_60 : decode cX3_advance 60 = .ok (.aload_n 0, 1) := chk_nth ocX3_advance_1 (k := 6) rfl
theorem dX3_advance_61 : decode cX3_advance 61 = .ok (.aload_n 0, 1) := chk_nth ocX3_advance_1 (k := 7) rfl
theorem dX3_advance_62 : decode cX3_advance 62 = .ok (.getfield 41, 3) := chk_nth ocX3_advance_1 (k := 8) rfl
theorem dX3_advance_65 : decode cX3_advance 65 = .ok (.putfield 70, 3) := chk_nth ocX3_advance_1 (k := 9) rfl
theorem dX3_advance_68 : decode cX3_advance 68 = .ok (.aload_n 0, 1) := chk_nth ocX3_advance_1 (k := 10) rfl
theorem dX3_advance_69 : decode cX3_advance 69 = .ok (.getfield 41, 3) := chk_nth ocX3_advance_1 (k := 11) rfl
theorem dX3_advance_72 : decode cX3_advance 72 = .ok (.aload_n 0, 1) := chk_nth ocX3_advance_1 (k := 12) rfl
theorem dX3_advance_73 : decode cX3_advance 73 = .ok (.getfield 38, 3) := chk_nth ocX3_advance_1 (k := 13) rfl
theorem dX3_advance_76 : decode cX3_advance 76 = .ok (.if_icmp .lt 9, 3) := chk_nth ocX3_advance_1 (k := 14) rfl
theorem dX3_advance_79 : decode cX3_advance 79 = .ok (.aload_n 0, 1) := chk_nth ocX3_advance_1 (k := 15) rfl
theorem dX3_advance_80 : decode cX3_advance 80 = .ok (.iconst 0, 1) := chk_nth ocX3_advance_1 (k := 16) rfl
theorem dX3_advance_81 : decode cX3_advance 81 = .ok (.putfield 64, 3) := chk_nth ocX3_advance_1 (k := 17) rfl
theorem dX3_advance_84 : decode cX3_advance 84 = .ok (.return_, 1) := chk_nth ocX3_advance_1 (k := 18) rfl
theorem dX3_advance_85 : decode cX3_advance 85 = .ok (.aload_n 0, 1) := chk_nth ocX3_advance_1 (k := 19) rfl
theorem dX3_advance_86 : decode cX3_advance 86 = .ok (.getfield 9, 3) := chk_nth ocX3_advance_1 (k := 20) rfl
theorem dX3_advance_89 : decode cX3_advance 89 = .ok (.aload_n 0, 1) := chk_nth ocX3_advance_1 (k := 21) rfl
theorem dX3_advance_90 : decode cX3_advance 90 = .ok (.getfield 41, 3) := chk_nth ocX3_advance_1 (k := 22) rfl
theorem dX3_advance_93 : decode cX3_advance 93 = .ok (.baload, 1) := chk_nth ocX3_advance_1 (k := 23) rfl
def tcX3_advance_2 : List (Instr × Nat) := [(.istore_n 1, 1), (.iload_n 1, 1), (.invokestatic 73, 3), (.ifCond .eq 99, 3), (.aload_n 0, 1), (.iconst 0, 1), (.putfield 77, 3), (.aload_n 0, 1), (.getfield 41, 3), (.aload_n 0, 1), (.getfield 38, 3), (.if_icmp .ge 55, 3), (.aload_n 0, 1), (.getfield 9, 3), (.aload_n 0, 1), (.getfield 41, 3), (.baload, 1), (.invokestatic 73, 3), (.ifCond .eq 40, 3), (.aload_n 0, 1), (.aload_n 0, 1), (.getfield 77, 3), (.bipush 10, 2), (.imul, 1)]
theorem ocX3_advance_2 : chk (cX3_advance.data.toList.drop 94) tcX3_advance_2 = true := by decide +kernel
theorem dX3_advance_94 : decode cX3_advance 94 = .ok (.istore_n 1, 1) := chk_nth ocX3_advance_2 (k := 0) rfl
theorem dX3_advance_95 : decode cX3_advance 95 = .ok (.iload_n 1, 1) := chk_nth ocX3_advance_2 (k := 1) rfl
theorem dX3_advance_96 : decode cX3_advance 96 = .ok (.invokestatic 73, 3) := chk_nth ocX3_advance_2 (k := 2) rfl
theorem dX3_advance_99 : decode cX3_advance 99 = .ok (.ifCond .eq 99, 3) := chk_nth ocX3_advance_2 (k := 3) rfl
theorem dX3_advance_102 : decode cX3_advance 102 = .ok (.aload_n 0, 1) := chk_nth ocX3_advance_2 (k := 4) rfl
theorem dX3_advance_103 : decode cX3_advance 103 = .ok (.iconst 0, 1) := chk_nth ocX3_advance_2 (k := 5) rfl
theorem dX3_advance_104 : decode cX3_advance 104 = .ok (.putfield 77, 3) := chk_nth ocX3_advance_2 (k := 6) rfl
theorem dX3_advance_107 : decode cX3_advance 107 = .ok (.aload_n 0, 1) := chk_nth ocX3_advance_2 (k := 7) rfl
theorem dX3_advance_108 : decode cX3_advance 108 = .ok (.getfield 41, 3) := chk_nth ocX3_advance_2 (k := 8) rfl
theorem dX3_advance_111 : decode cX3_advance 111 = .ok (.aload_n 0, 1) := chk_nth ocX3_advance_2 (k := 9) rfl
theorem dX3_advance_112 : decode cX3_advance 112 = .ok (.getfield 38, 3) := chk_nth ocX3_advance_2 (k := 10) rfl
theorem dX3_advance_115 : decode cX3_advance 115 = .ok (.if_icmp .ge 55, 3) := chk_nth ocX3_advance_2 (k := 11) rfl
theorem dX3_advance_118 : decode cX3_advance 118 = .ok (.aload_n 0, 1) := chk_nth ocX3_advance_2 (k := 12) rfl
theorem dX3_advance_119 : decode cX3_advance 119 = .ok (.getfield 9, 3) := chk_nth ocX3_advance_2 (k := 13) rfl
theorem dX3_advance_122 : decode cX3_advance 122 = .ok (.aload_n 0, 1) := chk_nth ocX3_advance_2 (k := 14) rfl
theorem dX3_advance_123 : decode cX3_advance 123 = .ok (.getfield 41, 3) := chk_nth ocX3_advance_2 (k := 15) rfl
theorem dX3_advance_126 : decode cX3_advance 126 = .ok (.baload, 1) := chk_nth ocX3_advance_2 (k := 16) rfl
theorem dX3_advance_127 : decode cX3_advance 127 = .ok (.invokestatic 73, 3) := chk_nth ocX3_advance_2 (k := 17) rfl
theorem dX3_advance_130 : decode cX3_advance 130 = .ok (.ifCond .eq 40, 3) := chk_nth ocX3_advance_2 (k := 18) rfl
theorem dX3_advance_133 : decode cX3_advance 133 = .ok (.aload_n 0, 1) := chk_nth ocX3_advance_2 (k := 19) rfl
theorem dX3_advance_134 : decode cX3_advance 134 = .ok (.aload_n 0, 1) := chk_nth ocX3_advance_2 (k := 20) rfl
theorem dX3_advance_135 : decode cX3_advance 135 = .ok (.getfield 77, 3) := chk_nth ocX3_advance_2 (k := 21) rfl
theorem dX3_advance_138 : decode cX3_advance 138 = .ok (.bipush 10, 2) := chk_nth ocX3_advance_2 (k := 22) rfl
theorem dX3_advance_140 : decode cX3_advance 140 = .ok (.imul, 1) := chk_nth ocX3_advance_2 (k := 23) rfl
def tcX3_advance_3 : List (Instr × Nat) := [(.aload_n 0, 1), (.getfield 9, 3), (.aload_n 0, 1), (.getfield 41, 3), (.baload, 1), (.bipush 48, 2), (.isub, 1), (.iadd, 1), (.putfield 77, 3), (.aload_n 0, 1), (.dup, 1), (.getfield 41, 3), (.iconst 1, 1), (.iadd, 1), (.putfield 41, 3), (.goto (-60), 3), (.aload_n 0, 1), (.sipush 256, 3), (.putfield 64, 3), (.aload_n 0, 1), (.getfield 41, 3), (.aload_n 0, 1), (.getfield 70, 3), (.isub, 1)]
theorem ocX3_advance_3 : chk (cX3_advance.data.toList.drop 141) tcX3_advance_3 = true := by decide +kernel
theorem dX3_advance_141 : decode cX3_advance 141 = .ok (.aload_n 0, 1) := chk_nth ocX3_advance_3 (k := 0) rfl
theorem dX3_advance_142 : decode cX3_advance 142 = .ok (.getfield 9, 3) := chk_nth ocX3_advance_3 (k := 1) rfl
theorem dX3_advance_145 : decode cX3_advance 145 = .ok (.aload_n 0, 1) := chk_nth ocX3_advance_3 (k := 2) rfl
theorem dX3_advance_146 : decode cX3_advance 146 = .ok (.getfield 41, 3) := chk_nth ocX3_advance_3 (k := 3) rfl
theorem dX3_advance_149 : decode cX3_advance 149 = .ok (.baload, 1) := chk_nth ocX3_advance_3 (k := 4) rfl
theorem dX3_advance_150 : decode cX3_advance 150 = .ok (.bipush 48, 2) := chk_nth ocX3_advance_3 (k := 5) rfl
theorem dX3_advance_152 : decode cX3_advance 152 = .ok (.isub, 1) := chk_nth ocX3_advance_3 (k := 6) rfl
theorem dX3_advance_153 : decode cX3_advance 153 = .ok (.iadd, 1) := chk_nth ocX3_advance_3 (k := 7) rfl
theorem dX3_advance_154 : decode cX3_advance 154 = .ok (.putfield 77, 3) := chk_nth ocX3_advance_3 (k := 8) rfl
theorem dX3_advance_157 : decode cX3_advance 157 = .ok (.aload_n 0, 1) := chk_nth ocX3_advance_3 (k := 9) rfl
theorem dX3_advance_158 : decode cX3_advance 158 = .ok (.dup, 1) := chk_nth ocX3_advance_3 (k := 10) rfl
theorem dX3_advance_159 : decode cX3_advance 159 = .ok (.getfield 41, 3) := chk_nth ocX3_advance_3 (k := 11) rfl
theorem dX3_advance_162 : decode cX3_advance 162 = .ok (.iconst 1, 1) := chk_nth ocX3_advance_3 (k := 12) rfl
theorem dX3_advance_163 : decode cX3_advance 163 = .ok (.iadd, 1) := chk_nth ocX3_advance_3 (k := 13) rfl
theorem dX3_advance_164 : decode cX3_advance 164 = .ok (.putfield 41, 3) := chk_nth ocX3_advance_3 (k := 14) rfl
theorem dX3_advance_167 : decode cX3_advance 167 = .ok (.goto (-60), 3) := chk_nth ocX3_advance_3 (k := 15) rfl
theorem dX3_advance_170 : decode cX3_advance 170 = .ok (.aload_n 0, 1) := chk_nth ocX3_advance_3 (k := 16) rfl
theorem dX3_advance_171 : decode cX3_advance 171 = .ok (.sipush 256, 3) := chk_nth ocX3_advance_3 (k := 17) rfl
theorem dX3_advance_174 : decode cX3_advance 174 = .ok (.putfield 64, 3) := chk_nth ocX3_advance_3 (k := 18) rfl
theorem dX3_advance_177 : decode cX3_advance 177 = .ok (.aload_n 0, 1) := chk_nth ocX3_advance_3 (k := 19) rfl
theorem dX3_advance_178 : decode cX3_advance 178 = .ok (.getfield 41, 3) := chk_nth ocX3_advance_3 (k := 20) rfl
theorem dX3_advance_181 : decode cX3_advance 181 = .ok (.aload_n 0, 1) := chk_nth ocX3_advance_3 (k := 21) rfl
theorem dX3_advance_182 : decode cX3_advance 182 = .ok (.getfield 70, 3) := chk_nth ocX3_advance_3 (k := 22) rfl
theorem dX3_advance_185 : decode cX3_advance 185 = .ok (.isub, 1) := chk_nth ocX3_advance_3 (k := 23) rfl
def tcX3_advance_4 : List (Instr × Nat) := [(.iconst 3, 1), (.if_icmp .le 113, 3), (.aload_n 0, 1), (.iconst 1, 1), (.invokevirtual 80, 3), (.goto 105, 3), (.iload_n 1, 1), (.invokestatic 83, 3), (.ifCond .eq 61, 3), (.aload_n 0, 1), (.getfield 41, 3), (.aload_n 0, 1), (.getfield 38, 3), (.if_icmp .ge 31, 3), (.aload_n 0, 1), (.getfield 9, 3), (.aload_n 0, 1), (.getfield 41, 3), (.baload, 1), (.invokestatic 83, 3), (.ifCond .eq 16, 3), (.aload_n 0, 1), (.dup, 1), (.getfield 41, 3)]
theorem ocX3_advance_4 : chk (cX3_advance.data.toList.drop 186) tcX3_advance_4 = true := by decide +kernel
theorem dX3_advance_186 : decode cX3_advance 186 = .ok (.iconst 3, 1) := chk_nth ocX3_advance_4 (k := 0) rfl
theorem dX3_advance_187 : decode cX3_advance 187 = .ok (.if_icmp .le 113, 3) := chk_nth ocX3_advance_4 (k := 1) rfl
theorem dX3_advance_190 : decode cX3_advance 190 = .ok (.aload_n 0, 1) := chk_nth ocX3_advance_4 (k := 2) rfl
theorem dX3_advance_191 : decode cX3_advance 191 = .ok (.iconst 1, 1) := chk_nth ocX3_advance_4 (k := 3) rfl
theorem dX3_advance_192 : decode cX3_advance 192 = .ok (.invokevirtual 80, 3) := chk_nth ocX3_advance_4 (k := 4) rfl
theorem dX3_advance_195 : decode cX3_advance 195 = .ok (.goto 105, 3) := chk_nth ocX3_advance_4 (k := 5) rfl
theorem dX3_advance_198 : decode cX3_advance 198 = .ok (.iload_n 1, 1) := chk_nth ocX3_advance_4 (k := 6) rfl
theorem dX3_advance_199 : decode cX3_advance 199 = .ok (.invokestatic 83, 3) := chk_nth ocX3_advance_4 (k := 7) rfl
theorem dX3_advance_202 : decode cX3_advance 202 = .ok (.ifCond .eq 61, 3) := chk_nth ocX3_advance_4 (k := 8) rfl
theorem dX3_advance_205 : decode cX3_advance 205 = .ok (.aload_n 0, 1) := chk_nth ocX3_advance_4 (k := 9) rfl
theorem dX3_advance_206 : decode cX3_advance 206 = .ok (.getfield 41, 3) := chk_nth ocX3_advance_4 (k := 10) rfl
theorem dX3_advance_209 : decode cX3_advance 209 = .ok (.aload_n 0, 1) := chk_nth ocX3_advance_4 (k := 11) rfl
theorem dX3_advance_210 : decode cX3_advance 210 = .ok (.getfield 38, 3) := chk_nth ocX3_advance_4 (k := 12) rfl
theorem dX3_advance_213 : decode cX3_advance 213 = .ok (.if_icmp .ge 31, 3) := chk_nth ocX3_advance_4 (k := 13) rfl
theorem dX3_advance_216 : decode cX3_advance 216 = .ok (.aload_n 0, 1) := chk_nth ocX3_advance_4 (k := 14) rfl
theorem dX3_advance_217 : decode cX3_advance 217 = .ok (.getfield 9, 3) := chk_nth ocX3_advance_4 (k := 15) rfl
theorem dX3_advance_220 : decode cX3_advance 220 = .ok (.aload_n 0, 1) := chk_nth ocX3_advance_4 (k := 16) rfl
theorem dX3_advance_221 : decode cX3_advance 221 = .ok (.getfield 41, 3) := chk_nth ocX3_advance_4 (k := 17) rfl
theorem dX3_advance_224 : decode cX3_advance 224 = .ok (.baload, 1) := chk_nth ocX3_advance_4 (k := 18) rfl
theorem dX3_advance_225 : decode cX3_advance 225 = .ok (.invokestatic 83, 3) := chk_nth ocX3_advance_4 (k := 19) rfl
theorem dX3_advance_228 : decode cX3_advance 228 = .ok (.ifCond .eq 16, 3) := chk_nth ocX3_advance_4 (k := 20) rfl
theorem dX3_advance_231 : decode cX3_advance 231 = .ok (.aload_n 0, 1) := chk_nth ocX3_advance_4 (k := 21) rfl
theorem dX3_advance_232 : decode cX3_advance 232 = .ok (.dup, 1) := chk_nth ocX3_advance_4 (k := 22) rfl
theorem dX3_advance_233 : decode cX3_advance 233 = .ok (.getfield 41, 3) := chk_nth ocX3_advance_4 (k := 23) rfl
def tcX3_advance_5 : List (Instr × Nat) := [(.iconst 1, 1), (.iadd, 1), (.putfield 41, 3), (.goto (-36), 3), (.aload_n 0, 1), (.aload_n 0, 1), (.aload_n 0, 1), (.getfield 70, 3), (.aload_n 0, 1), (.getfield 41, 3), (.invokevirtual 86, 3), (.putfield 64, 3), (.goto 40, 3), (.iload_n 1, 1), (.ifCond .le 31, 3), (.ldc 89, 2), (.iload_n 1, 1), (.i2c, 1), (.invokevirtual 91, 3), (.ifCond .lt 21, 3), (.aload_n 0, 1), (.iload_n 1, 1), (.putfield 64, 3), (.aload_n 0, 1)]
theorem ocX3_advance_5 : chk (cX3_advance.data.toList.drop 236) tcX3_advance_5 = true := by decide +kernel
theorem dX3_advance_236 : decode cX3_advance 236 = .ok (.iconst 1, 1) := chk_nth ocX3_advance_5 (k := 0) rfl
theorem dX3_advance_237 : decode cX3_advance 237 = .ok (.iadd, 1) := chk_nth ocX3_advance_5 (k := 1) rfl
theorem dX3_advance_238 : decode cX3_advance 238 = .ok (.putfield 41, 3) := chk_nth ocX3_advance_5 (k := 2) rfl
theorem dX3_advance_241 : decode cX3_advance 241 = .ok (.goto (-36), 3) := chk_nth ocX3_advance_5 (k := 3) rfl
theorem dX3_advance_244 : decode cX3_advance 244 = .ok (.aload_n 0, 1) := chk_nth ocX3_advance_5 (k := 4) rfl
theorem dX3_advance_245 : decode cX3_advance 245 = .ok (.aload_n 0, 1) := chk_nth ocX3_advance_5 (k := 5) rfl
theorem dX3_advance_246 : decode cX3_advance 246 = .ok (.aload_n 0, 1) := chk_nth ocX3_advance_5 (k := 6) rfl
theorem dX3_advance_247 : decode cX3_advance 247 = .ok (.getfield 70, 3) := chk_nth ocX3_advance_5 (k := 7) rfl
theorem dX3_advance_250 : decode cX3_advance 250 = .ok (.aload_n 0, 1) := chk_nth ocX3_advance_5 (k := 8) rfl
theorem dX3_advance_251 : decode cX3_advance 251 = .ok (.getfield 41, 3) := chk_nth ocX3_advance_5 (k := 9) rfl
theorem dX3_advance_254 : decode cX3_advance 254 = .ok (.invokevirtual 86, 3) := chk_nth ocX3_advance_5 (k := 10) rfl
theorem dX3_advance_257 : decode cX3_advance 257 = .ok (.putfield 64, 3) := chk_nth ocX3_advance_5 (k := 11) rfl
theorem dX3_advance_260 : decode cX3_advance 260 = .ok (.goto 40, 3) := chk_nth ocX3_advance_5 (k := 12) rfl
theorem dX3_advance_263 : decode cX3_advance 263 = .ok (.iload_n 1, 1) := chk_nth ocX3_advance_5 (k := 13) rfl
theorem dX3_advance_264 : decode cX3_advance 264 = .ok (.ifCond .le 31, 3) := chk_nth ocX3_advance_5 (k := 14) rfl
theorem dX3_advance_267 : decode cX3_advance 267 = .ok (.ldc 89, 2) := chk_nth ocX3_advance_5 (k := 15) rfl
theorem dX3_advance_269 : decode cX3_advance 269 = .ok (.iload_n 1, 1) := chk_nth ocX3_advance_5 (k := 16) rfl
theorem dX3_advance_270 : decode cX3_advance 270 = .ok (.i2c, 1) := chk_nth ocX3_advance_5 (k := 17) rfl
theorem dX3_advance_271 : decode cX3_advance 271 = .ok (.invokevirtual 91, 3) := chk_nth ocX3_advance_5 (k := 18) rfl
theorem dX3_advance_274 : decode cX3_advance 274 = .ok (.ifCond .lt 21, 3) := chk_nth ocX3_advance_5 (k := 19) rfl
theorem dX3_advance_277 : decode cX3_advance 277 = .ok (.aload_n 0, 1) := chk_nth ocX3_advance_5 (k := 20) rfl
theorem dX3_advance_278 : decode cX3_advance 278 = .ok (.iload_n 1, 1) := chk_nth ocX3_advance_5 (k := 21) rfl
theorem dX3_advance_279 : decode cX3_advance 279 = .ok (.putfield 64, 3) := chk_nth ocX3_advance_5 (k := 22) rfl
theorem dX3_advance_282 : decode cX3_advance 282 = .ok (.aload_n 0, 1) := chk_nth ocX3_advance_5 (k := 23) rfl
def tcX3_advance_6 : List (Instr × Nat) := [(.dup, 1), (.getfield 41, 3), (.iconst 1, 1), (.iadd, 1), (.putfield 41, 3), (.goto 8, 3), (.aload_n 0, 1), (.iconst 1, 1), (.invokevirtual 80, 3), (.return_, 1)]
theorem ocX3_advance_6 : chk (cX3_advance.data.toList.drop 283) tcX3_advance_6 = true := by decide +kernel
theorem dX3_advance_283 : decode cX3_advance 283 = .ok (.dup, 1) := chk_nth ocX3_advance_6 (k := 0) rfl
theorem dX3_advance_284 : decode cX3_advance 284 = .ok (.getfield 41, 3) := chk_nth ocX3_advance_6 (k := 1) rfl
theorem dX3_advance_287 : decode cX3_advance 287 = .ok (.iconst 1, 1) := chk_nth ocX3_advance_6 (k := 2) rfl
theorem dX3_advance_288 : decode cX3_advance 288 = .ok (.iadd, 1) := chk_nth ocX3_advance_6 (k := 3) rfl
theorem dX3_advance_289 : decode cX3_advance 289 = .ok (.putfield 41, 3) := chk_nth ocX3_advance_6 (k := 4) rfl
theorem dX3_advance_292 : decode cX3_advance 292 = .ok (.goto 8, 3) := chk_nth ocX3_advance_6 (k := 5) rfl
theorem dX3_advance_295 : decode cX3_advance 295 = .ok (.aload_n 0, 1) := chk_nth ocX3_advance_6 (k := 6) rfl
theorem dX3_advance_296 : decode cX3_advance 296 = .ok (.iconst 1, 1) := chk_nth ocX3_advance_6 (k := 7) rfl
theorem dX3_advance_297 : decode cX3_advance 297 = .ok (.invokevirtual 80, 3) := chk_nth ocX3_advance_6 (k := 8) rfl
theorem dX3_advance_300 : decode cX3_advance 300 = .ok (.return_, 1) := chk_nth ocX3_advance_6 (k := 9) rfl
def tcX3_isDigit_0 : List (Instr × Nat) := [(.iload_n 0, 1), (.bipush 48, 2), (.if_icmp .lt 13, 3), (.iload_n 0, 1), (.bipush 57, 2), (.if_icmp .gt 7, 3), (.iconst 1, 1), (.goto 4, 3), (.iconst 0, 1), (.ireturn, 1)]
theorem ocX3_isDigit_0 : chk (cX3_isDigit.data.toList.drop 0) tcX3_isDigit_0 = true := by decide +kernel
theorem dX3_isDigit_0 : decode cX3_isDigit 0 = .ok (.iload_n 0, 1) := chk_nth ocX3_isDigit_0 (k := 0) rfl
theorem dX3_isDigit_1 : decode cX3_isDigit 1 = .ok (.bipush 48, 2) := chk_nth ocX3_isDigit_0 (k := 1) rfl
theorem dX3_isDigit_3 : decode cX3_isDigit 3 = .ok (.if_icmp .lt 13, 3) := chk_nth ocX3_isDigit_0 (k := 2) rfl
theorem dX3_isDigit_6 : decode cX3_isDigit 6 = .ok (.iload_n 0, 1) := chk_nth ocX3_isDigit_0 (k := 3) rfl
theorem dX3_isDigit_7 : decode cX3_isDigit 7 = .ok (.bipush 57, 2) := chk_nth ocX3_isDigit_0 (k := 4) rfl
theorem dX3_isDigit_9 : decode cX3_isDigit 9 = .ok (.if_icmp .gt 7, 3) := chk_nth ocX3_isDigit_0 (k := 5) rfl
theorem dX3_isDigit_12 : decode cX3_isDigit 12 = .ok (.iconst 1, 1) := chk_nth ocX3_isDigit_0 (k := 6) rfl
theorem dX3_isDigit_13 : decode cX3_isDigit 13 = .ok (.goto 4, 3) := chk_nth ocX3_isDigit_0 (k := 7) rfl
theorem dX3_isDigit_16 : decode cX3_isDigit 16 = .ok (.iconst 0, 1) := chk_nth ocX3_isDigit_0 (k := 8) rfl
theorem dX3_isDigit_17 : decode cX3_isDigit 17 = .ok (.ireturn, 1) := chk_nth ocX3_isDigit_0 (k := 9) rfl
def tcX3_isLetter_0 : List (Instr × Nat) := [(.iload_n 0, 1), (.bipush 97, 2), (.if_icmp .lt 13, 3), (.iload_n 0, 1), (.bipush 122, 2), (.if_icmp .gt 7, 3), (.iconst 1, 1), (.goto 4, 3), (.iconst 0, 1), (.ireturn, 1)]
theorem ocX3_isLetter_0 : chk (cX3_isLetter.data.toList.drop 0) tcX3_isLetter_0 = true := by decide +kernel
theorem dX3_isLetter_0 : decode cX3_isLetter 0 = .ok (.iload_n 0, 1) := chk_nth ocX3_isLetter_0 (k := 0) rfl
theorem dX3_isLetter_1 : decode cX3_isLetter 1 = .ok (.bipush 97, 2) := chk_nth ocX3_isLetter_0 (k := 1) rfl
theorem dX3_isLetter_3 : decode cX3_isLetter 3 = .ok (.if_icmp .lt 13, 3) := chk_nth ocX3_isLetter_0 (k := 2) rfl
theorem dX3_isLetter_6 : decode cX3_isLetter 6 = .ok (.iload_n 0, 1) := chk_nth ocX3_isLetter_0 (k := 3) rfl
theorem dX3_isLetter_7 : decode cX3_isLetter 7 = .ok (.bipush 122, 2) := chk_nth ocX3_isLetter_0 (k := 4) rfl
theorem dX3_isLetter_9 : decode cX3_isLetter 9 = .ok (.if_icmp .gt 7, 3) := chk_nth ocX3_isLetter_0 (k := 5) rfl
theorem dX3_isLetter_12 : decode cX3_isLetter 12 = .ok (.iconst 1, 1) := chk_nth ocX3_isLetter_0 (k := 6) rfl
theorem dX3_isLetter_13 : decode cX3_isLetter 13 = .ok (.goto 4, 3) := chk_nth ocX3_isLetter_0 (k := 7) rfl
theorem dX3_isLetter_16 : decode cX3_isLetter 16 = .ok (.iconst 0, 1) := chk_nth ocX3_isLetter_0 (k := 8) rfl
theorem dX3_isLetter_17 : decode cX3_isLetter 17 = .ok (.ireturn, 1) := chk_nth ocX3_isLetter_0 (k := 9) rfl
def tcX3_wordFrom_0 : List (Instr × Nat) := [(.sipush 1000, 3), (.istore_n 3, 1), (.iconst 0, 1), (.istore 4, 2), (.iconst 0, 1), (.istore 5, 2), (.iload 5, 2), (.ldc 97, 2), (.invokevirtual 99, 3), (.if_icmp .ge 81, 3), (.ldc 97, 2), (.iload 5, 2), (.invokevirtual 103, 3), (.istore 6, 2), (.iload 6, 2), (.bipush 32, 2), (.if_icmp .ne 22, 3), (.iload 4, 2), (.iload_n 2, 1), (.iload_n 1, 1), (.isub, 1), (.if_icmp .ne 5, 3), (.iload_n 3, 1), (.ireturn, 1)]
theorem ocX3_wordFrom_0 : chk (cX3_wordFrom.data.toList.drop 0) tcX3_wordFrom_0 = true := by decide +kernel
theorem dX3_wordFrom_0 : decode cX3_wordFrom 0 = .ok (.sipush 1000, 3) := chk_nth ocX3_wordFrom_0 (k := 0) rfl
theorem dX3_wordFrom_3 : decode cX3_wordFrom 3 = .ok (.istore_n 3, 1) := chk_nth ocX3_wordFrom_0 (k := 1) rfl
theorem dX3_wordFrom_4 : decode cX3_wordFrom 4 = .ok (.iconst 0, 1) := chk_nth ocX3_wordFrom_0 (k := 2) rfl
theorem dX3_wordFrom_5 : decode cX3_wordFrom 5 = .ok (.istore 4, 2) := chk_nth ocX3_wordFrom_0 (k := 3) rfl
theorem dX3_wordFrom_7 : decode cX3_wordFrom 7 = .ok (.iconst 0, 1) := chk_nth ocX3_wordFrom_0 (k := 4) rfl
theorem dX3_wordFrom_8 : decode cX3_wordFrom 8 = .ok (.istore 5, 2) := chk_nth ocX3_wordFrom_0 (k := 5) rfl
theorem dX3_wordFrom_10 : decode cX3_wordFrom 10 = .ok (.iload 5, 2) := chk_nth ocX3_wordFrom_0 (k := 6) rfl
theorem dX3_wordFrom_12 : decode cX3_wordFrom 12 = .ok (.ldc 97, 2) := chk_nth ocX3_wordFrom_0 (k := 7) rfl
theorem dX3_wordFrom_14 : decode cX3_wordFrom 14 = .ok (.invokevirtual 99, 3) := chk_nth ocX3_wordFrom_0 (k := 8) rfl
theorem dX3_wordFrom_17 : decode cX3_wordFrom 17 = .ok (.if_icmp .ge 81, 3) := chk_nth ocX3_wordFrom_0 (k := 9) rfl
theorem dX3_wordFrom_20 : decode cX3_wordFrom 20 = .ok (.ldc 97, 2) := chk_nth ocX3_wordFrom_0 (k := 10) rfl
theorem dX3_wordFrom_22 : decode cX3_wordFrom 22 = .ok (.iload 5, 2) := chk_nth ocX3_wordFrom_0 (k := 11) rfl
theorem dX3_wordFrom_24 : decode cX3_wordFrom 24 = .ok (.invokevirtual 103, 3) := chk_nth ocX3_wordFrom_0 (k := 12) rfl
theorem dX3_wordFrom_27 : decode cX3_wordFrom 27 = .ok (.istore 6, 2) := chk_nth ocX3_wordFrom_0 (k := 13) rfl
theorem dX3_wordFrom_29 : decode cX3_wordFrom 29 = .ok (.iload 6, 2) := chk_nth ocX3_wordFrom_0 (k := 14) rfl
theorem dX3_wordFrom_31 : decode cX3_wordFrom 31 = .ok (.bipush 32, 2) := chk_nth ocX3_wordFrom_0 (k := 15) rfl
theorem dX3_wordFrom_33 : decode cX3_wordFrom 33 = .ok (.if_icmp .ne 22, 3) := chk_nth ocX3_wordFrom_0 (k := 16) rfl
theorem dX3_wordFrom_36 : decode cX3_wordFrom 36 = .ok (.iload 4, 2) := chk_nth ocX3_wordFrom_0 (k := 17) rfl
theorem dX3_wordFrom_38 : decode cX3_wordFrom 38 = .ok (.iload_n 2, 1) := chk_nth ocX3_wordFrom_0 (k := 18) rfl
theorem dX3_wordFrom_39 : decode cX3_wordFrom 39 = .ok (.iload_n 1, 1) := chk_nth ocX3_wordFrom_0 (k := 19) rfl
theorem dX3_wordFrom_40 : decode cX3_wordFrom 40 = .ok (.isub, 1) := chk_nth ocX3_wordFrom_0 (k := 20) rfl
theorem dX3_wordFrom_41 : decode cX3_wordFrom 41 = .ok (.if_icmp .ne 5, 3) := chk_nth ocX3_wordFrom_0 (k := 21) rfl
theorem dX3_wordFrom_44 : decode cX3_wordFrom 44 = .ok (.iload_n 3, 1) := chk_nth ocX3_wordFrom_0 (k := 22) rfl
theorem dX3_wordFrom_45 : decode cX3_wordFrom 45 = .ok (.ireturn, 1) := chk_nth ocX3_wordFrom_0 (k := 23) rfl
def tcX3_wordFrom_1 : List (Instr × Nat) := [(.iinc 3 1, 3), (.iconst 0, 1), (.istore 4, 2), (.goto 40, 3), (.iload 4, 2), (.iconst (-1), 1), (.if_icmp .eq 31, 3), (.iload_n 1, 1), (.iload 4, 2), (.iadd, 1), (.iload_n 2, 1), (.if_icmp .ge 23, 3), (.aload_n 0, 1), (.getfield 9, 3), (.iload_n 1, 1), (.iload 4, 2), (.iadd, 1), (.baload, 1), (.iload 6, 2), (.if_icmp .ne 9, 3), (.iinc 4 1, 3), (.goto 6, 3), (.iconst (-1), 1), (.istore 4, 2)]
theorem ocX3_wordFrom_1 : chk (cX3_wordFrom.data.toList.drop 46) tcX3_wordFrom_1 = true := by decide +kernel
theorem dX3_wordFrom_46 : decode cX3_wordFrom 46 = .ok (.iinc 3 1, 3) := chk_nth ocX3_wordFrom_1 (k := 0) rfl
theorem dX3_wordFrom_49 : decode cX3_wordFrom 49 = .ok (.iconst 0, 1) := chk_nth ocX3_wordFrom_1 (k := 1) rfl
theorem dX3_wordFrom_50 : decode cX3_wordFrom 50 = .ok (.istore 4, 2) := chk_nth ocX3_wordFrom_1 (k := 2) rfl
theorem dX3_wordFrom_52 : decode cX3_wordFrom 52 = .ok (.goto 40, 3) := chk_nth ocX3_wordFrom_1 (k := 3) rfl
theorem dX3_wordFrom_55 : decode cX3_wordFrom 55 = .ok (.iload 4, 2) := chk_nth ocX3_wordFrom_1 (k := 4) rfl
theorem dX3_wordFrom_57 : decode cX3_wordFrom 57 = .ok (.iconst (-1), 1) := chk_nth ocX3_wordFrom_1 (k := 5) rfl
theorem dX3_wordFrom_58 : decode cX3_wordFrom 58 = .ok (.if_icmp .eq 31, 3) := chk_nth ocX3_wordFrom_1 (k := 6) rfl
theorem dX3_wordFrom_61 : decode cX3_wordFrom 61 = .ok (.iload_n 1, 1) := chk_nth ocX3_wordFrom_1 (k := 7) rfl
theorem dX3_wordFrom_62 : decode cX3_wordFrom 62 = .ok (.iload 4, 2) := chk_nth ocX3_wordFrom_1 (k := 8) rfl
theorem dX3_wordFrom_64 : decode cX3_wordFrom 64 = .ok (.iadd, 1) := chk_nth ocX3_wordFrom_1 (k := 9) rfl
theorem dX3_wordFrom_65 : decode cX3_wordFrom 65 = .ok (.iload_n 2, 1) := chk_nth ocX3_wordFrom_1 (k := 10) rfl
theorem dX3_wordFrom_66 : decode cX3_wordFrom 66 = .ok (.if_icmp .ge 23, 3) := chk_nth ocX3_wordFrom_1 (k := 11) rfl
theorem dX3_wordFrom_69 : decode cX3_wordFrom 69 = .ok (.aload_n 0, 1) := chk_nth ocX3_wordFrom_1 (k := 12) rfl
theorem dX3_wordFrom_70 : decode cX3_wordFrom 70 = .ok (.getfield 9, 3) := chk_nth ocX3_wordFrom_1 (k := 13) rfl
theorem dX3_wordFrom_73 : decode cX3_wordFrom 73 = .ok (.iload_n 1, 1) := chk_nth ocX3_wordFrom_1 (k := 14) rfl
theorem dX3_wordFrom_74 : decode cX3_wordFrom 74 = .ok (.iload 4, 2) := chk_nth ocX3_wordFrom_1 (k := 15) rfl
theorem dX3_wordFrom_76 : decode cX3_wordFrom 76 = .ok (.iadd, 1) := chk_nth ocX3_wordFrom_1 (k := 16) rfl
theorem dX3_wordFrom_77 : decode cX3_wordFrom 77 = .ok (.baload, 1) := chk_nth ocX3_wordFrom_1 (k := 17) rfl
theorem dX3_wordFrom_78 : decode cX3_wordFrom 78 = .ok (.iload 6, 2) := chk_nth ocX3_wordFrom_1 (k := 18) rfl
theorem dX3_wordFrom_80 : decode cX3_wordFrom 80 = .ok (.if_icmp .ne 9, 3) := chk_nth ocX3_wordFrom_1 (k := 19) rfl
theorem dX3_wordFrom_83 : decode cX3_wordFrom 83 = .ok (.iinc 4 1, 3) := chk_nth ocX3_wordFrom_1 (k := 20) rfl
theorem dX3_wordFrom_86 : decode cX3_wordFrom 86 = .ok (.goto 6, 3) := chk_nth ocX3_wordFrom_1 (k := 21) rfl
theorem dX3_wordFrom_89 : decode cX3_wordFrom 89 = .ok (.iconst (-1), 1) := chk_nth ocX3_wordFrom_1 (k := 22) rfl
theorem dX3_wordFrom_90 : decode cX3_wordFrom 90 = .ok (.istore 4, 2) := chk_nth ocX3_wordFrom_1 (k := 23) rfl
def tcX3_wordFrom_2 : List (Instr × Nat) := [(.iinc 5 1, 3), (.goto (-85), 3), (.sipush 257, 3), (.ireturn, 1)]
theorem ocX3_wordFrom_2 : chk (cX3_wordFrom.data.toList.drop 92) tcX3_wordFrom_2 = true := by decide +kernel
theorem dX3_wordFrom_92 : decode cX3_wordFrom 92 = .ok (.iinc 5 1, 3) := chk_nth ocX3_wordFrom_2 (k := 0) rfl
theorem dX3_wordFrom_95 : decode cX3_wordFrom 95 = .ok (.goto (-85), 3) := chk_nth ocX3_wordFrom_2 (k := 1) rfl
theorem dX3_wordFrom_98 : decode cX3_wordFrom 98 = .ok (.sipush 257, 3) := chk_nth ocX3_wordFrom_2 (k := 2) rfl
theorem dX3_wordFrom_101 : decode cX3_wordFrom 101 = .ok (.ireturn, 1) := chk_nth ocX3_wordFrom_2 (k := 3) rfl
def tcX3_expect_0 : List (Instr × Nat) := [(.aload_n 0, 1), (.getfield 64, 3), (.iload_n 1, 1), (.if_icmp .ne 10, 3), (.aload_n 0, 1), (.invokevirtual 47, 3), (.goto 8, 3), (.aload_n 0, 1), (.iconst 2, 1), (.invokevirtual 80, 3), (.return_, 1)]
theorem ocX3_expect_0 : chk (cX3_expect.data.toList.drop 0) tcX3_expect_0 = true := by decide +kernel
theorem dX3_expect_0 : decode cX3_expect 0 = .ok (.aload_n 0, 1) := chk_nth ocX3_expect_0 (k := 0) rfl
theorem dX3_expect_1 : decode cX3_expect 1 = .ok (.getfield 64, 3) := chk_nth ocX3_expect_0 (k := 1) rfl
theorem dX3_expect_4 : decode cX3_expect 4 = .ok (.iload_n 1, 1) := chk_nth ocX3_expect_0 (k := 2) rfl
theorem dX3_expect_5 : decode cX3_expect 5 = .ok (.if_icmp .ne 10, 3) := chk_nth ocX3_expect_0 (k := 3) rfl
theorem dX3_expect_8 : decode cX3_expect 8 = .ok (.aload_n 0, 1) := chk_nth ocX3_expect_0 (k := 4) rfl
theorem dX3_expect_9 : decode cX3_expect 9 = .ok (.invokevirtual 47, 3) := chk_nth ocX3_expect_0 (k := 5) rfl
theorem dX3_expect_12 : decode cX3_expect 12 = .ok (.goto 8, 3) := chk_nth ocX3_expect_0 (k := 6) rfl
theorem dX3_expect_15 : decode cX3_expect 15 = .ok (.aload_n 0, 1) := chk_nth ocX3_expect_0 (k := 7) rfl
theorem dX3_expect_16 : decode cX3_expect 16 = .ok (.iconst 2, 1) := chk_nth ocX3_expect_0 (k := 8) rfl
theorem dX3_expect_17 : decode cX3_expect 17 = .ok (.invokevirtual 80, 3) := chk_nth ocX3_expect_0 (k := 9) rfl
theorem dX3_expect_20 : decode cX3_expect 20 = .ok (.return_, 1) := chk_nth ocX3_expect_0 (k := 10) rfl
def tcX3_number_0 : List (Instr × Nat) := [(.aload_n 0, 1), (.getfield 64, 3), (.sipush 256, 3), (.if_icmp .eq 10, 3), (.aload_n 0, 1), (.iconst 2, 1), (.invokevirtual 80, 3), (.iconst 0, 1), (.ireturn, 1), (.aload_n 0, 1), (.getfield 77, 3), (.iload_n 1, 1), (.if_icmp .lt 19, 3), (.aload_n 0, 1), (.getfield 77, 3), (.iload_n 2, 1), (.if_icmp .gt 11, 3), (.aload_n 0, 1), (.getfield 77, 3), (.iload_n 3, 1), (.if_icmp .ne 10, 3), (.aload_n 0, 1), (.iconst 3, 1), (.invokevirtual 80, 3)]
theorem ocX3_number_0 : chk (cX3_number.data.toList.drop 0) tcX3_number_0 = true := by decide +kernel
theorem dX3_number_0 : decode cX3_number 0 = .ok (.aload_n 0, 1) := chk_nth ocX3_number_0 (k := 0) rfl
theorem dX3_number_1 : decode cX3_number 1 = .ok (.getfield 64, 3) := chk_nth ocX3_number_0 (k := 1) rfl
theorem dX3_number_4 : decode cX3_number 4 = .ok (.sipush 256, 3) := chk_nth ocX3_number_0 (k := 2) rfl
theorem dX3_number_7 : decode cX3_number 7 = .ok (.if_icmp .eq 10, 3) := chk_nth ocX3_number_0 (k := 3) rfl
theorem dX3_number_10 : decode cX3_number 10 = .ok (.aload_n 0, 1) := chk_nth ocX3_number_0 (k := 4) rfl
theorem dX3_number_11 : decode cX3_number 11 = .ok (.iconst 2, 1) := chk_nth ocX3_number_0 (k := 5) rfl
theorem dX3_number_12 : decode cX3_number 12 = .ok (.invokevirtual 80, 3) := chk_nth ocX3_number_0 (k := 6) rfl
theorem dX3_number_15 : decode cX3_number 15 = .ok (.iconst 0, 1) := chk_nth ocX3_number_0 (k := 7) rfl
theorem dX3_number_16 : decode cX3_number 16 = .ok (.ireturn, 1) := chk_nth ocX3_number_0 (k := 8) rfl
theorem dX3_number_17 : decode cX3_number 17 = .ok (.aload_n 0, 1) := chk_nth ocX3_number_0 (k := 9) rfl
theorem dX3_number_18 : decode cX3_number 18 = .ok (.getfield 77, 3) := chk_nth ocX3_number_0 (k := 10) rfl
theorem dX3_number_21 : decode cX3_number 21 = .ok (.iload_n 1, 1) := chk_nth ocX3_number_0 (k := 11) rfl
theorem dX3_number_22 : decode cX3_number 22 = .ok (.if_icmp .lt 19, 3) := chk_nth ocX3_number_0 (k := 12) rfl
theorem dX3_number_25 : decode cX3_number 25 = .ok (.aload_n 0, 1) := chk_nth ocX3_number_0 (k := 13) rfl
theorem dX3_number_26 : decode cX3_number 26 = .ok (.getfield 77, 3) := chk_nth ocX3_number_0 (k := 14) rfl
theorem dX3_number_29 : decode cX3_number 29 = .ok (.iload_n 2, 1) := chk_nth ocX3_number_0 (k := 15) rfl
theorem dX3_number_30 : decode cX3_number 30 = .ok (.if_icmp .gt 11, 3) := chk_nth ocX3_number_0 (k := 16) rfl
theorem dX3_number_33 : decode cX3_number 33 = .ok (.aload_n 0, 1) := chk_nth ocX3_number_0 (k := 17) rfl
theorem dX3_number_34 : decode cX3_number 34 = .ok (.getfield 77, 3) := chk_nth ocX3_number_0 (k := 18) rfl
theorem dX3_number_37 : decode cX3_number 37 = .ok (.iload_n 3, 1) := chk_nth ocX3_number_0 (k := 19) rfl
theorem dX3_number_38 : decode cX3_number 38 = .ok (.if_icmp .ne 10, 3) := chk_nth ocX3_number_0 (k := 20) rfl
theorem dX3_number_41 : decode cX3_number 41 = .ok (.aload_n 0, 1) := chk_nth ocX3_number_0 (k := 21) rfl
theorem dX3_number_42 : decode cX3_number 42 = .ok (.iconst 3, 1) := chk_nth ocX3_number_0 (k := 22) rfl
theorem dX3_number_43 : decode cX3_number 43 = .ok (.invokevirtual 80, 3) := chk_nth ocX3_number_0 (k := 23) rfl
def tcX3_number_1 : List (Instr × Nat) := [(.iconst 0, 1), (.ireturn, 1), (.aload_n 0, 1), (.getfield 77, 3), (.istore 4, 2), (.aload_n 0, 1), (.invokevirtual 47, 3), (.iload 4, 2), (.ireturn, 1)]
theorem ocX3_number_1 : chk (cX3_number.data.toList.drop 46) tcX3_number_1 = true := by decide +kernel
theorem dX3_number_46 : decode cX3_number 46 = .ok (.iconst 0, 1) := chk_nth ocX3_number_1 (k := 0) rfl
theorem dX3_number_47 : decode cX3_number 47 = .ok (.ireturn, 1) := chk_nth ocX3_number_1 (k := 1) rfl
theorem dX3_number_48 : decode cX3_number 48 = .ok (.aload_n 0, 1) := chk_nth ocX3_number_1 (k := 2) rfl
theorem dX3_number_49 : decode cX3_number 49 = .ok (.getfield 77, 3) := chk_nth ocX3_number_1 (k := 3) rfl
theorem dX3_number_52 : decode cX3_number 52 = .ok (.istore 4, 2) := chk_nth ocX3_number_1 (k := 4) rfl
theorem dX3_number_54 : decode cX3_number 54 = .ok (.aload_n 0, 1) := chk_nth ocX3_number_1 (k := 5) rfl
theorem dX3_number_55 : decode cX3_number 55 = .ok (.invokevirtual 47, 3) := chk_nth ocX3_number_1 (k := 6) rfl
theorem dX3_number_58 : decode cX3_number 58 = .ok (.iload 4, 2) := chk_nth ocX3_number_1 (k := 7) rfl
theorem dX3_number_60 : decode cX3_number 60 = .ok (.ireturn, 1) := chk_nth ocX3_number_1 (k := 8) rfl
def tcX3_line_0 : List (Instr × Nat) := [(.aload_n 0, 1), (.getfield 64, 3)]
theorem ocX3_line_0 : chk (cX3_line.data.toList.drop 0) tcX3_line_0 = true := by decide +kernel
theorem dX3_line_0 : decode cX3_line 0 = .ok (.aload_n 0, 1) := chk_nth ocX3_line_0 (k := 0) rfl
theorem dX3_line_1 : decode cX3_line 1 = .ok (.getfield 64, 3) := chk_nth ocX3_line_0 (k := 1) rfl
theorem dX3_line_4 : decode cX3_line 4 = .ok (.tableswitch 93 1001 1006 #[40, 47, 93, 54, 79, 86], 40) := by decide +kernel
def tcX3_line_1 : List (Instr × Nat) := [(.aload_n 0, 1), (.invokevirtual 107, 3), (.goto 54, 3), (.aload_n 0, 1), (.invokevirtual 110, 3), (.goto 47, 3), (.aload_n 0, 1), (.invokevirtual 47, 3), (.aload_n 0, 1), (.getfield 18, 3), (.getfield 113, 3), (.aload_n 0, 1), (.iconst 0, 1), (.bipush 9, 2), (.iconst (-1), 1), (.invokevirtual 54, 3), (.putfield 117, 3), (.goto 22, 3), (.aload_n 0, 1), (.invokevirtual 122, 3), (.goto 15, 3), (.aload_n 0, 1), (.invokevirtual 125, 3), (.goto 8, 3)]
theorem ocX3_line_1 : chk (cX3_line.data.toList.drop 44) tcX3_line_1 = true := by decide +kernel
theorem dX3_line_44 : decode cX3_line 44 = .ok (.aload_n 0, 1) := chk_nth ocX3_line_1 (k := 0) rfl
theorem dX3_line_45 : decode cX3_line 45 = .ok (.invokevirtual 107, 3) := chk_nth ocX3_line_1 (k := 1) rfl
theorem dX3_line_48 : decode cX3_line 48 = .ok (.goto 54, 3) := chk_nth ocX3_line_1 (k := 2) rfl
theorem dX3_line_51 : decode cX3_line 51 = .ok (.aload_n 0, 1) := chk_nth ocX3_line_1 (k := 3) rfl
theorem dX3_line_52 : decode cX3_line 52 = .ok (.invokevirtual 110, 3) := chk_nth ocX3_line_1 (k := 4) rfl
theorem dX3_line_55 : decode cX3_line 55 = .ok (.goto 47, 3) := chk_nth ocX3_line_1 (k := 5) rfl
theorem dX3_line_58 : decode cX3_line 58 = .ok (.aload_n 0, 1) := chk_nth ocX3_line_1 (k := 6) rfl
theorem dX3_line_59 : decode cX3_line 59 = .ok (.invokevirtual 47, 3) := chk_nth ocX3_line_1 (k := 7) rfl
theorem dX3_line_62 : decode cX3_line 62 = .ok (.aload_n 0, 1) := chk_nth ocX3_line_1 (k := 8) rfl
theorem dX3_line_63 : decode cX3_line 63 = .ok (.getfield 18, 3) := chk_nth ocX3_line_1 (k := 9) rfl
theorem dX3_line_66 : decode cX3_line 66 = .ok (.getfield 113, 3) := chk_nth ocX3_line_1 (k := 10) rfl
theorem dX3_line_69 : decode cX3_line 69 = .ok (.aload_n 0, 1) := chk_nth ocX3_line_1 (k := 11) rfl
theorem dX3_line_70 : decode cX3_line 70 = .ok (.iconst 0, 1) := chk_nth ocX3_line_1 (k := 12) rfl
theorem dX3_line_71 : decode cX3_line 71 = .ok (.bipush 9, 2) := chk_nth ocX3_line_1 (k := 13) rfl
theorem dX3_line_73 : decode cX3_line 73 = .ok (.iconst (-1), 1) := chk_nth ocX3_line_1 (k := 14) rfl
theorem dX3_line_74 : decode cX3_line 74 = .ok (.invokevirtual 54, 3) := chk_nth ocX3_line_1 (k := 15) rfl
theorem dX3_line_77 : decode cX3_line 77 = .ok (.putfield 117, 3) := chk_nth ocX3_line_1 (k := 16) rfl
theorem dX3_line_80 : decode cX3_line 80 = .ok (.goto 22, 3) := chk_nth ocX3_line_1 (k := 17) rfl
theorem dX3_line_83 : decode cX3_line 83 = .ok (.aload_n 0, 1) := chk_nth ocX3_line_1 (k := 18) rfl
theorem dX3_line_84 : decode cX3_line 84 = .ok (.invokevirtual 122, 3) := chk_nth ocX3_line_1 (k := 19) rfl
theorem dX3_line_87 : decode cX3_line 87 = .ok (.goto 15, 3) := chk_nth ocX3_line_1 (k := 20) rfl
theorem dX3_line_90 : decode cX3_line 90 = .ok (.aload_n 0, 1) := chk_nth ocX3_line_1 (k := 21) rfl
theorem dX3_line_91 : decode cX3_line 91 = .ok (.invokevirtual 125, 3) := chk_nth ocX3_line_1 (k := 22) rfl
theorem dX3_line_94 : decode cX3_line 94 = .ok (.goto 8, 3) := chk_nth ocX3_line_1 (k := 23) rfl
def tcX3_line_2 : List (Instr × Nat) := [(.aload_n 0, 1), (.iconst 2, 1), (.invokevirtual 80, 3), (.aload_n 0, 1), (.bipush 59, 2), (.invokevirtual 50, 3), (.aload_n 0, 1), (.getfield 18, 3), (.dup, 1), (.getfield 61, 3), (.iconst 1, 1), (.iadd, 1), (.putfield 61, 3), (.return_, 1)]
theorem ocX3_line_2 : chk (cX3_line.data.toList.drop 97) tcX3_line_2 = true := by decide +kernel
theorem dX3_line_97 : decode cX3_line 97 = .ok (.aload_n 0, 1) := chk_nth ocX3_line_2 (k := 0) rfl
theorem dX3_line_98 : decode cX3_line 98 = .ok (.iconst 2, 1) := chk_nth ocX3_line_2 (k := 1) rfl
theorem dX3_line_99 : decode cX3_line 99 = .ok (.invokevirtual 80, 3) := chk_nth ocX3_line_2 (k := 2) rfl
theorem dX3_line_102 : decode cX3_line 102 = .ok (.aload_n 0, 1) := chk_nth ocX3_line_2 (k := 3) rfl
theorem dX3_line_103 : decode cX3_line 103 = .ok (.bipush 59, 2) := chk_nth ocX3_line_2 (k := 4) rfl
theorem dX3_line_105 : decode cX3_line 105 = .ok (.invokevirtual 50, 3) := chk_nth ocX3_line_2 (k := 5) rfl
theorem dX3_line_108 : decode cX3_line 108 = .ok (.aload_n 0, 1) := chk_nth ocX3_line_2 (k := 6) rfl
theorem dX3_line_109 : decode cX3_line 109 = .ok (.getfield 18, 3) := chk_nth ocX3_line_2 (k := 7) rfl
theorem dX3_line_112 : decode cX3_line 112 = .ok (.dup, 1) := chk_nth ocX3_line_2 (k := 8) rfl
theorem dX3_line_113 : decode cX3_line 113 = .ok (.getfield 61, 3) := chk_nth ocX3_line_2 (k := 9) rfl
theorem dX3_line_116 : decode cX3_line 116 = .ok (.iconst 1, 1) := chk_nth ocX3_line_2 (k := 10) rfl
theorem dX3_line_117 : decode cX3_line 117 = .ok (.iadd, 1) := chk_nth ocX3_line_2 (k := 11) rfl
theorem dX3_line_118 : decode cX3_line 118 = .ok (.putfield 61, 3) := chk_nth ocX3_line_2 (k := 12) rfl
theorem dX3_line_121 : decode cX3_line 121 = .ok (.return_, 1) := chk_nth ocX3_line_2 (k := 13) rfl
def tcX3_streetLine_0 : List (Instr × Nat) := [(.aload_n 0, 1), (.getfield 18, 3), (.getfield 128, 3), (.bipush 8, 2), (.if_icmp .lt 9, 3), (.aload_n 0, 1), (.iconst 4, 1), (.invokevirtual 80, 3), (.return_, 1), (.aload_n 0, 1), (.invokevirtual 47, 3), (.aload_n 0, 1), (.iconst 0, 1), (.aload_n 0, 1), (.getfield 18, 3), (.getfield 58, 3), (.iconst 1, 1), (.isub, 1), (.iconst (-1), 1), (.invokevirtual 54, 3), (.istore_n 1, 1), (.aload_n 0, 1), (.iconst 0, 1), (.aload_n 0, 1)]
theorem ocX3_streetLine_0 : chk (cX3_streetLine.data.toList.drop 0) tcX3_streetLine_0 = true := by decide +kernel
theorem dX3_streetLine_0 : decode cX3_streetLine 0 = .ok (.aload_n 0, 1) := chk_nth ocX3_streetLine_0 (k := 0) rfl
theorem dX3_streetLine_1 : decode cX3_streetLine 1 = .ok (.getfield 18, 3) := chk_nth ocX3_streetLine_0 (k := 1) rfl
theorem dX3_streetLine_4 : decode cX3_streetLine 4 = .ok (.getfield 128, 3) := chk_nth ocX3_streetLine_0 (k := 2) rfl
theorem dX3_streetLine_7 : decode cX3_streetLine 7 = .ok (.bipush 8, 2) := chk_nth ocX3_streetLine_0 (k := 3) rfl
theorem dX3_streetLine_9 : decode cX3_streetLine 9 = .ok (.if_icmp .lt 9, 3) := chk_nth ocX3_streetLine_0 (k := 4) rfl
theorem dX3_streetLine_12 : decode cX3_streetLine 12 = .ok (.aload_n 0, 1) := chk_nth ocX3_streetLine_0 (k := 5) rfl
theorem dX3_streetLine_13 : decode cX3_streetLine 13 = .ok (.iconst 4, 1) := chk_nth ocX3_streetLine_0 (k := 6) rfl
theorem dX3_streetLine_14 : decode cX3_streetLine 14 = .ok (.invokevirtual 80, 3) := chk_nth ocX3_streetLine_0 (k := 7) rfl
theorem dX3_streetLine_17 : decode cX3_streetLine 17 = .ok (.return_, 1) := chk_nth ocX3_streetLine_0 (k := 8) rfl
theorem dX3_streetLine_18 : decode cX3_streetLine 18 = .ok (.aload_n 0, 1) := chk_nth ocX3_streetLine_0 (k := 9) rfl
theorem dX3_streetLine_19 : decode cX3_streetLine 19 = .ok (.invokevirtual 47, 3) := chk_nth ocX3_streetLine_0 (k := 10) rfl
theorem dX3_streetLine_22 : decode cX3_streetLine 22 = .ok (.aload_n 0, 1) := chk_nth ocX3_streetLine_0 (k := 11) rfl
theorem dX3_streetLine_23 : decode cX3_streetLine 23 = .ok (.iconst 0, 1) := chk_nth ocX3_streetLine_0 (k := 12) rfl
theorem dX3_streetLine_24 : decode cX3_streetLine 24 = .ok (.aload_n 0, 1) := chk_nth ocX3_streetLine_0 (k := 13) rfl
theorem dX3_streetLine_25 : decode cX3_streetLine 25 = .ok (.getfield 18, 3) := chk_nth ocX3_streetLine_0 (k := 14) rfl
theorem dX3_streetLine_28 : decode cX3_streetLine 28 = .ok (.getfield 58, 3) := chk_nth ocX3_streetLine_0 (k := 15) rfl
theorem dX3_streetLine_31 : decode cX3_streetLine 31 = .ok (.iconst 1, 1) := chk_nth ocX3_streetLine_0 (k := 16) rfl
theorem dX3_streetLine_32 : decode cX3_streetLine 32 = .ok (.isub, 1) := chk_nth ocX3_streetLine_0 (k := 17) rfl
theorem dX3_streetLine_33 : decode cX3_streetLine 33 = .ok (.iconst (-1), 1) := chk_nth ocX3_streetLine_0 (k := 18) rfl
theorem dX3_streetLine_34 : decode cX3_streetLine 34 = .ok (.invokevirtual 54, 3) := chk_nth ocX3_streetLine_0 (k := 19) rfl
theorem dX3_streetLine_37 : decode cX3_streetLine 37 = .ok (.istore_n 1, 1) := chk_nth ocX3_streetLine_0 (k := 20) rfl
theorem dX3_streetLine_38 : decode cX3_streetLine 38 = .ok (.aload_n 0, 1) := chk_nth ocX3_streetLine_0 (k := 21) rfl
theorem dX3_streetLine_39 : decode cX3_streetLine 39 = .ok (.iconst 0, 1) := chk_nth ocX3_streetLine_0 (k := 22) rfl
theorem dX3_streetLine_40 : decode cX3_streetLine 40 = .ok (.aload_n 0, 1) := chk_nth ocX3_streetLine_0 (k := 23) rfl
def tcX3_streetLine_1 : List (Instr × Nat) := [(.getfield 18, 3), (.getfield 58, 3), (.iconst 1, 1), (.isub, 1), (.iload_n 1, 1), (.invokevirtual 54, 3), (.istore_n 2, 1), (.aload_n 0, 1), (.getfield 18, 3), (.iload_n 1, 1), (.iload_n 2, 1), (.invokevirtual 131, 3), (.iconst 0, 1), (.istore_n 3, 1), (.iload_n 3, 1), (.sipush 900, 3), (.if_icmp .ge 20, 3), (.aload_n 0, 1), (.invokevirtual 135, 3), (.ifCond .eq 13, 3), (.aload_n 0, 1), (.invokevirtual 139, 3), (.iinc 3 1, 3), (.goto (-21), 3)]
theorem ocX3_streetLine_1 : chk (cX3_streetLine.data.toList.drop 41) tcX3_streetLine_1 = true := by decide +kernel
theorem dX3_streetLine_41 : decode cX3_streetLine 41 = .ok (.getfield 18, 3) := chk_nth ocX3_streetLine_1 (k := 0) rfl
theorem dX3_streetLine_44 : decode cX3_streetLine 44 = .ok (.getfield 58, 3) := chk_nth ocX3_streetLine_1 (k := 1) rfl
theorem dX3_streetLine_47 : decode cX3_streetLine 47 = .ok (.iconst 1, 1) := chk_nth ocX3_streetLine_1 (k := 2) rfl
theorem dX3_streetLine_48 : decode cX3_streetLine 48 = .ok (.isub, 1) := chk_nth ocX3_streetLine_1 (k := 3) rfl
theorem dX3_streetLine_49 : decode cX3_streetLine 49 = .ok (.iload_n 1, 1) := chk_nth ocX3_streetLine_1 (k := 4) rfl
theorem dX3_streetLine_50 : decode cX3_streetLine 50 = .ok (.invokevirtual 54, 3) := chk_nth ocX3_streetLine_1 (k := 5) rfl
theorem dX3_streetLine_53 : decode cX3_streetLine 53 = .ok (.istore_n 2, 1) := chk_nth ocX3_streetLine_1 (k := 6) rfl
theorem dX3_streetLine_54 : decode cX3_streetLine 54 = .ok (.aload_n 0, 1) := chk_nth ocX3_streetLine_1 (k := 7) rfl
theorem dX3_streetLine_55 : decode cX3_streetLine 55 = .ok (.getfield 18, 3) := chk_nth ocX3_streetLine_1 (k := 8) rfl
theorem dX3_streetLine_58 : decode cX3_streetLine 58 = .ok (.iload_n 1, 1) := chk_nth ocX3_streetLine_1 (k := 9) rfl
theorem dX3_streetLine_59 : decode cX3_streetLine 59 = .ok (.iload_n 2, 1) := chk_nth ocX3_streetLine_1 (k := 10) rfl
theorem dX3_streetLine_60 : decode cX3_streetLine 60 = .ok (.invokevirtual 131, 3) := chk_nth ocX3_streetLine_1 (k := 11) rfl
theorem dX3_streetLine_63 : decode cX3_streetLine 63 = .ok (.iconst 0, 1) := chk_nth ocX3_streetLine_1 (k := 12) rfl
theorem dX3_streetLine_64 : decode cX3_streetLine 64 = .ok (.istore_n 3, 1) := chk_nth ocX3_streetLine_1 (k := 13) rfl
theorem dX3_streetLine_65 : decode cX3_streetLine 65 = .ok (.iload_n 3, 1) := chk_nth ocX3_streetLine_1 (k := 14) rfl
theorem dX3_streetLine_66 : decode cX3_streetLine 66 = .ok (.sipush 900, 3) := chk_nth ocX3_streetLine_1 (k := 15) rfl
theorem dX3_streetLine_69 : decode cX3_streetLine 69 = .ok (.if_icmp .ge 20, 3) := chk_nth ocX3_streetLine_1 (k := 16) rfl
theorem dX3_streetLine_72 : decode cX3_streetLine 72 = .ok (.aload_n 0, 1) := chk_nth ocX3_streetLine_1 (k := 17) rfl
theorem dX3_streetLine_73 : decode cX3_streetLine 73 = .ok (.invokevirtual 135, 3) := chk_nth ocX3_streetLine_1 (k := 18) rfl
theorem dX3_streetLine_76 : decode cX3_streetLine 76 = .ok (.ifCond .eq 13, 3) := chk_nth ocX3_streetLine_1 (k := 19) rfl
theorem dX3_streetLine_79 : decode cX3_streetLine 79 = .ok (.aload_n 0, 1) := chk_nth ocX3_streetLine_1 (k := 20) rfl
theorem dX3_streetLine_80 : decode cX3_streetLine 80 = .ok (.invokevirtual 139, 3) := chk_nth ocX3_streetLine_1 (k := 21) rfl
theorem dX3_streetLine_83 : decode cX3_streetLine 83 = .ok (.iinc 3 1, 3) := chk_nth ocX3_streetLine_1 (k := 22) rfl
theorem dX3_streetLine_86 : decode cX3_streetLine 86 = .ok (.goto (-21), 3) := chk_nth ocX3_streetLine_1 (k := 23) rfl
def tcX3_streetLine_2 : List (Instr × Nat) := [(.return_, 1)]
theorem ocX3_streetLine_2 : chk (cX3_streetLine.data.toList.drop 89) tcX3_streetLine_2 = true := by decide +kernel
theorem dX3_streetLine_89 : decode cX3_streetLine 89 = .ok (.return_, 1) := chk_nth ocX3_streetLine_2 (k := 0) rfl
def tcX3_isPart_0 : List (Instr × Nat) := [(.aload_n 0, 1), (.getfield 64, 3), (.sipush 1007, 3), (.if_icmp .eq 23, 3), (.aload_n 0, 1), (.getfield 64, 3), (.sipush 1008, 3), (.if_icmp .eq 13, 3), (.aload_n 0, 1), (.getfield 64, 3), (.sipush 1009, 3), (.if_icmp .ne 7, 3), (.iconst 1, 1), (.goto 4, 3), (.iconst 0, 1), (.ireturn, 1)]
theorem ocX3_isPart_0 : chk (cX3_isPart.data.toList.drop 0) tcX3_isPart_0 = true := by decide +kernel
theorem dX3_isPart_0 : decode cX3_isPart 0 = .ok (.aload_n 0, 1) := chk_nth ocX3_isPart_0 (k := 0) rfl
theorem dX3_isPart_1 : decode cX3_isPart 1 = .ok (.getfield 64, 3) := chk_nth ocX3_isPart_0 (k := 1) rfl
theorem dX3_isPart_4 : decode cX3_isPart 4 = .ok (.sipush 1007, 3) := chk_nth ocX3_isPart_0 (k := 2) rfl
theorem dX3_isPart_7 : decode cX3_isPart 7 = .ok (.if_icmp .eq 23, 3) := chk_nth ocX3_isPart_0 (k := 3) rfl
theorem dX3_isPart_10 : decode cX3_isPart 10 = .ok (.aload_n 0, 1) := chk_nth ocX3_isPart_0 (k := 4) rfl
theorem dX3_isPart_11 : decode cX3_isPart 11 = .ok (.getfield 64, 3) := chk_nth ocX3_isPart_0 (k := 5) rfl
theorem dX3_isPart_14 : decode cX3_isPart 14 = .ok (.sipush 1008, 3) := chk_nth ocX3_isPart_0 (k := 6) rfl
theorem dX3_isPart_17 : decode cX3_isPart 17 = .ok (.if_icmp .eq 13, 3) := chk_nth ocX3_isPart_0 (k := 7) rfl
theorem dX3_isPart_20 : decode cX3_isPart 20 = .ok (.aload_n 0, 1) := chk_nth ocX3_isPart_0 (k := 8) rfl
theorem dX3_isPart_21 : decode cX3_isPart 21 = .ok (.getfield 64, 3) := chk_nth ocX3_isPart_0 (k := 9) rfl
theorem dX3_isPart_24 : decode cX3_isPart 24 = .ok (.sipush 1009, 3) := chk_nth ocX3_isPart_0 (k := 10) rfl
theorem dX3_isPart_27 : decode cX3_isPart 27 = .ok (.if_icmp .ne 7, 3) := chk_nth ocX3_isPart_0 (k := 11) rfl
theorem dX3_isPart_30 : decode cX3_isPart 30 = .ok (.iconst 1, 1) := chk_nth ocX3_isPart_0 (k := 12) rfl
theorem dX3_isPart_31 : decode cX3_isPart 31 = .ok (.goto 4, 3) := chk_nth ocX3_isPart_0 (k := 13) rfl
theorem dX3_isPart_34 : decode cX3_isPart 34 = .ok (.iconst 0, 1) := chk_nth ocX3_isPart_0 (k := 14) rfl
theorem dX3_isPart_35 : decode cX3_isPart 35 = .ok (.ireturn, 1) := chk_nth ocX3_isPart_0 (k := 15) rfl
def tcX3_part_0 : List (Instr × Nat) := [(.aload_n 0, 1), (.getfield 64, 3), (.istore_n 1, 1), (.aload_n 0, 1), (.invokevirtual 47, 3), (.iload_n 1, 1), (.sipush 1009, 3), (.if_icmp .ne 32, 3), (.aload_n 0, 1), (.getfield 18, 3), (.getfield 113, 3), (.aload_n 0, 1), (.getfield 18, 3), (.getfield 128, 3), (.iconst 1, 1), (.isub, 1), (.aload_n 0, 1), (.iconst 0, 1), (.iconst 3, 1), (.iconst (-1), 1), (.invokevirtual 54, 3), (.invokevirtual 142, 3), (.goto 32, 3), (.aload_n 0, 1)]
theorem ocX3_part_0 : chk (cX3_part.data.toList.drop 0) tcX3_part_0 = true := by decide +kernel
theorem dX3_part_0 : decode cX3_part 0 = .ok (.aload_n 0, 1) := chk_nth ocX3_part_0 (k := 0) rfl
theorem dX3_part_1 : decode cX3_part 1 = .ok (.getfield 64, 3) := chk_nth ocX3_part_0 (k := 1) rfl
theorem dX3_part_4 : decode cX3_part 4 = .ok (.istore_n 1, 1) := chk_nth ocX3_part_0 (k := 2) rfl
theorem dX3_part_5 : decode cX3_part 5 = .ok (.aload_n 0, 1) := chk_nth ocX3_part_0 (k := 3) rfl
theorem dX3_part_6 : decode cX3_part 6 = .ok (.invokevirtual 47, 3) := chk_nth ocX3_part_0 (k := 4) rfl
theorem dX3_part_9 : decode cX3_part 9 = .ok (.iload_n 1, 1) := chk_nth ocX3_part_0 (k := 5) rfl
theorem dX3_part_10 : decode cX3_part 10 = .ok (.sipush 1009, 3) := chk_nth ocX3_part_0 (k := 6) rfl
theorem dX3_part_13 : decode cX3_part 13 = .ok (.if_icmp .ne 32, 3) := chk_nth ocX3_part_0 (k := 7) rfl
theorem dX3_part_16 : decode cX3_part 16 = .ok (.aload_n 0, 1) := chk_nth ocX3_part_0 (k := 8) rfl
theorem dX3_part_17 : decode cX3_part 17 = .ok (.getfield 18, 3) := chk_nth ocX3_part_0 (k := 9) rfl
theorem dX3_part_20 : decode cX3_part 20 = .ok (.getfield 113, 3) := chk_nth ocX3_part_0 (k := 10) rfl
theorem dX3_part_23 : decode cX3_part 23 = .ok (.aload_n 0, 1) := chk_nth ocX3_part_0 (k := 11) rfl
theorem dX3_part_24 : decode cX3_part 24 = .ok (.getfield 18, 3) := chk_nth ocX3_part_0 (k := 12) rfl
theorem dX3_part_27 : decode cX3_part 27 = .ok (.getfield 128, 3) := chk_nth ocX3_part_0 (k := 13) rfl
theorem dX3_part_30 : decode cX3_part 30 = .ok (.iconst 1, 1) := chk_nth ocX3_part_0 (k := 14) rfl
theorem dX3_part_31 : decode cX3_part 31 = .ok (.isub, 1) := chk_nth ocX3_part_0 (k := 15) rfl
theorem dX3_part_32 : decode cX3_part 32 = .ok (.aload_n 0, 1) := chk_nth ocX3_part_0 (k := 16) rfl
theorem dX3_part_33 : decode cX3_part 33 = .ok (.iconst 0, 1) := chk_nth ocX3_part_0 (k := 17) rfl
theorem dX3_part_34 : decode cX3_part 34 = .ok (.iconst 3, 1) := chk_nth ocX3_part_0 (k := 18) rfl
theorem dX3_part_35 : decode cX3_part 35 = .ok (.iconst (-1), 1) := chk_nth ocX3_part_0 (k := 19) rfl
theorem dX3_part_36 : decode cX3_part 36 = .ok (.invokevirtual 54, 3) := chk_nth ocX3_part_0 (k := 20) rfl
theorem dX3_part_39 : decode cX3_part 39 = .ok (.invokevirtual 142, 3) := chk_nth ocX3_part_0 (k := 21) rfl
theorem dX3_part_42 : decode cX3_part 42 = .ok (.goto 32, 3) := chk_nth ocX3_part_0 (k := 22) rfl
theorem dX3_part_45 : decode cX3_part 45 = .ok (.aload_n 0, 1) := chk_nth ocX3_part_0 (k := 23) rfl
def tcX3_part_1 : List (Instr × Nat) := [(.iconst 0, 1), (.bipush 9, 2), (.iconst (-1), 1), (.invokevirtual 54, 3), (.istore_n 2, 1), (.aload_n 0, 1), (.getfield 18, 3), (.iload_n 1, 1), (.sipush 1008, 3), (.if_icmp .ne 8, 3), (.iload_n 2, 1), (.ineg, 1), (.goto 4, 3), (.iload_n 2, 1), (.invokevirtual 145, 3), (.return_, 1)]
theorem ocX3_part_1 : chk (cX3_part.data.toList.drop 46) tcX3_part_1 = true := by decide +kernel
theorem dX3_part_46 : decode cX3_part 46 = .ok (.iconst 0, 1) := chk_nth ocX3_part_1 (k := 0) rfl
theorem dX3_part_47 : decode cX3_part 47 = .ok (.bipush 9, 2) := chk_nth ocX3_part_1 (k := 1) rfl
theorem dX3_part_49 : decode cX3_part 49 = .ok (.iconst (-1), 1) := chk_nth ocX3_part_1 (k := 2) rfl
theorem dX3_part_50 : decode cX3_part 50 = .ok (.invokevirtual 54, 3) := chk_nth ocX3_part_1 (k := 3) rfl
theorem dX3_part_53 : decode cX3_part 53 = .ok (.istore_n 2, 1) := chk_nth ocX3_part_1 (k := 4) rfl
theorem dX3_part_54 : decode cX3_part 54 = .ok (.aload_n 0, 1) := chk_nth ocX3_part_1 (k := 5) rfl
theorem dX3_part_55 : decode cX3_part 55 = .ok (.getfield 18, 3) := chk_nth ocX3_part_1 (k := 6) rfl
theorem dX3_part_58 : decode cX3_part 58 = .ok (.iload_n 1, 1) := chk_nth ocX3_part_1 (k := 7) rfl
theorem dX3_part_59 : decode cX3_part 59 = .ok (.sipush 1008, 3) := chk_nth ocX3_part_1 (k := 8) rfl
theorem dX3_part_62 : decode cX3_part 62 = .ok (.if_icmp .ne 8, 3) := chk_nth ocX3_part_1 (k := 9) rfl
theorem dX3_part_65 : decode cX3_part 65 = .ok (.iload_n 2, 1) := chk_nth ocX3_part_1 (k := 10) rfl
theorem dX3_part_66 : decode cX3_part 66 = .ok (.ineg, 1) := chk_nth ocX3_part_1 (k := 11) rfl
theorem dX3_part_67 : decode cX3_part 67 = .ok (.goto 4, 3) := chk_nth ocX3_part_1 (k := 12) rfl
theorem dX3_part_70 : decode cX3_part 70 = .ok (.iload_n 2, 1) := chk_nth ocX3_part_1 (k := 13) rfl
theorem dX3_part_71 : decode cX3_part 71 = .ok (.invokevirtual 145, 3) := chk_nth ocX3_part_1 (k := 14) rfl
theorem dX3_part_74 : decode cX3_part 74 = .ok (.return_, 1) := chk_nth ocX3_part_1 (k := 15) rfl
def tcX3_goerLine_0 : List (Instr × Nat) := [(.aload_n 0, 1), (.getfield 18, 3), (.getfield 148, 3), (.iconst 3, 1), (.if_icmp .lt 9, 3), (.aload_n 0, 1), (.iconst 4, 1), (.invokevirtual 80, 3), (.return_, 1), (.aload_n 0, 1), (.invokevirtual 47, 3), (.aload_n 0, 1), (.iconst 0, 1), (.aload_n 0, 1), (.getfield 18, 3), (.getfield 58, 3), (.iconst 1, 1), (.isub, 1), (.iconst (-1), 1), (.invokevirtual 54, 3), (.istore_n 1, 1), (.aload_n 0, 1), (.sipush 1003, 3), (.invokevirtual 50, 3)]
theorem ocX3_goerLine_0 : chk (cX3_goerLine.data.toList.drop 0) tcX3_goerLine_0 = true := by decide +kernel
theorem dX3_goerLine_0 : decode cX3_goerLine 0 = .ok (.aload_n 0, 1) := chk_nth ocX3_goerLine_0 (k := 0) rfl
theorem dX3_goerLine_1 : decode cX3_goerLine 1 = .ok (.getfield 18, 3) := chk_nth ocX3_goerLine_0 (k := 1) rfl
theorem dX3_goerLine_4 : decode cX3_goerLine 4 = .ok (.getfield 148, 3) := chk_nth ocX3_goerLine_0 (k := 2) rfl
theorem dX3_goerLine_7 : decode cX3_goerLine 7 = .ok (.iconst 3, 1) := chk_nth ocX3_goerLine_0 (k := 3) rfl
theorem dX3_goerLine_8 : decode cX3_goerLine 8 = .ok (.if_icmp .lt 9, 3) := chk_nth ocX3_goerLine_0 (k := 4) rfl
theorem dX3_goerLine_11 : decode cX3_goerLine 11 = .ok (.aload_n 0, 1) := chk_nth ocX3_goerLine_0 (k := 5) rfl
theorem dX3_goerLine_12 : decode cX3_goerLine 12 = .ok (.iconst 4, 1) := chk_nth ocX3_goerLine_0 (k := 6) rfl
theorem dX3_goerLine_13 : decode cX3_goerLine 13 = .ok (.invokevirtual 80, 3) := chk_nth ocX3_goerLine_0 (k := 7) rfl
theorem dX3_goerLine_16 : decode cX3_goerLine 16 = .ok (.return_, 1) := chk_nth ocX3_goerLine_0 (k := 8) rfl
theorem dX3_goerLine_17 : decode cX3_goerLine 17 = .ok (.aload_n 0, 1) := chk_nth ocX3_goerLine_0 (k := 9) rfl
theorem dX3_goerLine_18 : decode cX3_goerLine 18 = .ok (.invokevirtual 47, 3) := chk_nth ocX3_goerLine_0 (k := 10) rfl
theorem dX3_goerLine_21 : decode cX3_goerLine 21 = .ok (.aload_n 0, 1) := chk_nth ocX3_goerLine_0 (k := 11) rfl
theorem dX3_goerLine_22 : decode cX3_goerLine 22 = .ok (.iconst 0, 1) := chk_nth ocX3_goerLine_0 (k := 12) rfl
theorem dX3_goerLine_23 : decode cX3_goerLine 23 = .ok (.aload_n 0, 1) := chk_nth ocX3_goerLine_0 (k := 13) rfl
theorem dX3_goerLine_24 : decode cX3_goerLine 24 = .ok (.getfield 18, 3) := chk_nth ocX3_goerLine_0 (k := 14) rfl
theorem dX3_goerLine_27 : decode cX3_goerLine 27 = .ok (.getfield 58, 3) := chk_nth ocX3_goerLine_0 (k := 15) rfl
theorem dX3_goerLine_30 : decode cX3_goerLine 30 = .ok (.iconst 1, 1) := chk_nth ocX3_goerLine_0 (k := 16) rfl
theorem dX3_goerLine_31 : decode cX3_goerLine 31 = .ok (.isub, 1) := chk_nth ocX3_goerLine_0 (k := 17) rfl
theorem dX3_goerLine_32 : decode cX3_goerLine 32 = .ok (.iconst (-1), 1) := chk_nth ocX3_goerLine_0 (k := 18) rfl
theorem dX3_goerLine_33 : decode cX3_goerLine 33 = .ok (.invokevirtual 54, 3) := chk_nth ocX3_goerLine_0 (k := 19) rfl
theorem dX3_goerLine_36 : decode cX3_goerLine 36 = .ok (.istore_n 1, 1) := chk_nth ocX3_goerLine_0 (k := 20) rfl
theorem dX3_goerLine_37 : decode cX3_goerLine 37 = .ok (.aload_n 0, 1) := chk_nth ocX3_goerLine_0 (k := 21) rfl
theorem dX3_goerLine_38 : decode cX3_goerLine 38 = .ok (.sipush 1003, 3) := chk_nth ocX3_goerLine_0 (k := 22) rfl
theorem dX3_goerLine_41 : decode cX3_goerLine 41 = .ok (.invokevirtual 50, 3) := chk_nth ocX3_goerLine_0 (k := 23) rfl
def tcX3_goerLine_1 : List (Instr × Nat) := [(.aload_n 0, 1), (.iconst 0, 1), (.bipush 19, 2), (.iconst (-1), 1), (.invokevirtual 54, 3), (.istore_n 2, 1), (.aload_n 0, 1), (.getfield 18, 3), (.getfield 113, 3), (.aload_n 0, 1), (.getfield 18, 3), (.getfield 148, 3), (.iload_n 1, 1), (.iload_n 2, 1), (.invokevirtual 151, 3), (.aload_n 0, 1), (.getfield 18, 3), (.dup, 1), (.getfield 148, 3), (.iconst 1, 1), (.iadd, 1), (.putfield 148, 3), (.return_, 1)]
theorem ocX3_goerLine_1 : chk (cX3_goerLine.data.toList.drop 44) tcX3_goerLine_1 = true := by decide +kernel
theorem dX3_goerLine_44 : decode cX3_goerLine 44 = .ok (.aload_n 0, 1) := chk_nth ocX3_goerLine_1 (k := 0) rfl
theorem dX3_goerLine_45 : decode cX3_goerLine 45 = .ok (.iconst 0, 1) := chk_nth ocX3_goerLine_1 (k := 1) rfl
theorem dX3_goerLine_46 : decode cX3_goerLine 46 = .ok (.bipush 19, 2) := chk_nth ocX3_goerLine_1 (k := 2) rfl
theorem dX3_goerLine_48 : decode cX3_goerLine 48 = .ok (.iconst (-1), 1) := chk_nth ocX3_goerLine_1 (k := 3) rfl
theorem dX3_goerLine_49 : decode cX3_goerLine 49 = .ok (.invokevirtual 54, 3) := chk_nth ocX3_goerLine_1 (k := 4) rfl
theorem dX3_goerLine_52 : decode cX3_goerLine 52 = .ok (.istore_n 2, 1) := chk_nth ocX3_goerLine_1 (k := 5) rfl
theorem dX3_goerLine_53 : decode cX3_goerLine 53 = .ok (.aload_n 0, 1) := chk_nth ocX3_goerLine_1 (k := 6) rfl
theorem dX3_goerLine_54 : decode cX3_goerLine 54 = .ok (.getfield 18, 3) := chk_nth ocX3_goerLine_1 (k := 7) rfl
theorem dX3_goerLine_57 : decode cX3_goerLine 57 = .ok (.getfield 113, 3) := chk_nth ocX3_goerLine_1 (k := 8) rfl
theorem dX3_goerLine_60 : decode cX3_goerLine 60 = .ok (.aload_n 0, 1) := chk_nth ocX3_goerLine_1 (k := 9) rfl
theorem dX3_goerLine_61 : decode cX3_goerLine 61 = .ok (.getfield 18, 3) := chk_nth ocX3_goerLine_1 (k := 10) rfl
theorem dX3_goerLine_64 : decode cX3_goerLine 64 = .ok (.getfield 148, 3) := chk_nth ocX3_goerLine_1 (k := 11) rfl
theorem dX3_goerLine_67 : decode cX3_goerLine 67 = .ok (.iload_n 1, 1) := chk_nth ocX3_goerLine_1 (k := 12) rfl
theorem dX3_goerLine_68 : decode cX3_goerLine 68 = .ok (.iload_n 2, 1) := chk_nth ocX3_goerLine_1 (k := 13) rfl
theorem dX3_goerLine_69 : decode cX3_goerLine 69 = .ok (.invokevirtual 151, 3) := chk_nth ocX3_goerLine_1 (k := 14) rfl
theorem dX3_goerLine_72 : decode cX3_goerLine 72 = .ok (.aload_n 0, 1) := chk_nth ocX3_goerLine_1 (k := 15) rfl
theorem dX3_goerLine_73 : decode cX3_goerLine 73 = .ok (.getfield 18, 3) := chk_nth ocX3_goerLine_1 (k := 16) rfl
theorem dX3_goerLine_76 : decode cX3_goerLine 76 = .ok (.dup, 1) := chk_nth ocX3_goerLine_1 (k := 17) rfl
theorem dX3_goerLine_77 : decode cX3_goerLine 77 = .ok (.getfield 148, 3) := chk_nth ocX3_goerLine_1 (k := 18) rfl
theorem dX3_goerLine_80 : decode cX3_goerLine 80 = .ok (.iconst 1, 1) := chk_nth ocX3_goerLine_1 (k := 19) rfl
theorem dX3_goerLine_81 : decode cX3_goerLine 81 = .ok (.iadd, 1) := chk_nth ocX3_goerLine_1 (k := 20) rfl
theorem dX3_goerLine_82 : decode cX3_goerLine 82 = .ok (.putfield 148, 3) := chk_nth ocX3_goerLine_1 (k := 21) rfl
theorem dX3_goerLine_85 : decode cX3_goerLine 85 = .ok (.return_, 1) := chk_nth ocX3_goerLine_1 (k := 22) rfl
def tcX3_shiftsLine_0 : List (Instr × Nat) := [(.aload_n 0, 1), (.invokevirtual 47, 3), (.aload_n 0, 1), (.bipush 58, 2), (.invokevirtual 50, 3), (.aload_n 0, 1), (.iconst 0, 1), (.putfield 155, 3), (.aload_n 0, 1), (.getfield 18, 3), (.aload_n 0, 1), (.getfield 18, 3), (.getfield 159, 3), (.putfield 162, 3), (.aload_n 0, 1), (.iconst 0, 1), (.invokevirtual 165, 3), (.aload_n 0, 1), (.getfield 18, 3), (.aload_n 0, 1), (.getfield 18, 3), (.getfield 159, 3), (.putfield 168, 3), (.return_, 1)]
theorem ocX3_shiftsLine_0 : chk (cX3_shiftsLine.data.toList.drop 0) tcX3_shiftsLine_0 = true := by decide +kernel
theorem dX3_shiftsLine_0 : decode cX3_shiftsLine 0 = .ok (.aload_n 0, 1) := chk_nth ocX3_shiftsLine_0 (k := 0) rfl
theorem dX3_shiftsLine_1 : decode cX3_shiftsLine 1 = .ok (.invokevirtual 47, 3) := chk_nth ocX3_shiftsLine_0 (k := 1) rfl
theorem dX3_shiftsLine_4 : decode cX3_shiftsLine 4 = .ok (.aload_n 0, 1) := chk_nth ocX3_shiftsLine_0 (k := 2) rfl
theorem dX3_shiftsLine_5 : decode cX3_shiftsLine 5 = .ok (.bipush 58, 2) := chk_nth ocX3_shiftsLine_0 (k := 3) rfl
theorem dX3_shiftsLine_7 : decode cX3_shiftsLine 7 = .ok (.invokevirtual 50, 3) := chk_nth ocX3_shiftsLine_0 (k := 4) rfl
theorem dX3_shiftsLine_10 : decode cX3_shiftsLine 10 = .ok (.aload_n 0, 1) := chk_nth ocX3_shiftsLine_0 (k := 5) rfl
theorem dX3_shiftsLine_11 : decode cX3_shiftsLine 11 = .ok (.iconst 0, 1) := chk_nth ocX3_shiftsLine_0 (k := 6) rfl
theorem dX3_shiftsLine_12 : decode cX3_shiftsLine 12 = .ok (.putfield 155, 3) := chk_nth ocX3_shiftsLine_0 (k := 7) rfl
theorem dX3_shiftsLine_15 : decode cX3_shiftsLine 15 = .ok (.aload_n 0, 1) := chk_nth ocX3_shiftsLine_0 (k := 8) rfl
theorem dX3_shiftsLine_16 : decode cX3_shiftsLine 16 = .ok (.getfield 18, 3) := chk_nth ocX3_shiftsLine_0 (k := 9) rfl
theorem dX3_shiftsLine_19 : decode cX3_shiftsLine 19 = .ok (.aload_n 0, 1) := chk_nth ocX3_shiftsLine_0 (k := 10) rfl
theorem dX3_shiftsLine_20 : decode cX3_shiftsLine 20 = .ok (.getfield 18, 3) := chk_nth ocX3_shiftsLine_0 (k := 11) rfl
theorem dX3_shiftsLine_23 : decode cX3_shiftsLine 23 = .ok (.getfield 159, 3) := chk_nth ocX3_shiftsLine_0 (k := 12) rfl
theorem dX3_shiftsLine_26 : decode cX3_shiftsLine 26 = .ok (.putfield 162, 3) := chk_nth ocX3_shiftsLine_0 (k := 13) rfl
theorem dX3_shiftsLine_29 : decode cX3_shiftsLine 29 = .ok (.aload_n 0, 1) := chk_nth ocX3_shiftsLine_0 (k := 14) rfl
theorem dX3_shiftsLine_30 : decode cX3_shiftsLine 30 = .ok (.iconst 0, 1) := chk_nth ocX3_shiftsLine_0 (k := 15) rfl
theorem dX3_shiftsLine_31 : decode cX3_shiftsLine 31 = .ok (.invokevirtual 165, 3) := chk_nth ocX3_shiftsLine_0 (k := 16) rfl
theorem dX3_shiftsLine_34 : decode cX3_shiftsLine 34 = .ok (.aload_n 0, 1) := chk_nth ocX3_shiftsLine_0 (k := 17) rfl
theorem dX3_shiftsLine_35 : decode cX3_shiftsLine 35 = .ok (.getfield 18, 3) := chk_nth ocX3_shiftsLine_0 (k := 18) rfl
theorem dX3_shiftsLine_38 : decode cX3_shiftsLine 38 = .ok (.aload_n 0, 1) := chk_nth ocX3_shiftsLine_0 (k := 19) rfl
theorem dX3_shiftsLine_39 : decode cX3_shiftsLine 39 = .ok (.getfield 18, 3) := chk_nth ocX3_shiftsLine_0 (k := 20) rfl
theorem dX3_shiftsLine_42 : decode cX3_shiftsLine 42 = .ok (.getfield 159, 3) := chk_nth ocX3_shiftsLine_0 (k := 21) rfl
theorem dX3_shiftsLine_45 : decode cX3_shiftsLine 45 = .ok (.putfield 168, 3) := chk_nth ocX3_shiftsLine_0 (k := 22) rfl
theorem dX3_shiftsLine_48 : decode cX3_shiftsLine 48 = .ok (.return_, 1) := chk_nth ocX3_shiftsLine_0 (k := 23) rfl
def tcX3_mayLine_0 : List (Instr × Nat) := [(.aload_n 0, 1), (.invokevirtual 47, 3), (.aload_n 0, 1), (.bipush 58, 2), (.invokevirtual 50, 3), (.aload_n 0, 1), (.iconst 1, 1), (.putfield 155, 3), (.aload_n 0, 1), (.getfield 18, 3), (.aload_n 0, 1), (.getfield 18, 3), (.getfield 159, 3), (.putfield 171, 3), (.aload_n 0, 1), (.iconst 0, 1), (.invokevirtual 174, 3), (.aload_n 0, 1), (.getfield 18, 3), (.aload_n 0, 1), (.getfield 18, 3), (.getfield 159, 3), (.putfield 177, 3), (.return_, 1)]
theorem ocX3_mayLine_0 : chk (cX3_mayLine.data.toList.drop 0) tcX3_mayLine_0 = true := by decide +kernel
theorem dX3_mayLine_0 : decode cX3_mayLine 0 = .ok (.aload_n 0, 1) := chk_nth ocX3_mayLine_0 (k := 0) rfl
theorem dX3_mayLine_1 : decode cX3_mayLine 1 = .ok (.invokevirtual 47, 3) := chk_nth ocX3_mayLine_0 (k := 1) rfl
theorem dX3_mayLine_4 : decode cX3_mayLine 4 = .ok (.aload_n 0, 1) := chk_nth ocX3_mayLine_0 (k := 2) rfl
theorem dX3_mayLine_5 : decode cX3_mayLine 5 = .ok (.bipush 58, 2) := chk_nth ocX3_mayLine_0 (k := 3) rfl
theorem dX3_mayLine_7 : decode cX3_mayLine 7 = .ok (.invokevirtual 50, 3) := chk_nth ocX3_mayLine_0 (k := 4) rfl
theorem dX3_mayLine_10 : decode cX3_mayLine 10 = .ok (.aload_n 0, 1) := chk_nth ocX3_mayLine_0 (k := 5) rfl
theorem dX3_mayLine_11 : decode cX3_mayLine 11 = .ok (.iconst 1, 1) := chk_nth ocX3_mayLine_0 (k := 6) rfl
theorem dX3_mayLine_12 : decode cX3_mayLine 12 = .ok (.putfield 155, 3) := chk_nth ocX3_mayLine_0 (k := 7) rfl
theorem dX3_mayLine_15 : decode cX3_mayLine 15 = .ok (.aload_n 0, 1) := chk_nth ocX3_mayLine_0 (k := 8) rfl
theorem dX3_mayLine_16 : decode cX3_mayLine 16 = .ok (.getfield 18, 3) := chk_nth ocX3_mayLine_0 (k := 9) rfl
theorem dX3_mayLine_19 : decode cX3_mayLine 19 = .ok (.aload_n 0, 1) := chk_nth ocX3_mayLine_0 (k := 10) rfl
theorem dX3_mayLine_20 : decode cX3_mayLine 20 = .ok (.getfield 18, 3) := chk_nth ocX3_mayLine_0 (k := 11) rfl
theorem dX3_mayLine_23 : decode cX3_mayLine 23 = .ok (.getfield 159, 3) := chk_nth ocX3_mayLine_0 (k := 12) rfl
theorem dX3_mayLine_26 : decode cX3_mayLine 26 = .ok (.putfield 171, 3) := chk_nth ocX3_mayLine_0 (k := 13) rfl
theorem dX3_mayLine_29 : decode cX3_mayLine 29 = .ok (.aload_n 0, 1) := chk_nth ocX3_mayLine_0 (k := 14) rfl
theorem dX3_mayLine_30 : decode cX3_mayLine 30 = .ok (.iconst 0, 1) := chk_nth ocX3_mayLine_0 (k := 15) rfl
theorem dX3_mayLine_31 : decode cX3_mayLine 31 = .ok (.invokevirtual 174, 3) := chk_nth ocX3_mayLine_0 (k := 16) rfl
theorem dX3_mayLine_34 : decode cX3_mayLine 34 = .ok (.aload_n 0, 1) := chk_nth ocX3_mayLine_0 (k := 17) rfl
theorem dX3_mayLine_35 : decode cX3_mayLine 35 = .ok (.getfield 18, 3) := chk_nth ocX3_mayLine_0 (k := 18) rfl
theorem dX3_mayLine_38 : decode cX3_mayLine 38 = .ok (.aload_n 0, 1) := chk_nth ocX3_mayLine_0 (k := 19) rfl
theorem dX3_mayLine_39 : decode cX3_mayLine 39 = .ok (.getfield 18, 3) := chk_nth ocX3_mayLine_0 (k := 20) rfl
theorem dX3_mayLine_42 : decode cX3_mayLine 42 = .ok (.getfield 159, 3) := chk_nth ocX3_mayLine_0 (k := 21) rfl
theorem dX3_mayLine_45 : decode cX3_mayLine 45 = .ok (.putfield 177, 3) := chk_nth ocX3_mayLine_0 (k := 22) rfl
theorem dX3_mayLine_48 : decode cX3_mayLine 48 = .ok (.return_, 1) := chk_nth ocX3_mayLine_0 (k := 23) rfl
def tcX3_truth_0 : List (Instr × Nat) := [(.aload_n 0, 1), (.iload_n 1, 1), (.invokevirtual 180, 3), (.iconst 0, 1), (.istore_n 2, 1), (.iload_n 2, 1), (.sipush 900, 3), (.if_icmp .ge 38, 3), (.aload_n 0, 1), (.getfield 64, 3), (.sipush 1017, 3), (.if_icmp .ne 28, 3), (.aload_n 0, 1), (.invokevirtual 47, 3), (.aload_n 0, 1), (.iload_n 1, 1), (.invokevirtual 180, 3), (.aload_n 0, 1), (.getfield 18, 3), (.sipush 3017, 3), (.invokevirtual 183, 3), (.iinc 2 1, 3), (.goto (-39), 3), (.return_, 1)]
theorem ocX3_truth_0 : chk (cX3_truth.data.toList.drop 0) tcX3_truth_0 = true := by decide +kernel
theorem dX3_truth_0 : decode cX3_truth 0 = .ok (.aload_n 0, 1) := chk_nth ocX3_truth_0 (k := 0) rfl
theorem dX3_truth_1 : decode cX3_truth 1 = .ok (.iload_n 1, 1) := chk_nth ocX3_truth_0 (k := 1) rfl
theorem dX3_truth_2 : decode cX3_truth 2 = .ok (.invokevirtual 180, 3) := chk_nth ocX3_truth_0 (k := 2) rfl
theorem dX3_truth_5 : decode cX3_truth 5 = .ok (.iconst 0, 1) := chk_nth ocX3_truth_0 (k := 3) rfl
theorem dX3_truth_6 : decode cX3_truth 6 = .ok (.istore_n 2, 1) := chk_nth ocX3_truth_0 (k := 4) rfl
theorem dX3_truth_7 : decode cX3_truth 7 = .ok (.iload_n 2, 1) := chk_nth ocX3_truth_0 (k := 5) rfl
theorem dX3_truth_8 : decode cX3_truth 8 = .ok (.sipush 900, 3) := chk_nth ocX3_truth_0 (k := 6) rfl
theorem dX3_truth_11 : decode cX3_truth 11 = .ok (.if_icmp .ge 38, 3) := chk_nth ocX3_truth_0 (k := 7) rfl
theorem dX3_truth_14 : decode cX3_truth 14 = .ok (.aload_n 0, 1) := chk_nth ocX3_truth_0 (k := 8) rfl
theorem dX3_truth_15 : decode cX3_truth 15 = .ok (.getfield 64, 3) := chk_nth ocX3_truth_0 (k := 9) rfl
theorem dX3_truth_18 : decode cX3_truth 18 = .ok (.sipush 1017, 3) := chk_nth ocX3_truth_0 (k := 10) rfl
theorem dX3_truth_21 : decode cX3_truth 21 = .ok (.if_icmp .ne 28, 3) := chk_nth ocX3_truth_0 (k := 11) rfl
theorem dX3_truth_24 : decode cX3_truth 24 = .ok (.aload_n 0, 1) := chk_nth ocX3_truth_0 (k := 12) rfl
theorem dX3_truth_25 : decode cX3_truth 25 = .ok (.invokevirtual 47, 3) := chk_nth ocX3_truth_0 (k := 13) rfl
theorem dX3_truth_28 : decode cX3_truth 28 = .ok (.aload_n 0, 1) := chk_nth ocX3_truth_0 (k := 14) rfl
theorem dX3_truth_29 : decode cX3_truth 29 = .ok (.iload_n 1, 1) := chk_nth ocX3_truth_0 (k := 15) rfl
theorem dX3_truth_30 : decode cX3_truth 30 = .ok (.invokevirtual 180, 3) := chk_nth ocX3_truth_0 (k := 16) rfl
theorem dX3_truth_33 : decode cX3_truth 33 = .ok (.aload_n 0, 1) := chk_nth ocX3_truth_0 (k := 17) rfl
theorem dX3_truth_34 : decode cX3_truth 34 = .ok (.getfield 18, 3) := chk_nth ocX3_truth_0 (k := 18) rfl
theorem dX3_truth_37 : decode cX3_truth 37 = .ok (.sipush 3017, 3) := chk_nth ocX3_truth_0 (k := 19) rfl
theorem dX3_truth_40 : decode cX3_truth 40 = .ok (.invokevirtual 183, 3) := chk_nth ocX3_truth_0 (k := 20) rfl
theorem dX3_truth_43 : decode cX3_truth 43 = .ok (.iinc 2 1, 3) := chk_nth ocX3_truth_0 (k := 21) rfl
theorem dX3_truth_46 : decode cX3_truth 46 = .ok (.goto (-39), 3) := chk_nth ocX3_truth_0 (k := 22) rfl
theorem dX3_truth_49 : decode cX3_truth 49 = .ok (.return_, 1) := chk_nth ocX3_truth_0 (k := 23) rfl
def tcX3_both_0 : List (Instr × Nat) := [(.aload_n 0, 1), (.iload_n 1, 1), (.invokevirtual 186, 3), (.iconst 0, 1), (.istore_n 2, 1), (.iload_n 2, 1), (.sipush 900, 3), (.if_icmp .ge 38, 3), (.aload_n 0, 1), (.getfield 64, 3), (.sipush 1016, 3), (.if_icmp .ne 28, 3), (.aload_n 0, 1), (.invokevirtual 47, 3), (.aload_n 0, 1), (.iload_n 1, 1), (.invokevirtual 186, 3), (.aload_n 0, 1), (.getfield 18, 3), (.sipush 3016, 3), (.invokevirtual 183, 3), (.iinc 2 1, 3), (.goto (-39), 3), (.return_, 1)]
theorem ocX3_both_0 : chk (cX3_both.data.toList.drop 0) tcX3_both_0 = true := by decide +kernel
theorem dX3_both_0 : decode cX3_both 0 = .ok (.aload_n 0, 1) := chk_nth ocX3_both_0 (k := 0) rfl
theorem dX3_both_1 : decode cX3_both 1 = .ok (.iload_n 1, 1) := chk_nth ocX3_both_0 (k := 1) rfl
theorem dX3_both_2 : decode cX3_both 2 = .ok (.invokevirtual 186, 3) := chk_nth ocX3_both_0 (k := 2) rfl
theorem dX3_both_5 : decode cX3_both 5 = .ok (.iconst 0, 1) := chk_nth ocX3_both_0 (k := 3) rfl
theorem dX3_both_6 : decode cX3_both 6 = .ok (.istore_n 2, 1) := chk_nth ocX3_both_0 (k := 4) rfl
theorem dX3_both_7 : decode cX3_both 7 = .ok (.iload_n 2, 1) := chk_nth ocX3_both_0 (k := 5) rfl
theorem dX3_both_8 : decode cX3_both 8 = .ok (.sipush 900, 3) := chk_nth ocX3_both_0 (k := 6) rfl
theorem dX3_both_11 : decode cX3_both 11 = .ok (.if_icmp .ge 38, 3) := chk_nth ocX3_both_0 (k := 7) rfl
theorem dX3_both_14 : decode cX3_both 14 = .ok (.aload_n 0, 1) := chk_nth ocX3_both_0 (k := 8) rfl
theorem dX3_both_15 : decode cX3_both 15 = .ok (.getfield 64, 3) := chk_nth ocX3_both_0 (k := 9) rfl
theorem dX3_both_18 : decode cX3_both 18 = .ok (.sipush 1016, 3) := chk_nth ocX3_both_0 (k := 10) rfl
theorem dX3_both_21 : decode cX3_both 21 = .ok (.if_icmp .ne 28, 3) := chk_nth ocX3_both_0 (k := 11) rfl
theorem dX3_both_24 : decode cX3_both 24 = .ok (.aload_n 0, 1) := chk_nth ocX3_both_0 (k := 12) rfl
theorem dX3_both_25 : decode cX3_both 25 = .ok (.invokevirtual 47, 3) := chk_nth ocX3_both_0 (k := 13) rfl
theorem dX3_both_28 : decode cX3_both 28 = .ok (.aload_n 0, 1) := chk_nth ocX3_both_0 (k := 14) rfl
theorem dX3_both_29 : decode cX3_both 29 = .ok (.iload_n 1, 1) := chk_nth ocX3_both_0 (k := 15) rfl
theorem dX3_both_30 : decode cX3_both 30 = .ok (.invokevirtual 186, 3) := chk_nth ocX3_both_0 (k := 16) rfl
theorem dX3_both_33 : decode cX3_both 33 = .ok (.aload_n 0, 1) := chk_nth ocX3_both_0 (k := 17) rfl
theorem dX3_both_34 : decode cX3_both 34 = .ok (.getfield 18, 3) := chk_nth ocX3_both_0 (k := 18) rfl
theorem dX3_both_37 : decode cX3_both 37 = .ok (.sipush 3016, 3) := chk_nth ocX3_both_0 (k := 19) rfl
theorem dX3_both_40 : decode cX3_both 40 = .ok (.invokevirtual 183, 3) := chk_nth ocX3_both_0 (k := 20) rfl
theorem dX3_both_43 : decode cX3_both 43 = .ok (.iinc 2 1, 3) := chk_nth ocX3_both_0 (k := 21) rfl
theorem dX3_both_46 : decode cX3_both 46 = .ok (.goto (-39), 3) := chk_nth ocX3_both_0 (k := 22) rfl
theorem dX3_both_49 : decode cX3_both 49 = .ok (.return_, 1) := chk_nth ocX3_both_0 (k := 23) rfl
def tcX3_unit_0 : List (Instr × Nat) := [(.aload_n 0, 1), (.getfield 64, 3), (.sipush 1015, 3), (.if_icmp .ne 31, 3), (.aload_n 0, 1), (.iload_n 1, 1), (.invokevirtual 189, 3), (.ifCond .eq 61, 3), (.aload_n 0, 1), (.iload_n 1, 1), (.iconst 1, 1), (.iadd, 1), (.invokevirtual 186, 3), (.aload_n 0, 1), (.getfield 18, 3), (.sipush 3015, 3), (.invokevirtual 183, 3), (.goto 41, 3), (.aload_n 0, 1), (.getfield 64, 3), (.bipush 91, 2), (.if_icmp .ne 27, 3), (.aload_n 0, 1), (.iload_n 1, 1)]
theorem ocX3_unit_0 : chk (cX3_unit.data.toList.drop 0) tcX3_unit_0 = true := by decide +kernel
theorem dX3_unit_0 : decode cX3_unit 0 = .ok (.aload_n 0, 1) := chk_nth ocX3_unit_0 (k := 0) rfl
theorem dX3_unit_1 : decode cX3_unit 1 = .ok (.getfield 64, 3) := chk_nth ocX3_unit_0 (k := 1) rfl
theorem dX3_unit_4 : decode cX3_unit 4 = .ok (.sipush 1015, 3) := chk_nth ocX3_unit_0 (k := 2) rfl
theorem dX3_unit_7 : decode cX3_unit 7 = .ok (.if_icmp .ne 31, 3) := chk_nth ocX3_unit_0 (k := 3) rfl
theorem dX3_unit_10 : decode cX3_unit 10 = .ok (.aload_n 0, 1) := chk_nth ocX3_unit_0 (k := 4) rfl
theorem dX3_unit_11 : decode cX3_unit 11 = .ok (.iload_n 1, 1) := chk_nth ocX3_unit_0 (k := 5) rfl
theorem dX3_unit_12 : decode cX3_unit 12 = .ok (.invokevirtual 189, 3) := chk_nth ocX3_unit_0 (k := 6) rfl
theorem dX3_unit_15 : decode cX3_unit 15 = .ok (.ifCond .eq 61, 3) := chk_nth ocX3_unit_0 (k := 7) rfl
theorem dX3_unit_18 : decode cX3_unit 18 = .ok (.aload_n 0, 1) := chk_nth ocX3_unit_0 (k := 8) rfl
theorem dX3_unit_19 : decode cX3_unit 19 = .ok (.iload_n 1, 1) := chk_nth ocX3_unit_0 (k := 9) rfl
theorem dX3_unit_20 : decode cX3_unit 20 = .ok (.iconst 1, 1) := chk_nth ocX3_unit_0 (k := 10) rfl
theorem dX3_unit_21 : decode cX3_unit 21 = .ok (.iadd, 1) := chk_nth ocX3_unit_0 (k := 11) rfl
theorem dX3_unit_22 : decode cX3_unit 22 = .ok (.invokevirtual 186, 3) := chk_nth ocX3_unit_0 (k := 12) rfl
theorem dX3_unit_25 : decode cX3_unit 25 = .ok (.aload_n 0, 1) := chk_nth ocX3_unit_0 (k := 13) rfl
theorem dX3_unit_26 : decode cX3_unit 26 = .ok (.getfield 18, 3) := chk_nth ocX3_unit_0 (k := 14) rfl
theorem dX3_unit_29 : decode cX3_unit 29 = .ok (.sipush 3015, 3) := chk_nth ocX3_unit_0 (k := 15) rfl
theorem dX3_unit_32 : decode cX3_unit 32 = .ok (.invokevirtual 183, 3) := chk_nth ocX3_unit_0 (k := 16) rfl
theorem dX3_unit_35 : decode cX3_unit 35 = .ok (.goto 41, 3) := chk_nth ocX3_unit_0 (k := 17) rfl
theorem dX3_unit_38 : decode cX3_unit 38 = .ok (.aload_n 0, 1) := chk_nth ocX3_unit_0 (k := 18) rfl
theorem dX3_unit_39 : decode cX3_unit 39 = .ok (.getfield 64, 3) := chk_nth ocX3_unit_0 (k := 19) rfl
theorem dX3_unit_42 : decode cX3_unit 42 = .ok (.bipush 91, 2) := chk_nth ocX3_unit_0 (k := 20) rfl
theorem dX3_unit_44 : decode cX3_unit 44 = .ok (.if_icmp .ne 27, 3) := chk_nth ocX3_unit_0 (k := 21) rfl
theorem dX3_unit_47 : decode cX3_unit 47 = .ok (.aload_n 0, 1) := chk_nth ocX3_unit_0 (k := 22) rfl
theorem dX3_unit_48 : decode cX3_unit 48 = .ok (.iload_n 1, 1) := chk_nth ocX3_unit_0 (k := 23) rfl
def tcX3_unit_1 : List (Instr × Nat) := [(.invokevirtual 189, 3), (.ifCond .eq 24, 3), (.aload_n 0, 1), (.iload_n 1, 1), (.iconst 1, 1), (.iadd, 1), (.invokevirtual 174, 3), (.aload_n 0, 1), (.bipush 93, 2), (.invokevirtual 50, 3), (.goto 8, 3), (.aload_n 0, 1), (.iload_n 1, 1), (.invokevirtual 193, 3), (.return_, 1)]
theorem ocX3_unit_1 : chk (cX3_unit.data.toList.drop 49) tcX3_unit_1 = true := by decide +kernel
theorem dX3_unit_49 : decode cX3_unit 49 = .ok (.invokevirtual 189, 3) := chk_nth ocX3_unit_1 (k := 0) rfl
theorem dX3_unit_52 : decode cX3_unit 52 = .ok (.ifCond .eq 24, 3) := chk_nth ocX3_unit_1 (k := 1) rfl
theorem dX3_unit_55 : decode cX3_unit 55 = .ok (.aload_n 0, 1) := chk_nth ocX3_unit_1 (k := 2) rfl
theorem dX3_unit_56 : decode cX3_unit 56 = .ok (.iload_n 1, 1) := chk_nth ocX3_unit_1 (k := 3) rfl
theorem dX3_unit_57 : decode cX3_unit 57 = .ok (.iconst 1, 1) := chk_nth ocX3_unit_1 (k := 4) rfl
theorem dX3_unit_58 : decode cX3_unit 58 = .ok (.iadd, 1) := chk_nth ocX3_unit_1 (k := 5) rfl
theorem dX3_unit_59 : decode cX3_unit 59 = .ok (.invokevirtual 174, 3) := chk_nth ocX3_unit_1 (k := 6) rfl
theorem dX3_unit_62 : decode cX3_unit 62 = .ok (.aload_n 0, 1) := chk_nth ocX3_unit_1 (k := 7) rfl
theorem dX3_unit_63 : decode cX3_unit 63 = .ok (.bipush 93, 2) := chk_nth ocX3_unit_1 (k := 8) rfl
theorem dX3_unit_65 : decode cX3_unit 65 = .ok (.invokevirtual 50, 3) := chk_nth ocX3_unit_1 (k := 9) rfl
theorem dX3_unit_68 : decode cX3_unit 68 = .ok (.goto 8, 3) := chk_nth ocX3_unit_1 (k := 10) rfl
theorem dX3_unit_71 : decode cX3_unit 71 = .ok (.aload_n 0, 1) := chk_nth ocX3_unit_1 (k := 11) rfl
theorem dX3_unit_72 : decode cX3_unit 72 = .ok (.iload_n 1, 1) := chk_nth ocX3_unit_1 (k := 12) rfl
theorem dX3_unit_73 : decode cX3_unit 73 = .ok (.invokevirtual 193, 3) := chk_nth ocX3_unit_1 (k := 13) rfl
theorem dX3_unit_76 : decode cX3_unit 76 = .ok (.return_, 1) := chk_nth ocX3_unit_1 (k := 14) rfl
def tcX3_comparison_0 : List (Instr × Nat) := [(.aload_n 0, 1), (.iload_n 1, 1), (.invokevirtual 165, 3), (.aload_n 0, 1), (.getfield 64, 3), (.istore_n 2, 1), (.iload_n 2, 1), (.bipush 61, 2), (.if_icmp .eq 21, 3), (.iload_n 2, 1), (.bipush 60, 2), (.if_icmp .eq 15, 3), (.iload_n 2, 1), (.bipush 62, 2), (.if_icmp .eq 9, 3), (.aload_n 0, 1), (.iconst 2, 1), (.invokevirtual 80, 3), (.return_, 1), (.aload_n 0, 1), (.invokevirtual 47, 3), (.aload_n 0, 1), (.iload_n 1, 1), (.invokevirtual 165, 3)]
theorem ocX3_comparison_0 : chk (cX3_comparison.data.toList.drop 0) tcX3_comparison_0 = true := by decide +kernel
theorem dX3_comparison_0 : decode cX3_comparison 0 = .ok (.aload_n 0, 1) := chk_nth ocX3_comparison_0 (k := 0) rfl
theorem dX3_comparison_1 : decode cX3_comparison 1 = .ok (.iload_n 1, 1) := chk_nth ocX3_comparison_0 (k := 1) rfl
theorem dX3_comparison_2 : decode cX3_comparison 2 = .ok (.invokevirtual 165, 3) := chk_nth ocX3_comparison_0 (k := 2) rfl
theorem dX3_comparison_5 : decode cX3_comparison 5 = .ok (.aload_n 0, 1) := chk_nth ocX3_comparison_0 (k := 3) rfl
theorem dX3_comparison_6 : decode cX3_comparison 6 = .ok (.getfield 64, 3) := chk_nth ocX3_comparison_0 (k := 4) rfl
theorem dX3_comparison_9 : decode cX3_comparison 9 = .ok (.istore_n 2, 1) := chk_nth ocX3_comparison_0 (k := 5) rfl
theorem dX3_comparison_10 : decode cX3_comparison 10 = .ok (.iload_n 2, 1) := chk_nth ocX3_comparison_0 (k := 6) rfl
theorem dX3_comparison_11 : decode cX3_comparison 11 = .ok (.bipush 61, 2) := chk_nth ocX3_comparison_0 (k := 7) rfl
theorem dX3_comparison_13 : decode cX3_comparison 13 = .ok (.if_icmp .eq 21, 3) := chk_nth ocX3_comparison_0 (k := 8) rfl
theorem dX3_comparison_16 : decode cX3_comparison 16 = .ok (.iload_n 2, 1) := chk_nth ocX3_comparison_0 (k := 9) rfl
theorem dX3_comparison_17 : decode cX3_comparison 17 = .ok (.bipush 60, 2) := chk_nth ocX3_comparison_0 (k := 10) rfl
theorem dX3_comparison_19 : decode cX3_comparison 19 = .ok (.if_icmp .eq 15, 3) := chk_nth ocX3_comparison_0 (k := 11) rfl
theorem dX3_comparison_22 : decode cX3_comparison 22 = .ok (.iload_n 2, 1) := chk_nth ocX3_comparison_0 (k := 12) rfl
theorem dX3_comparison_23 : decode cX3_comparison 23 = .ok (.bipush 62, 2) := chk_nth ocX3_comparison_0 (k := 13) rfl
theorem dX3_comparison_25 : decode cX3_comparison 25 = .ok (.if_icmp .eq 9, 3) := chk_nth ocX3_comparison_0 (k := 14) rfl
theorem dX3_comparison_28 : decode cX3_comparison 28 = .ok (.aload_n 0, 1) := chk_nth ocX3_comparison_0 (k := 15) rfl
theorem dX3_comparison_29 : decode cX3_comparison 29 = .ok (.iconst 2, 1) := chk_nth ocX3_comparison_0 (k := 16) rfl
theorem dX3_comparison_30 : decode cX3_comparison 30 = .ok (.invokevirtual 80, 3) := chk_nth ocX3_comparison_0 (k := 17) rfl
theorem dX3_comparison_33 : decode cX3_comparison 33 = .ok (.return_, 1) := chk_nth ocX3_comparison_0 (k := 18) rfl
theorem dX3_comparison_34 : decode cX3_comparison 34 = .ok (.aload_n 0, 1) := chk_nth ocX3_comparison_0 (k := 19) rfl
theorem dX3_comparison_35 : decode cX3_comparison 35 = .ok (.invokevirtual 47, 3) := chk_nth ocX3_comparison_0 (k := 20) rfl
theorem dX3_comparison_38 : decode cX3_comparison 38 = .ok (.aload_n 0, 1) := chk_nth ocX3_comparison_0 (k := 21) rfl
theorem dX3_comparison_39 : decode cX3_comparison 39 = .ok (.iload_n 1, 1) := chk_nth ocX3_comparison_0 (k := 22) rfl
theorem dX3_comparison_40 : decode cX3_comparison 40 = .ok (.invokevirtual 165, 3) := chk_nth ocX3_comparison_0 (k := 23) rfl
def tcX3_comparison_1 : List (Instr × Nat) := [(.aload_n 0, 1), (.getfield 18, 3), (.sipush 2000, 3), (.iload_n 2, 1), (.iadd, 1), (.invokevirtual 183, 3), (.return_, 1)]
theorem ocX3_comparison_1 : chk (cX3_comparison.data.toList.drop 43) tcX3_comparison_1 = true := by decide +kernel
theorem dX3_comparison_43 : decode cX3_comparison 43 = .ok (.aload_n 0, 1) := chk_nth ocX3_comparison_1 (k := 0) rfl
theorem dX3_comparison_44 : decode cX3_comparison 44 = .ok (.getfield 18, 3) := chk_nth ocX3_comparison_1 (k := 1) rfl
theorem dX3_comparison_47 : decode cX3_comparison 47 = .ok (.sipush 2000, 3) := chk_nth ocX3_comparison_1 (k := 2) rfl
theorem dX3_comparison_50 : decode cX3_comparison 50 = .ok (.iload_n 2, 1) := chk_nth ocX3_comparison_1 (k := 3) rfl
theorem dX3_comparison_51 : decode cX3_comparison 51 = .ok (.iadd, 1) := chk_nth ocX3_comparison_1 (k := 4) rfl
theorem dX3_comparison_52 : decode cX3_comparison 52 = .ok (.invokevirtual 183, 3) := chk_nth ocX3_comparison_1 (k := 5) rfl
theorem dX3_comparison_55 : decode cX3_comparison 55 = .ok (.return_, 1) := chk_nth ocX3_comparison_1 (k := 6) rfl
def tcX3_sum_0 : List (Instr × Nat) := [(.aload_n 0, 1), (.iload_n 1, 1), (.invokevirtual 196, 3), (.iconst 0, 1), (.istore_n 2, 1), (.iload_n 2, 1), (.sipush 900, 3), (.if_icmp .ge 53, 3), (.aload_n 0, 1), (.getfield 64, 3), (.bipush 43, 2), (.if_icmp .eq 12, 3), (.aload_n 0, 1), (.getfield 64, 3), (.bipush 45, 2), (.if_icmp .ne 35, 3), (.aload_n 0, 1), (.getfield 64, 3), (.istore_n 3, 1), (.aload_n 0, 1), (.invokevirtual 47, 3), (.aload_n 0, 1), (.iload_n 1, 1), (.invokevirtual 196, 3)]
theorem ocX3_sum_0 : chk (cX3_sum.data.toList.drop 0) tcX3_sum_0 = true := by decide +kernel
theorem dX3_sum_0 : decode cX3_sum 0 = .ok (.aload_n 0, 1) := chk_nth ocX3_sum_0 (k := 0) rfl
theorem dX3_sum_1 : decode cX3_sum 1 = .ok (.iload_n 1, 1) := chk_nth ocX3_sum_0 (k := 1) rfl
theorem dX3_sum_2 : decode cX3_sum 2 = .ok (.invokevirtual 196, 3) := chk_nth ocX3_sum_0 (k := 2) rfl
theorem dX3_sum_5 : decode cX3_sum 5 = .ok (.iconst 0, 1) := chk_nth ocX3_sum_0 (k := 3) rfl
theorem dX3_sum_6 : decode cX3_sum 6 = .ok (.istore_n 2, 1) := chk_nth ocX3_sum_0 (k := 4) rfl
theorem dX3_sum_7 : decode cX3_sum 7 = .ok (.iload_n 2, 1) := chk_nth ocX3_sum_0 (k := 5) rfl
theorem dX3_sum_8 : decode cX3_sum 8 = .ok (.sipush 900, 3) := chk_nth ocX3_sum_0 (k := 6) rfl
theorem dX3_sum_11 : decode cX3_sum 11 = .ok (.if_icmp .ge 53, 3) := chk_nth ocX3_sum_0 (k := 7) rfl
theorem dX3_sum_14 : decode cX3_sum 14 = .ok (.aload_n 0, 1) := chk_nth ocX3_sum_0 (k := 8) rfl
theorem dX3_sum_15 : decode cX3_sum 15 = .ok (.getfield 64, 3) := chk_nth ocX3_sum_0 (k := 9) rfl
theorem dX3_sum_18 : decode cX3_sum 18 = .ok (.bipush 43, 2) := chk_nth ocX3_sum_0 (k := 10) rfl
theorem dX3_sum_20 : decode cX3_sum 20 = .ok (.if_icmp .eq 12, 3) := chk_nth ocX3_sum_0 (k := 11) rfl
theorem dX3_sum_23 : decode cX3_sum 23 = .ok (.aload_n 0, 1) := chk_nth ocX3_sum_0 (k := 12) rfl
theorem dX3_sum_24 : decode cX3_sum 24 = .ok (.getfield 64, 3) := chk_nth ocX3_sum_0 (k := 13) rfl
theorem dX3_sum_27 : decode cX3_sum 27 = .ok (.bipush 45, 2) := chk_nth ocX3_sum_0 (k := 14) rfl
theorem dX3_sum_29 : decode cX3_sum 29 = .ok (.if_icmp .ne 35, 3) := chk_nth ocX3_sum_0 (k := 15) rfl
theorem dX3_sum_32 : decode cX3_sum 32 = .ok (.aload_n 0, 1) := chk_nth ocX3_sum_0 (k := 16) rfl
theorem dX3_sum_33 : decode cX3_sum 33 = .ok (.getfield 64, 3) := chk_nth ocX3_sum_0 (k := 17) rfl
theorem dX3_sum_36 : decode cX3_sum 36 = .ok (.istore_n 3, 1) := chk_nth ocX3_sum_0 (k := 18) rfl
theorem dX3_sum_37 : decode cX3_sum 37 = .ok (.aload_n 0, 1) := chk_nth ocX3_sum_0 (k := 19) rfl
theorem dX3_sum_38 : decode cX3_sum 38 = .ok (.invokevirtual 47, 3) := chk_nth ocX3_sum_0 (k := 20) rfl
theorem dX3_sum_41 : decode cX3_sum 41 = .ok (.aload_n 0, 1) := chk_nth ocX3_sum_0 (k := 21) rfl
theorem dX3_sum_42 : decode cX3_sum 42 = .ok (.iload_n 1, 1) := chk_nth ocX3_sum_0 (k := 22) rfl
theorem dX3_sum_43 : decode cX3_sum 43 = .ok (.invokevirtual 196, 3) := chk_nth ocX3_sum_0 (k := 23) rfl
def tcX3_sum_1 : List (Instr × Nat) := [(.aload_n 0, 1), (.getfield 18, 3), (.sipush 2000, 3), (.iload_n 3, 1), (.iadd, 1), (.invokevirtual 183, 3), (.iinc 2 1, 3), (.goto (-54), 3), (.return_, 1)]
theorem ocX3_sum_1 : chk (cX3_sum.data.toList.drop 46) tcX3_sum_1 = true := by decide +kernel
theorem dX3_sum_46 : decode cX3_sum 46 = .ok (.aload_n 0, 1) := chk_nth ocX3_sum_1 (k := 0) rfl
theorem dX3_sum_47 : decode cX3_sum 47 = .ok (.getfield 18, 3) := chk_nth ocX3_sum_1 (k := 1) rfl
theorem dX3_sum_50 : decode cX3_sum 50 = .ok (.sipush 2000, 3) := chk_nth ocX3_sum_1 (k := 2) rfl
theorem dX3_sum_53 : decode cX3_sum 53 = .ok (.iload_n 3, 1) := chk_nth ocX3_sum_1 (k := 3) rfl
theorem dX3_sum_54 : decode cX3_sum 54 = .ok (.iadd, 1) := chk_nth ocX3_sum_1 (k := 4) rfl
theorem dX3_sum_55 : decode cX3_sum 55 = .ok (.invokevirtual 183, 3) := chk_nth ocX3_sum_1 (k := 5) rfl
theorem dX3_sum_58 : decode cX3_sum 58 = .ok (.iinc 2 1, 3) := chk_nth ocX3_sum_1 (k := 6) rfl
theorem dX3_sum_61 : decode cX3_sum 61 = .ok (.goto (-54), 3) := chk_nth ocX3_sum_1 (k := 7) rfl
theorem dX3_sum_64 : decode cX3_sum 64 = .ok (.return_, 1) := chk_nth ocX3_sum_1 (k := 8) rfl
def tcX3_term_0 : List (Instr × Nat) := [(.aload_n 0, 1), (.iload_n 1, 1), (.invokevirtual 199, 3), (.iconst 0, 1), (.istore_n 2, 1), (.iload_n 2, 1), (.sipush 900, 3), (.if_icmp .ge 37, 3), (.aload_n 0, 1), (.getfield 64, 3), (.bipush 42, 2), (.if_icmp .ne 28, 3), (.aload_n 0, 1), (.invokevirtual 47, 3), (.aload_n 0, 1), (.iload_n 1, 1), (.invokevirtual 199, 3), (.aload_n 0, 1), (.getfield 18, 3), (.sipush 2042, 3), (.invokevirtual 183, 3), (.iinc 2 1, 3), (.goto (-38), 3), (.return_, 1)]
theorem ocX3_term_0 : chk (cX3_term.data.toList.drop 0) tcX3_term_0 = true := by decide +kernel
theorem dX3_term_0 : decode cX3_term 0 = .ok (.aload_n 0, 1) := chk_nth ocX3_term_0 (k := 0) rfl
theorem dX3_term_1 : decode cX3_term 1 = .ok (.iload_n 1, 1) := chk_nth ocX3_term_0 (k := 1) rfl
theorem dX3_term_2 : decode cX3_term 2 = .ok (.invokevirtual 199, 3) := chk_nth ocX3_term_0 (k := 2) rfl
theorem dX3_term_5 : decode cX3_term 5 = .ok (.iconst 0, 1) := chk_nth ocX3_term_0 (k := 3) rfl
theorem dX3_term_6 : decode cX3_term 6 = .ok (.istore_n 2, 1) := chk_nth ocX3_term_0 (k := 4) rfl
theorem dX3_term_7 : decode cX3_term 7 = .ok (.iload_n 2, 1) := chk_nth ocX3_term_0 (k := 5) rfl
theorem dX3_term_8 : decode cX3_term 8 = .ok (.sipush 900, 3) := chk_nth ocX3_term_0 (k := 6) rfl
theorem dX3_term_11 : decode cX3_term 11 = .ok (.if_icmp .ge 37, 3) := chk_nth ocX3_term_0 (k := 7) rfl
theorem dX3_term_14 : decode cX3_term 14 = .ok (.aload_n 0, 1) := chk_nth ocX3_term_0 (k := 8) rfl
theorem dX3_term_15 : decode cX3_term 15 = .ok (.getfield 64, 3) := chk_nth ocX3_term_0 (k := 9) rfl
theorem dX3_term_18 : decode cX3_term 18 = .ok (.bipush 42, 2) := chk_nth ocX3_term_0 (k := 10) rfl
theorem dX3_term_20 : decode cX3_term 20 = .ok (.if_icmp .ne 28, 3) := chk_nth ocX3_term_0 (k := 11) rfl
theorem dX3_term_23 : decode cX3_term 23 = .ok (.aload_n 0, 1) := chk_nth ocX3_term_0 (k := 12) rfl
theorem dX3_term_24 : decode cX3_term 24 = .ok (.invokevirtual 47, 3) := chk_nth ocX3_term_0 (k := 13) rfl
theorem dX3_term_27 : decode cX3_term 27 = .ok (.aload_n 0, 1) := chk_nth ocX3_term_0 (k := 14) rfl
theorem dX3_term_28 : decode cX3_term 28 = .ok (.iload_n 1, 1) := chk_nth ocX3_term_0 (k := 15) rfl
theorem dX3_term_29 : decode cX3_term 29 = .ok (.invokevirtual 199, 3) := chk_nth ocX3_term_0 (k := 16) rfl
theorem dX3_term_32 : decode cX3_term 32 = .ok (.aload_n 0, 1) := chk_nth ocX3_term_0 (k := 17) rfl
theorem dX3_term_33 : decode cX3_term 33 = .ok (.getfield 18, 3) := chk_nth ocX3_term_0 (k := 18) rfl
theorem dX3_term_36 : decode cX3_term 36 = .ok (.sipush 2042, 3) := chk_nth ocX3_term_0 (k := 19) rfl
theorem dX3_term_39 : decode cX3_term 39 = .ok (.invokevirtual 183, 3) := chk_nth ocX3_term_0 (k := 20) rfl
theorem dX3_term_42 : decode cX3_term 42 = .ok (.iinc 2 1, 3) := chk_nth ocX3_term_0 (k := 21) rfl
theorem dX3_term_45 : decode cX3_term 45 = .ok (.goto (-38), 3) := chk_nth ocX3_term_0 (k := 22) rfl
theorem dX3_term_48 : decode cX3_term 48 = .ok (.return_, 1) := chk_nth ocX3_term_0 (k := 23) rfl
def tcX3_atom_0 : List (Instr × Nat) := [(.aload_n 0, 1), (.getfield 64, 3), (.sipush 256, 3), (.if_icmp .ne 21, 3), (.aload_n 0, 1), (.getfield 18, 3), (.aload_n 0, 1), (.getfield 77, 3), (.invokevirtual 183, 3), (.aload_n 0, 1), (.invokevirtual 47, 3), (.goto 94, 3), (.aload_n 0, 1), (.getfield 64, 3), (.bipush 40, 2), (.if_icmp .ne 27, 3), (.aload_n 0, 1), (.iload_n 1, 1), (.invokevirtual 189, 3), (.ifCond .eq 77, 3), (.aload_n 0, 1), (.iload_n 1, 1), (.iconst 1, 1), (.iadd, 1)]
theorem ocX3_atom_0 : chk (cX3_atom.data.toList.drop 0) tcX3_atom_0 = true := by decide +kernel
theorem dX3_atom_0 : decode cX3_atom 0 = .ok (.aload_n 0, 1) := chk_nth ocX3_atom_0 (k := 0) rfl
theorem dX3_atom_1 : decode cX3_atom 1 = .ok (.getfield 64, 3) := chk_nth ocX3_atom_0 (k := 1) rfl
theorem dX3_atom_4 : decode cX3_atom 4 = .ok (.sipush 256, 3) := chk_nth ocX3_atom_0 (k := 2) rfl
theorem dX3_atom_7 : decode cX3_atom 7 = .ok (.if_icmp .ne 21, 3) := chk_nth ocX3_atom_0 (k := 3) rfl
theorem dX3_atom_10 : decode cX3_atom 10 = .ok (.aload_n 0, 1) := chk_nth ocX3_atom_0 (k := 4) rfl
theorem dX3_atom_11 : decode cX3_atom 11 = .ok (.getfield 18, 3) := chk_nth ocX3_atom_0 (k := 5) rfl
theorem dX3_atom_14 : decode cX3_atom 14 = .ok (.aload_n 0, 1) := chk_nth ocX3_atom_0 (k := 6) rfl
theorem dX3_atom_15 : decode cX3_atom 15 = .ok (.getfield 77, 3) := chk_nth ocX3_atom_0 (k := 7) rfl
theorem dX3_atom_18 : decode cX3_atom 18 = .ok (.invokevirtual 183, 3) := chk_nth ocX3_atom_0 (k := 8) rfl
theorem dX3_atom_21 : decode cX3_atom 21 = .ok (.aload_n 0, 1) := chk_nth ocX3_atom_0 (k := 9) rfl
theorem dX3_atom_22 : decode cX3_atom 22 = .ok (.invokevirtual 47, 3) := chk_nth ocX3_atom_0 (k := 10) rfl
theorem dX3_atom_25 : decode cX3_atom 25 = .ok (.goto 94, 3) := chk_nth ocX3_atom_0 (k := 11) rfl
theorem dX3_atom_28 : decode cX3_atom 28 = .ok (.aload_n 0, 1) := chk_nth ocX3_atom_0 (k := 12) rfl
theorem dX3_atom_29 : decode cX3_atom 29 = .ok (.getfield 64, 3) := chk_nth ocX3_atom_0 (k := 13) rfl
theorem dX3_atom_32 : decode cX3_atom 32 = .ok (.bipush 40, 2) := chk_nth ocX3_atom_0 (k := 14) rfl
theorem dX3_atom_34 : decode cX3_atom 34 = .ok (.if_icmp .ne 27, 3) := chk_nth ocX3_atom_0 (k := 15) rfl
theorem dX3_atom_37 : decode cX3_atom 37 = .ok (.aload_n 0, 1) := chk_nth ocX3_atom_0 (k := 16) rfl
theorem dX3_atom_38 : decode cX3_atom 38 = .ok (.iload_n 1, 1) := chk_nth ocX3_atom_0 (k := 17) rfl
theorem dX3_atom_39 : decode cX3_atom 39 = .ok (.invokevirtual 189, 3) := chk_nth ocX3_atom_0 (k := 18) rfl
theorem dX3_atom_42 : decode cX3_atom 42 = .ok (.ifCond .eq 77, 3) := chk_nth ocX3_atom_0 (k := 19) rfl
theorem dX3_atom_45 : decode cX3_atom 45 = .ok (.aload_n 0, 1) := chk_nth ocX3_atom_0 (k := 20) rfl
theorem dX3_atom_46 : decode cX3_atom 46 = .ok (.iload_n 1, 1) := chk_nth ocX3_atom_0 (k := 21) rfl
theorem dX3_atom_47 : decode cX3_atom 47 = .ok (.iconst 1, 1) := chk_nth ocX3_atom_0 (k := 22) rfl
theorem dX3_atom_48 : decode cX3_atom 48 = .ok (.iadd, 1) := chk_nth ocX3_atom_0 (k := 23) rfl
def tcX3_atom_1 : List (Instr × Nat) := [(.invokevirtual 165, 3), (.aload_n 0, 1), (.bipush 41, 2), (.invokevirtual 50, 3), (.goto 61, 3), (.aload_n 0, 1), (.getfield 64, 3), (.sipush 1010, 3), (.if_icmp .ne 21, 3), (.aload_n 0, 1), (.iload_n 1, 1), (.invokevirtual 189, 3), (.ifCond .eq 43, 3), (.aload_n 0, 1), (.iload_n 1, 1), (.iconst 1, 1), (.iadd, 1), (.invokevirtual 202, 3), (.goto 33, 3), (.aload_n 0, 1), (.invokevirtual 205, 3), (.ifCond .eq 21, 3), (.aload_n 0, 1), (.getfield 18, 3)]
theorem ocX3_atom_1 : chk (cX3_atom.data.toList.drop 49) tcX3_atom_1 = true := by decide +kernel
theorem dX3_atom_49 : decode cX3_atom 49 = .ok (.invokevirtual 165, 3) := chk_nth ocX3_atom_1 (k := 0) rfl
theorem dX3_atom_52 : decode cX3_atom 52 = .ok (.aload_n 0, 1) := chk_nth ocX3_atom_1 (k := 1) rfl
theorem dX3_atom_53 : decode cX3_atom 53 = .ok (.bipush 41, 2) := chk_nth ocX3_atom_1 (k := 2) rfl
theorem dX3_atom_55 : decode cX3_atom 55 = .ok (.invokevirtual 50, 3) := chk_nth ocX3_atom_1 (k := 3) rfl
theorem dX3_atom_58 : decode cX3_atom 58 = .ok (.goto 61, 3) := chk_nth ocX3_atom_1 (k := 4) rfl
theorem dX3_atom_61 : decode cX3_atom 61 = .ok (.aload_n 0, 1) := chk_nth ocX3_atom_1 (k := 5) rfl
theorem dX3_atom_62 : decode cX3_atom 62 = .ok (.getfield 64, 3) := chk_nth ocX3_atom_1 (k := 6) rfl
theorem dX3_atom_65 : decode cX3_atom 65 = .ok (.sipush 1010, 3) := chk_nth ocX3_atom_1 (k := 7) rfl
theorem dX3_atom_68 : decode cX3_atom 68 = .ok (.if_icmp .ne 21, 3) := chk_nth ocX3_atom_1 (k := 8) rfl
theorem dX3_atom_71 : decode cX3_atom 71 = .ok (.aload_n 0, 1) := chk_nth ocX3_atom_1 (k := 9) rfl
theorem dX3_atom_72 : decode cX3_atom 72 = .ok (.iload_n 1, 1) := chk_nth ocX3_atom_1 (k := 10) rfl
theorem dX3_atom_73 : decode cX3_atom 73 = .ok (.invokevirtual 189, 3) := chk_nth ocX3_atom_1 (k := 11) rfl
theorem dX3_atom_76 : decode cX3_atom 76 = .ok (.ifCond .eq 43, 3) := chk_nth ocX3_atom_1 (k := 12) rfl
theorem dX3_atom_79 : decode cX3_atom 79 = .ok (.aload_n 0, 1) := chk_nth ocX3_atom_1 (k := 13) rfl
theorem dX3_atom_80 : decode cX3_atom 80 = .ok (.iload_n 1, 1) := chk_nth ocX3_atom_1 (k := 14) rfl
theorem dX3_atom_81 : decode cX3_atom 81 = .ok (.iconst 1, 1) := chk_nth ocX3_atom_1 (k := 15) rfl
theorem dX3_atom_82 : decode cX3_atom 82 = .ok (.iadd, 1) := chk_nth ocX3_atom_1 (k := 16) rfl
theorem dX3_atom_83 : decode cX3_atom 83 = .ok (.invokevirtual 202, 3) := chk_nth ocX3_atom_1 (k := 17) rfl
theorem dX3_atom_86 : decode cX3_atom 86 = .ok (.goto 33, 3) := chk_nth ocX3_atom_1 (k := 18) rfl
theorem dX3_atom_89 : decode cX3_atom 89 = .ok (.aload_n 0, 1) := chk_nth ocX3_atom_1 (k := 19) rfl
theorem dX3_atom_90 : decode cX3_atom 90 = .ok (.invokevirtual 205, 3) := chk_nth ocX3_atom_1 (k := 20) rfl
theorem dX3_atom_93 : decode cX3_atom 93 = .ok (.ifCond .eq 21, 3) := chk_nth ocX3_atom_1 (k := 21) rfl
theorem dX3_atom_96 : decode cX3_atom 96 = .ok (.aload_n 0, 1) := chk_nth ocX3_atom_1 (k := 22) rfl
theorem dX3_atom_97 : decode cX3_atom 97 = .ok (.getfield 18, 3) := chk_nth ocX3_atom_1 (k := 23) rfl
def tcX3_atom_2 : List (Instr × Nat) := [(.aload_n 0, 1), (.getfield 64, 3), (.invokevirtual 183, 3), (.aload_n 0, 1), (.invokevirtual 47, 3), (.goto 8, 3), (.aload_n 0, 1), (.iconst 2, 1), (.invokevirtual 80, 3), (.return_, 1)]
theorem ocX3_atom_2 : chk (cX3_atom.data.toList.drop 100) tcX3_atom_2 = true := by decide +kernel
theorem dX3_atom_100 : decode cX3_atom 100 = .ok (.aload_n 0, 1) := chk_nth ocX3_atom_2 (k := 0) rfl
theorem dX3_atom_101 : decode cX3_atom 101 = .ok (.getfield 64, 3) := chk_nth ocX3_atom_2 (k := 1) rfl
theorem dX3_atom_104 : decode cX3_atom 104 = .ok (.invokevirtual 183, 3) := chk_nth ocX3_atom_2 (k := 2) rfl
theorem dX3_atom_107 : decode cX3_atom 107 = .ok (.aload_n 0, 1) := chk_nth ocX3_atom_2 (k := 3) rfl
theorem dX3_atom_108 : decode cX3_atom 108 = .ok (.invokevirtual 47, 3) := chk_nth ocX3_atom_2 (k := 4) rfl
theorem dX3_atom_111 : decode cX3_atom 111 = .ok (.goto 8, 3) := chk_nth ocX3_atom_2 (k := 5) rfl
theorem dX3_atom_114 : decode cX3_atom 114 = .ok (.aload_n 0, 1) := chk_nth ocX3_atom_2 (k := 6) rfl
theorem dX3_atom_115 : decode cX3_atom 115 = .ok (.iconst 2, 1) := chk_nth ocX3_atom_2 (k := 7) rfl
theorem dX3_atom_116 : decode cX3_atom 116 = .ok (.invokevirtual 80, 3) := chk_nth ocX3_atom_2 (k := 8) rfl
theorem dX3_atom_119 : decode cX3_atom 119 = .ok (.return_, 1) := chk_nth ocX3_atom_2 (k := 9) rfl
def tcX3_choice_0 : List (Instr × Nat) := [(.aload_n 0, 1), (.iload_n 1, 1), (.invokevirtual 174, 3), (.aload_n 0, 1), (.sipush 1011, 3), (.invokevirtual 50, 3), (.aload_n 0, 1), (.iload_n 1, 1), (.invokevirtual 165, 3), (.aload_n 0, 1), (.sipush 1012, 3), (.invokevirtual 50, 3), (.aload_n 0, 1), (.iload_n 1, 1), (.invokevirtual 165, 3), (.aload_n 0, 1), (.sipush 1013, 3), (.invokevirtual 50, 3), (.aload_n 0, 1), (.getfield 18, 3), (.sipush 3010, 3), (.invokevirtual 183, 3), (.return_, 1)]
theorem ocX3_choice_0 : chk (cX3_choice.data.toList.drop 0) tcX3_choice_0 = true := by decide +kernel
theorem dX3_choice_0 : decode cX3_choice 0 = .ok (.aload_n 0, 1) := chk_nth ocX3_choice_0 (k := 0) rfl
theorem dX3_choice_1 : decode cX3_choice 1 = .ok (.iload_n 1, 1) := chk_nth ocX3_choice_0 (k := 1) rfl
theorem dX3_choice_2 : decode cX3_choice 2 = .ok (.invokevirtual 174, 3) := chk_nth ocX3_choice_0 (k := 2) rfl
theorem dX3_choice_5 : decode cX3_choice 5 = .ok (.aload_n 0, 1) := chk_nth ocX3_choice_0 (k := 3) rfl
theorem dX3_choice_6 : decode cX3_choice 6 = .ok (.sipush 1011, 3) := chk_nth ocX3_choice_0 (k := 4) rfl
theorem dX3_choice_9 : decode cX3_choice 9 = .ok (.invokevirtual 50, 3) := chk_nth ocX3_choice_0 (k := 5) rfl
theorem dX3_choice_12 : decode cX3_choice 12 = .ok (.aload_n 0, 1) := chk_nth ocX3_choice_0 (k := 6) rfl
theorem dX3_choice_13 : decode cX3_choice 13 = .ok (.iload_n 1, 1) := chk_nth ocX3_choice_0 (k := 7) rfl
theorem dX3_choice_14 : decode cX3_choice 14 = .ok (.invokevirtual 165, 3) := chk_nth ocX3_choice_0 (k := 8) rfl
theorem dX3_choice_17 : decode cX3_choice 17 = .ok (.aload_n 0, 1) := chk_nth ocX3_choice_0 (k := 9) rfl
theorem dX3_choice_18 : decode cX3_choice 18 = .ok (.sipush 1012, 3) := chk_nth ocX3_choice_0 (k := 10) rfl
theorem dX3_choice_21 : decode cX3_choice 21 = .ok (.invokevirtual 50, 3) := chk_nth ocX3_choice_0 (k := 11) rfl
theorem dX3_choice_24 : decode cX3_choice 24 = .ok (.aload_n 0, 1) := chk_nth ocX3_choice_0 (k := 12) rfl
theorem dX3_choice_25 : decode cX3_choice 25 = .ok (.iload_n 1, 1) := chk_nth ocX3_choice_0 (k := 13) rfl
theorem dX3_choice_26 : decode cX3_choice 26 = .ok (.invokevirtual 165, 3) := chk_nth ocX3_choice_0 (k := 14) rfl
theorem dX3_choice_29 : decode cX3_choice 29 = .ok (.aload_n 0, 1) := chk_nth ocX3_choice_0 (k := 15) rfl
theorem dX3_choice_30 : decode cX3_choice 30 = .ok (.sipush 1013, 3) := chk_nth ocX3_choice_0 (k := 16) rfl
theorem dX3_choice_33 : decode cX3_choice 33 = .ok (.invokevirtual 50, 3) := chk_nth ocX3_choice_0 (k := 17) rfl
theorem dX3_choice_36 : decode cX3_choice 36 = .ok (.aload_n 0, 1) := chk_nth ocX3_choice_0 (k := 18) rfl
theorem dX3_choice_37 : decode cX3_choice 37 = .ok (.getfield 18, 3) := chk_nth ocX3_choice_0 (k := 19) rfl
theorem dX3_choice_40 : decode cX3_choice 40 = .ok (.sipush 3010, 3) := chk_nth ocX3_choice_0 (k := 20) rfl
theorem dX3_choice_43 : decode cX3_choice 43 = .ok (.invokevirtual 183, 3) := chk_nth ocX3_choice_0 (k := 21) rfl
theorem dX3_choice_46 : decode cX3_choice 46 = .ok (.return_, 1) := chk_nth ocX3_choice_0 (k := 22) rfl
def tcX3_isNameOfNumber_0 : List (Instr × Nat) := [(.aload_n 0, 1), (.getfield 64, 3)]
theorem ocX3_isNameOfNumber_0 : chk (cX3_isNameOfNumber.data.toList.drop 0) tcX3_isNameOfNumber_0 = true := by decide +kernel
theorem dX3_isNameOfNumber_0 : decode cX3_isNameOfNumber 0 = .ok (.aload_n 0, 1) := chk_nth ocX3_isNameOfNumber_0 (k := 0) rfl
theorem dX3_isNameOfNumber_1 : decode cX3_isNameOfNumber 1 = .ok (.getfield 64, 3) := chk_nth ocX3_isNameOfNumber_0 (k := 1) rfl
theorem dX3_isNameOfNumber_4 : decode cX3_isNameOfNumber 4 = .ok (.tableswitch 79 1001 1014 #[72, 74, 72, 72, 79, 79, 72, 79, 79, 79, 79, 79, 79, 72], 72) := by decide +kernel
def tcX3_isNameOfNumber_1 : List (Instr × Nat) := [(.iconst 1, 1), (.ireturn, 1), (.aload_n 0, 1), (.getfield 155, 3), (.ireturn, 1), (.iconst 0, 1), (.ireturn, 1)]
theorem ocX3_isNameOfNumber_1 : chk (cX3_isNameOfNumber.data.toList.drop 76) tcX3_isNameOfNumber_1 = true := by decide +kernel
theorem dX3_isNameOfNumber_76 : decode cX3_isNameOfNumber 76 = .ok (.iconst 1, 1) := chk_nth ocX3_isNameOfNumber_1 (k := 0) rfl
theorem dX3_isNameOfNumber_77 : decode cX3_isNameOfNumber 77 = .ok (.ireturn, 1) := chk_nth ocX3_isNameOfNumber_1 (k := 1) rfl
theorem dX3_isNameOfNumber_78 : decode cX3_isNameOfNumber 78 = .ok (.aload_n 0, 1) := chk_nth ocX3_isNameOfNumber_1 (k := 2) rfl
theorem dX3_isNameOfNumber_79 : decode cX3_isNameOfNumber 79 = .ok (.getfield 155, 3) := chk_nth ocX3_isNameOfNumber_1 (k := 3) rfl
theorem dX3_isNameOfNumber_82 : decode cX3_isNameOfNumber 82 = .ok (.ireturn, 1) := chk_nth ocX3_isNameOfNumber_1 (k := 4) rfl
theorem dX3_isNameOfNumber_83 : decode cX3_isNameOfNumber 83 = .ok (.iconst 0, 1) := chk_nth ocX3_isNameOfNumber_1 (k := 5) rfl
theorem dX3_isNameOfNumber_84 : decode cX3_isNameOfNumber 84 = .ok (.ireturn, 1) := chk_nth ocX3_isNameOfNumber_1 (k := 6) rfl
def tcX3_goesDeeper_0 : List (Instr × Nat) := [(.iload_n 1, 1), (.bipush 6, 2), (.if_icmp .lt 10, 3), (.aload_n 0, 1), (.iconst 4, 1), (.invokevirtual 80, 3), (.iconst 0, 1), (.ireturn, 1), (.aload_n 0, 1), (.invokevirtual 47, 3), (.iconst 1, 1), (.ireturn, 1)]
theorem ocX3_goesDeeper_0 : chk (cX3_goesDeeper.data.toList.drop 0) tcX3_goesDeeper_0 = true := by decide +kernel
theorem dX3_goesDeeper_0 : decode cX3_goesDeeper 0 = .ok (.iload_n 1, 1) := chk_nth ocX3_goesDeeper_0 (k := 0) rfl
theorem dX3_goesDeeper_1 : decode cX3_goesDeeper 1 = .ok (.bipush 6, 2) := chk_nth ocX3_goesDeeper_0 (k := 1) rfl
theorem dX3_goesDeeper_3 : decode cX3_goesDeeper 3 = .ok (.if_icmp .lt 10, 3) := chk_nth ocX3_goesDeeper_0 (k := 2) rfl
theorem dX3_goesDeeper_6 : decode cX3_goesDeeper 6 = .ok (.aload_n 0, 1) := chk_nth ocX3_goesDeeper_0 (k := 3) rfl
theorem dX3_goesDeeper_7 : decode cX3_goesDeeper 7 = .ok (.iconst 4, 1) := chk_nth ocX3_goesDeeper_0 (k := 4) rfl
theorem dX3_goesDeeper_8 : decode cX3_goesDeeper 8 = .ok (.invokevirtual 80, 3) := chk_nth ocX3_goesDeeper_0 (k := 5) rfl
theorem dX3_goesDeeper_11 : decode cX3_goesDeeper 11 = .ok (.iconst 0, 1) := chk_nth ocX3_goesDeeper_0 (k := 6) rfl
theorem dX3_goesDeeper_12 : decode cX3_goesDeeper 12 = .ok (.ireturn, 1) := chk_nth ocX3_goesDeeper_0 (k := 7) rfl
theorem dX3_goesDeeper_13 : decode cX3_goesDeeper 13 = .ok (.aload_n 0, 1) := chk_nth ocX3_goesDeeper_0 (k := 8) rfl
theorem dX3_goesDeeper_14 : decode cX3_goesDeeper 14 = .ok (.invokevirtual 47, 3) := chk_nth ocX3_goesDeeper_0 (k := 9) rfl
theorem dX3_goesDeeper_17 : decode cX3_goesDeeper 17 = .ok (.iconst 1, 1) := chk_nth ocX3_goesDeeper_0 (k := 10) rfl
theorem dX3_goesDeeper_18 : decode cX3_goesDeeper 18 = .ok (.ireturn, 1) := chk_nth ocX3_goesDeeper_0 (k := 11) rfl
def tcX4_init_0 : List (Instr × Nat) := [(.aload_n 0, 1), (.invokespecial 1, 3), (.aload_n 0, 1), (.bipush 64, 2), (.newarray .int, 2), (.putfield 9, 3), (.return_, 1)]
theorem ocX4_init_0 : chk (cX4_init.data.toList.drop 0) tcX4_init_0 = true := by decide +kernel
theorem dX4_init_0 : decode cX4_init 0 = .ok (.aload_n 0, 1) := chk_nth ocX4_init_0 (k := 0) rfl
theorem dX4_init_1 : decode cX4_init 1 = .ok (.invokespecial 1, 3) := chk_nth ocX4_init_0 (k := 1) rfl
theorem dX4_init_4 : decode cX4_init 4 = .ok (.aload_n 0, 1) := chk_nth ocX4_init_0 (k := 2) rfl
theorem dX4_init_5 : decode cX4_init 5 = .ok (.bipush 64, 2) := chk_nth ocX4_init_0 (k := 3) rfl
theorem dX4_init_7 : decode cX4_init 7 = .ok (.newarray .int, 2) := chk_nth ocX4_init_0 (k := 4) rfl
theorem dX4_init_9 : decode cX4_init 9 = .ok (.putfield 9, 3) := chk_nth ocX4_init_0 (k := 5) rfl
theorem dX4_init_12 : decode cX4_init 12 = .ok (.return_, 1) := chk_nth ocX4_init_0 (k := 6) rfl
def tcX4_valueOf_0 : List (Instr × Nat) := [(.iconst 0, 1), (.istore 4, 2), (.iload_n 2, 1), (.istore 5, 2), (.iload 5, 2), (.iload_n 3, 1), (.if_icmp .ge 221, 3), (.iload 5, 2), (.ifCond .lt 216, 3), (.iload 5, 2), (.aload_n 1, 1), (.arraylength, 1), (.if_icmp .ge 209, 3), (.aload_n 1, 1), (.iload 5, 2), (.iaload, 1), (.istore 6, 2), (.iload 6, 2), (.sipush 2000, 3), (.if_icmp .ge 45, 3), (.iload 4, 2), (.aload_n 0, 1), (.getfield 9, 3), (.arraylength, 1)]
theorem ocX4_valueOf_0 : chk (cX4_valueOf.data.toList.drop 0) tcX4_valueOf_0 = true := by decide +kernel
theorem dX4_valueOf_0 : decode cX4_valueOf 0 = .ok (.iconst 0, 1) := chk_nth ocX4_valueOf_0 (k := 0) rfl
theorem dX4_valueOf_1 : decode cX4_valueOf 1 = .ok (.istore 4, 2) := chk_nth ocX4_valueOf_0 (k := 1) rfl
theorem dX4_valueOf_3 : decode cX4_valueOf 3 = .ok (.iload_n 2, 1) := chk_nth ocX4_valueOf_0 (k := 2) rfl
theorem dX4_valueOf_4 : decode cX4_valueOf 4 = .ok (.istore 5, 2) := chk_nth ocX4_valueOf_0 (k := 3) rfl
theorem dX4_valueOf_6 : decode cX4_valueOf 6 = .ok (.iload 5, 2) := chk_nth ocX4_valueOf_0 (k := 4) rfl
theorem dX4_valueOf_8 : decode cX4_valueOf 8 = .ok (.iload_n 3, 1) := chk_nth ocX4_valueOf_0 (k := 5) rfl
theorem dX4_valueOf_9 : decode cX4_valueOf 9 = .ok (.if_icmp .ge 221, 3) := chk_nth ocX4_valueOf_0 (k := 6) rfl
theorem dX4_valueOf_12 : decode cX4_valueOf 12 = .ok (.iload 5, 2) := chk_nth ocX4_valueOf_0 (k := 7) rfl
theorem dX4_valueOf_14 : decode cX4_valueOf 14 = .ok (.ifCond .lt 216, 3) := chk_nth ocX4_valueOf_0 (k := 8) rfl
theorem dX4_valueOf_17 : decode cX4_valueOf 17 = .ok (.iload 5, 2) := chk_nth ocX4_valueOf_0 (k := 9) rfl
theorem dX4_valueOf_19 : decode cX4_valueOf 19 = .ok (.aload_n 1, 1) := chk_nth ocX4_valueOf_0 (k := 10) rfl
theorem dX4_valueOf_20 : decode cX4_valueOf 20 = .ok (.arraylength, 1) := chk_nth ocX4_valueOf_0 (k := 11) rfl
theorem dX4_valueOf_21 : decode cX4_valueOf 21 = .ok (.if_icmp .ge 209, 3) := chk_nth ocX4_valueOf_0 (k := 12) rfl
theorem dX4_valueOf_24 : decode cX4_valueOf 24 = .ok (.aload_n 1, 1) := chk_nth ocX4_valueOf_0 (k := 13) rfl
theorem dX4_valueOf_25 : decode cX4_valueOf 25 = .ok (.iload 5, 2) := chk_nth ocX4_valueOf_0 (k := 14) rfl
theorem dX4_valueOf_27 : decode cX4_valueOf 27 = .ok (.iaload, 1) := chk_nth ocX4_valueOf_0 (k := 15) rfl
theorem dX4_valueOf_28 : decode cX4_valueOf 28 = .ok (.istore 6, 2) := chk_nth ocX4_valueOf_0 (k := 16) rfl
theorem dX4_valueOf_30 : decode cX4_valueOf 30 = .ok (.iload 6, 2) := chk_nth ocX4_valueOf_0 (k := 17) rfl
theorem dX4_valueOf_32 : decode cX4_valueOf 32 = .ok (.sipush 2000, 3) := chk_nth ocX4_valueOf_0 (k := 18) rfl
theorem dX4_valueOf_35 : decode cX4_valueOf 35 = .ok (.if_icmp .ge 45, 3) := chk_nth ocX4_valueOf_0 (k := 19) rfl
theorem dX4_valueOf_38 : decode cX4_valueOf 38 = .ok (.iload 4, 2) := chk_nth ocX4_valueOf_0 (k := 20) rfl
theorem dX4_valueOf_40 : decode cX4_valueOf 40 = .ok (.aload_n 0, 1) := chk_nth ocX4_valueOf_0 (k := 21) rfl
theorem dX4_valueOf_41 : decode cX4_valueOf 41 = .ok (.getfield 9, 3) := chk_nth ocX4_valueOf_0 (k := 22) rfl
theorem dX4_valueOf_44 : decode cX4_valueOf 44 = .ok (.arraylength, 1) := chk_nth ocX4_valueOf_0 (k := 23) rfl
def tcX4_valueOf_1 : List (Instr × Nat) := [(.if_icmp .ge 179, 3), (.aload_n 0, 1), (.getfield 9, 3), (.iload 4, 2), (.iload 6, 2), (.sipush 1000, 3), (.if_icmp .ge 8, 3), (.iload 6, 2), (.goto 9, 3), (.aload_n 0, 1), (.iload 6, 2), (.invokevirtual 15, 3), (.iastore, 1), (.iinc 4 1, 3), (.goto 147, 3), (.iload 6, 2), (.sipush 3015, 3), (.if_icmp .ne 32, 3), (.iload 4, 2), (.iconst 1, 1), (.if_icmp .lt 133, 3), (.aload_n 0, 1), (.getfield 9, 3), (.iload 4, 2)]
theorem ocX4_valueOf_1 : chk (cX4_valueOf.data.toList.drop 45) tcX4_valueOf_1 = true := by decide +kernel
theorem dX4_valueOf_45 : decode cX4_valueOf 45 = .ok (.if_icmp .ge 179, 3) := chk_nth ocX4_valueOf_1 (k := 0) rfl
theorem dX4_valueOf_48 : decode cX4_valueOf 48 = .ok (.aload_n 0, 1) := chk_nth ocX4_valueOf_1 (k := 1) rfl
theorem dX4_valueOf_49 : decode cX4_valueOf 49 = .ok (.getfield 9, 3) := chk_nth ocX4_valueOf_1 (k := 2) rfl
theorem dX4_valueOf_52 : decode cX4_valueOf 52 = .ok (.iload 4, 2) := chk_nth ocX4_valueOf_1 (k := 3) rfl
theorem dX4_valueOf_54 : decode cX4_valueOf 54 = .ok (.iload 6, 2) := chk_nth ocX4_valueOf_1 (k := 4) rfl
theorem dX4_valueOf_56 : decode cX4_valueOf 56 = .ok (.sipush 1000, 3) := chk_nth ocX4_valueOf_1 (k := 5) rfl
theorem dX4_valueOf_59 : decode cX4_valueOf 59 = .ok (.if_icmp .ge 8, 3) := chk_nth ocX4_valueOf_1 (k := 6) rfl
theorem dX4_valueOf_62 : decode cX4_valueOf 62 = .ok (.iload 6, 2) := chk_nth ocX4_valueOf_1 (k := 7) rfl
theorem dX4_valueOf_64 : decode cX4_valueOf 64 = .ok (.goto 9, 3) := chk_nth ocX4_valueOf_1 (k := 8) rfl
theorem dX4_valueOf_67 : decode cX4_valueOf 67 = .ok (.aload_n 0, 1) := chk_nth ocX4_valueOf_1 (k := 9) rfl
theorem dX4_valueOf_68 : decode cX4_valueOf 68 = .ok (.iload 6, 2) := chk_nth ocX4_valueOf_1 (k := 10) rfl
theorem dX4_valueOf_70 : decode cX4_valueOf 70 = .ok (.invokevirtual 15, 3) := chk_nth ocX4_valueOf_1 (k := 11) rfl
theorem dX4_valueOf_73 : decode cX4_valueOf 73 = .ok (.iastore, 1) := chk_nth ocX4_valueOf_1 (k := 12) rfl
theorem dX4_valueOf_74 : decode cX4_valueOf 74 = .ok (.iinc 4 1, 3) := chk_nth ocX4_valueOf_1 (k := 13) rfl
theorem dX4_valueOf_77 : decode cX4_valueOf 77 = .ok (.goto 147, 3) := chk_nth ocX4_valueOf_1 (k := 14) rfl
theorem dX4_valueOf_80 : decode cX4_valueOf 80 = .ok (.iload 6, 2) := chk_nth ocX4_valueOf_1 (k := 15) rfl
theorem dX4_valueOf_82 : decode cX4_valueOf 82 = .ok (.sipush 3015, 3) := chk_nth ocX4_valueOf_1 (k := 16) rfl
theorem dX4_valueOf_85 : decode cX4_valueOf 85 = .ok (.if_icmp .ne 32, 3) := chk_nth ocX4_valueOf_1 (k := 17) rfl
theorem dX4_valueOf_88 : decode cX4_valueOf 88 = .ok (.iload 4, 2) := chk_nth ocX4_valueOf_1 (k := 18) rfl
theorem dX4_valueOf_90 : decode cX4_valueOf 90 = .ok (.iconst 1, 1) := chk_nth ocX4_valueOf_1 (k := 19) rfl
theorem dX4_valueOf_91 : decode cX4_valueOf 91 = .ok (.if_icmp .lt 133, 3) := chk_nth ocX4_valueOf_1 (k := 20) rfl
theorem dX4_valueOf_94 : decode cX4_valueOf 94 = .ok (.aload_n 0, 1) := chk_nth ocX4_valueOf_1 (k := 21) rfl
theorem dX4_valueOf_95 : decode cX4_valueOf 95 = .ok (.getfield 9, 3) := chk_nth ocX4_valueOf_1 (k := 22) rfl
theorem dX4_valueOf_98 : decode cX4_valueOf 98 = .ok (.iload 4, 2) := chk_nth ocX4_valueOf_1 (k := 23) rfl
def tcX4_valueOf_2 : List (Instr × Nat) := [(.iconst 1, 1), (.isub, 1), (.iconst 1, 1), (.aload_n 0, 1), (.getfield 9, 3), (.iload 4, 2), (.iconst 1, 1), (.isub, 1), (.iaload, 1), (.isub, 1), (.iastore, 1), (.goto 110, 3), (.iload 6, 2), (.sipush 3010, 3), (.if_icmp .ne 57, 3), (.iload 4, 2), (.iconst 3, 1), (.if_icmp .lt 96, 3), (.aload_n 0, 1), (.getfield 9, 3), (.iload 4, 2), (.iconst 3, 1), (.isub, 1), (.aload_n 0, 1)]
theorem ocX4_valueOf_2 : chk (cX4_valueOf.data.toList.drop 100) tcX4_valueOf_2 = true := by decide +kernel
theorem dX4_valueOf_100 : decode cX4_valueOf 100 = .ok (.iconst 1, 1) := chk_nth ocX4_valueOf_2 (k := 0) rfl
theorem dX4_valueOf_101 : decode cX4_valueOf 101 = .ok (.isub, 1) := chk_nth ocX4_valueOf_2 (k := 1) rfl
theorem dX4_valueOf_102 : decode cX4_valueOf 102 = .ok (.iconst 1, 1) := chk_nth ocX4_valueOf_2 (k := 2) rfl
theorem dX4_valueOf_103 : decode cX4_valueOf 103 = .ok (.aload_n 0, 1) := chk_nth ocX4_valueOf_2 (k := 3) rfl
theorem dX4_valueOf_104 : decode cX4_valueOf 104 = .ok (.getfield 9, 3) := chk_nth ocX4_valueOf_2 (k := 4) rfl
theorem dX4_valueOf_107 : decode cX4_valueOf 107 = .ok (.iload 4, 2) := chk_nth ocX4_valueOf_2 (k := 5) rfl
theorem dX4_valueOf_109 : decode cX4_valueOf 109 = .ok (.iconst 1, 1) := chk_nth ocX4_valueOf_2 (k := 6) rfl
theorem dX4_valueOf_110 : decode cX4_valueOf 110 = .ok (.isub, 1) := chk_nth ocX4_valueOf_2 (k := 7) rfl
theorem dX4_valueOf_111 : decode cX4_valueOf 111 = .ok (.iaload, 1) := chk_nth ocX4_valueOf_2 (k := 8) rfl
theorem dX4_valueOf_112 : decode cX4_valueOf 112 = .ok (.isub, 1) := chk_nth ocX4_valueOf_2 (k := 9) rfl
theorem dX4_valueOf_113 : decode cX4_valueOf 113 = .ok (.iastore, 1) := chk_nth ocX4_valueOf_2 (k := 10) rfl
theorem dX4_valueOf_114 : decode cX4_valueOf 114 = .ok (.goto 110, 3) := chk_nth ocX4_valueOf_2 (k := 11) rfl
theorem dX4_valueOf_117 : decode cX4_valueOf 117 = .ok (.iload 6, 2) := chk_nth ocX4_valueOf_2 (k := 12) rfl
theorem dX4_valueOf_119 : decode cX4_valueOf 119 = .ok (.sipush 3010, 3) := chk_nth ocX4_valueOf_2 (k := 13) rfl
theorem dX4_valueOf_122 : decode cX4_valueOf 122 = .ok (.if_icmp .ne 57, 3) := chk_nth ocX4_valueOf_2 (k := 14) rfl
theorem dX4_valueOf_125 : decode cX4_valueOf 125 = .ok (.iload 4, 2) := chk_nth ocX4_valueOf_2 (k := 15) rfl
theorem dX4_valueOf_127 : decode cX4_valueOf 127 = .ok (.iconst 3, 1) := chk_nth ocX4_valueOf_2 (k := 16) rfl
theorem dX4_valueOf_128 : decode cX4_valueOf 128 = .ok (.if_icmp .lt 96, 3) := chk_nth ocX4_valueOf_2 (k := 17) rfl
theorem dX4_valueOf_131 : decode cX4_valueOf 131 = .ok (.aload_n 0, 1) := chk_nth ocX4_valueOf_2 (k := 18) rfl
theorem dX4_valueOf_132 : decode cX4_valueOf 132 = .ok (.getfield 9, 3) := chk_nth ocX4_valueOf_2 (k := 19) rfl
theorem dX4_valueOf_135 : decode cX4_valueOf 135 = .ok (.iload 4, 2) := chk_nth ocX4_valueOf_2 (k := 20) rfl
theorem dX4_valueOf_137 : decode cX4_valueOf 137 = .ok (.iconst 3, 1) := chk_nth ocX4_valueOf_2 (k := 21) rfl
theorem dX4_valueOf_138 : decode cX4_valueOf 138 = .ok (.isub, 1) := chk_nth ocX4_valueOf_2 (k := 22) rfl
theorem dX4_valueOf_139 : decode cX4_valueOf 139 = .ok (.aload_n 0, 1) := chk_nth ocX4_valueOf_2 (k := 23) rfl
def tcX4_valueOf_3 : List (Instr × Nat) := [(.getfield 9, 3), (.iload 4, 2), (.iconst 3, 1), (.isub, 1), (.iaload, 1), (.ifCond .ne 15, 3), (.aload_n 0, 1), (.getfield 9, 3), (.iload 4, 2), (.iconst 1, 1), (.isub, 1), (.iaload, 1), (.goto 12, 3), (.aload_n 0, 1), (.getfield 9, 3), (.iload 4, 2), (.iconst 2, 1), (.isub, 1), (.iaload, 1), (.iastore, 1), (.iinc 4 (-2), 3), (.goto 48, 3), (.iload 4, 2), (.iconst 2, 1)]
theorem ocX4_valueOf_3 : chk (cX4_valueOf.data.toList.drop 140) tcX4_valueOf_3 = true := by decide +kernel
theorem dX4_valueOf_140 : decode cX4_valueOf 140 = .ok (.getfield 9, 3) := chk_nth ocX4_valueOf_3 (k := 0) rfl
theorem dX4_valueOf_143 : decode cX4_valueOf 143 = .ok (.iload 4, 2) := chk_nth ocX4_valueOf_3 (k := 1) rfl
theorem dX4_valueOf_145 : decode cX4_valueOf 145 = .ok (.iconst 3, 1) := chk_nth ocX4_valueOf_3 (k := 2) rfl
theorem dX4_valueOf_146 : decode cX4_valueOf 146 = .ok (.isub, 1) := chk_nth ocX4_valueOf_3 (k := 3) rfl
theorem dX4_valueOf_147 : decode cX4_valueOf 147 = .ok (.iaload, 1) := chk_nth ocX4_valueOf_3 (k := 4) rfl
theorem dX4_valueOf_148 : decode cX4_valueOf 148 = .ok (.ifCond .ne 15, 3) := chk_nth ocX4_valueOf_3 (k := 5) rfl
theorem dX4_valueOf_151 : decode cX4_valueOf 151 = .ok (.aload_n 0, 1) := chk_nth ocX4_valueOf_3 (k := 6) rfl
theorem dX4_valueOf_152 : decode cX4_valueOf 152 = .ok (.getfield 9, 3) := chk_nth ocX4_valueOf_3 (k := 7) rfl
theorem dX4_valueOf_155 : decode cX4_valueOf 155 = .ok (.iload 4, 2) := chk_nth ocX4_valueOf_3 (k := 8) rfl
theorem dX4_valueOf_157 : decode cX4_valueOf 157 = .ok (.iconst 1, 1) := chk_nth ocX4_valueOf_3 (k := 9) rfl
theorem dX4_valueOf_158 : decode cX4_valueOf 158 = .ok (.isub, 1) := chk_nth ocX4_valueOf_3 (k := 10) rfl
theorem dX4_valueOf_159 : decode cX4_valueOf 159 = .ok (.iaload, 1) := chk_nth ocX4_valueOf_3 (k := 11) rfl
theorem dX4_valueOf_160 : decode cX4_valueOf 160 = .ok (.goto 12, 3) := chk_nth ocX4_valueOf_3 (k := 12) rfl
theorem dX4_valueOf_163 : decode cX4_valueOf 163 = .ok (.aload_n 0, 1) := chk_nth ocX4_valueOf_3 (k := 13) rfl
theorem dX4_valueOf_164 : decode cX4_valueOf 164 = .ok (.getfield 9, 3) := chk_nth ocX4_valueOf_3 (k := 14) rfl
theorem dX4_valueOf_167 : decode cX4_valueOf 167 = .ok (.iload 4, 2) := chk_nth ocX4_valueOf_3 (k := 15) rfl
theorem dX4_valueOf_169 : decode cX4_valueOf 169 = .ok (.iconst 2, 1) := chk_nth ocX4_valueOf_3 (k := 16) rfl
theorem dX4_valueOf_170 : decode cX4_valueOf 170 = .ok (.isub, 1) := chk_nth ocX4_valueOf_3 (k := 17) rfl
theorem dX4_valueOf_171 : decode cX4_valueOf 171 = .ok (.iaload, 1) := chk_nth ocX4_valueOf_3 (k := 18) rfl
theorem dX4_valueOf_172 : decode cX4_valueOf 172 = .ok (.iastore, 1) := chk_nth ocX4_valueOf_3 (k := 19) rfl
theorem dX4_valueOf_173 : decode cX4_valueOf 173 = .ok (.iinc 4 (-2), 3) := chk_nth ocX4_valueOf_3 (k := 20) rfl
theorem dX4_valueOf_176 : decode cX4_valueOf 176 = .ok (.goto 48, 3) := chk_nth ocX4_valueOf_3 (k := 21) rfl
theorem dX4_valueOf_179 : decode cX4_valueOf 179 = .ok (.iload 4, 2) := chk_nth ocX4_valueOf_3 (k := 22) rfl
theorem dX4_valueOf_181 : decode cX4_valueOf 181 = .ok (.iconst 2, 1) := chk_nth ocX4_valueOf_3 (k := 23) rfl
def tcX4_valueOf_4 : List (Instr × Nat) := [(.if_icmp .lt 42, 3), (.aload_n 0, 1), (.getfield 9, 3), (.iload 4, 2), (.iconst 2, 1), (.isub, 1), (.iload 6, 2), (.sipush 2000, 3), (.isub, 1), (.aload_n 0, 1), (.getfield 9, 3), (.iload 4, 2), (.iconst 2, 1), (.isub, 1), (.iaload, 1), (.aload_n 0, 1), (.getfield 9, 3), (.iload 4, 2), (.iconst 1, 1), (.isub, 1), (.iaload, 1), (.invokestatic 19, 3), (.iastore, 1), (.iinc 4 (-1), 3)]
theorem ocX4_valueOf_4 : chk (cX4_valueOf.data.toList.drop 182) tcX4_valueOf_4 = true := by decide +kernel
theorem dX4_valueOf_182 : decode cX4_valueOf 182 = .ok (.if_icmp .lt 42, 3) := chk_nth ocX4_valueOf_4 (k := 0) rfl
theorem dX4_valueOf_185 : decode cX4_valueOf 185 = .ok (.aload_n 0, 1) := chk_nth ocX4_valueOf_4 (k := 1) rfl
theorem dX4_valueOf_186 : decode cX4_valueOf 186 = .ok (.getfield 9, 3) := chk_nth ocX4_valueOf_4 (k := 2) rfl
theorem dX4_valueOf_189 : decode cX4_valueOf 189 = .ok (.iload 4, 2) := chk_nth ocX4_valueOf_4 (k := 3) rfl
theorem dX4_valueOf_191 : decode cX4_valueOf 191 = .ok (.iconst 2, 1) := chk_nth ocX4_valueOf_4 (k := 4) rfl
theorem dX4_valueOf_192 : decode cX4_valueOf 192 = .ok (.isub, 1) := chk_nth ocX4_valueOf_4 (k := 5) rfl
theorem dX4_valueOf_193 : decode cX4_valueOf 193 = .ok (.iload 6, 2) := chk_nth ocX4_valueOf_4 (k := 6) rfl
theorem dX4_valueOf_195 : decode cX4_valueOf 195 = .ok (.sipush 2000, 3) := chk_nth ocX4_valueOf_4 (k := 7) rfl
theorem dX4_valueOf_198 : decode cX4_valueOf 198 = .ok (.isub, 1) := chk_nth ocX4_valueOf_4 (k := 8) rfl
theorem dX4_valueOf_199 : decode cX4_valueOf 199 = .ok (.aload_n 0, 1) := chk_nth ocX4_valueOf_4 (k := 9) rfl
theorem dX4_valueOf_200 : decode cX4_valueOf 200 = .ok (.getfield 9, 3) := chk_nth ocX4_valueOf_4 (k := 10) rfl
theorem dX4_valueOf_203 : decode cX4_valueOf 203 = .ok (.iload 4, 2) := chk_nth ocX4_valueOf_4 (k := 11) rfl
theorem dX4_valueOf_205 : decode cX4_valueOf 205 = .ok (.iconst 2, 1) := chk_nth ocX4_valueOf_4 (k := 12) rfl
theorem dX4_valueOf_206 : decode cX4_valueOf 206 = .ok (.isub, 1) := chk_nth ocX4_valueOf_4 (k := 13) rfl
theorem dX4_valueOf_207 : decode cX4_valueOf 207 = .ok (.iaload, 1) := chk_nth ocX4_valueOf_4 (k := 14) rfl
theorem dX4_valueOf_208 : decode cX4_valueOf 208 = .ok (.aload_n 0, 1) := chk_nth ocX4_valueOf_4 (k := 15) rfl
theorem dX4_valueOf_209 : decode cX4_valueOf 209 = .ok (.getfield 9, 3) := chk_nth ocX4_valueOf_4 (k := 16) rfl
theorem dX4_valueOf_212 : decode cX4_valueOf 212 = .ok (.iload 4, 2) := chk_nth ocX4_valueOf_4 (k := 17) rfl
theorem dX4_valueOf_214 : decode cX4_valueOf 214 = .ok (.iconst 1, 1) := chk_nth ocX4_valueOf_4 (k := 18) rfl
theorem dX4_valueOf_215 : decode cX4_valueOf 215 = .ok (.isub, 1) := chk_nth ocX4_valueOf_4 (k := 19) rfl
theorem dX4_valueOf_216 : decode cX4_valueOf 216 = .ok (.iaload, 1) := chk_nth ocX4_valueOf_4 (k := 20) rfl
theorem dX4_valueOf_217 : decode cX4_valueOf 217 = .ok (.invokestatic 19, 3) := chk_nth ocX4_valueOf_4 (k := 21) rfl
theorem dX4_valueOf_220 : decode cX4_valueOf 220 = .ok (.iastore, 1) := chk_nth ocX4_valueOf_4 (k := 22) rfl
theorem dX4_valueOf_221 : decode cX4_valueOf 221 = .ok (.iinc 4 (-1), 3) := chk_nth ocX4_valueOf_4 (k := 23) rfl
def tcX4_valueOf_5 : List (Instr × Nat) := [(.iinc 5 1, 3), (.goto (-221), 3), (.iload 4, 2), (.ifCond .le 12, 3), (.aload_n 0, 1), (.getfield 9, 3), (.iconst 0, 1), (.iaload, 1), (.goto 4, 3), (.iconst 0, 1), (.ireturn, 1)]
theorem ocX4_valueOf_5 : chk (cX4_valueOf.data.toList.drop 224) tcX4_valueOf_5 = true := by decide +kernel
theorem dX4_valueOf_224 : decode cX4_valueOf 224 = .ok (.iinc 5 1, 3) := chk_nth ocX4_valueOf_5 (k := 0) rfl
theorem dX4_valueOf_227 : decode cX4_valueOf 227 = .ok (.goto (-221), 3) := chk_nth ocX4_valueOf_5 (k := 1) rfl
theorem dX4_valueOf_230 : decode cX4_valueOf 230 = .ok (.iload 4, 2) := chk_nth ocX4_valueOf_5 (k := 2) rfl
theorem dX4_valueOf_232 : decode cX4_valueOf 232 = .ok (.ifCond .le 12, 3) := chk_nth ocX4_valueOf_5 (k := 3) rfl
theorem dX4_valueOf_235 : decode cX4_valueOf 235 = .ok (.aload_n 0, 1) := chk_nth ocX4_valueOf_5 (k := 4) rfl
theorem dX4_valueOf_236 : decode cX4_valueOf 236 = .ok (.getfield 9, 3) := chk_nth ocX4_valueOf_5 (k := 5) rfl
theorem dX4_valueOf_239 : decode cX4_valueOf 239 = .ok (.iconst 0, 1) := chk_nth ocX4_valueOf_5 (k := 6) rfl
theorem dX4_valueOf_240 : decode cX4_valueOf 240 = .ok (.iaload, 1) := chk_nth ocX4_valueOf_5 (k := 7) rfl
theorem dX4_valueOf_241 : decode cX4_valueOf 241 = .ok (.goto 4, 3) := chk_nth ocX4_valueOf_5 (k := 8) rfl
theorem dX4_valueOf_244 : decode cX4_valueOf 244 = .ok (.iconst 0, 1) := chk_nth ocX4_valueOf_5 (k := 9) rfl
theorem dX4_valueOf_245 : decode cX4_valueOf 245 = .ok (.ireturn, 1) := chk_nth ocX4_valueOf_5 (k := 10) rfl
def tcX4_setGoing_0 : List (Instr × Nat) := [(.aload_n 0, 1), (.iload_n 1, 1), (.putfield 23, 3), (.aload_n 0, 1), (.iload_n 2, 1), (.putfield 27, 3), (.aload_n 0, 1), (.iload_n 3, 1), (.putfield 30, 3), (.aload_n 0, 1), (.iload 4, 2), (.putfield 33, 3), (.aload_n 0, 1), (.iload 5, 2), (.putfield 36, 3), (.aload_n 0, 1), (.iload 6, 2), (.putfield 39, 3), (.return_, 1)]
theorem ocX4_setGoing_0 : chk (cX4_setGoing.data.toList.drop 0) tcX4_setGoing_0 = true := by decide +kernel
theorem dX4_setGoing_0 : decode cX4_setGoing 0 = .ok (.aload_n 0, 1) := chk_nth ocX4_setGoing_0 (k := 0) rfl
theorem dX4_setGoing_1 : decode cX4_setGoing 1 = .ok (.iload_n 1, 1) := chk_nth ocX4_setGoing_0 (k := 1) rfl
theorem dX4_setGoing_2 : decode cX4_setGoing 2 = .ok (.putfield 23, 3) := chk_nth ocX4_setGoing_0 (k := 2) rfl
theorem dX4_setGoing_5 : decode cX4_setGoing 5 = .ok (.aload_n 0, 1) := chk_nth ocX4_setGoing_0 (k := 3) rfl
theorem dX4_setGoing_6 : decode cX4_setGoing 6 = .ok (.iload_n 2, 1) := chk_nth ocX4_setGoing_0 (k := 4) rfl
theorem dX4_setGoing_7 : decode cX4_setGoing 7 = .ok (.putfield 27, 3) := chk_nth ocX4_setGoing_0 (k := 5) rfl
theorem dX4_setGoing_10 : decode cX4_setGoing 10 = .ok (.aload_n 0, 1) := chk_nth ocX4_setGoing_0 (k := 6) rfl
theorem dX4_setGoing_11 : decode cX4_setGoing 11 = .ok (.iload_n 3, 1) := chk_nth ocX4_setGoing_0 (k := 7) rfl
theorem dX4_setGoing_12 : decode cX4_setGoing 12 = .ok (.putfield 30, 3) := chk_nth ocX4_setGoing_0 (k := 8) rfl
theorem dX4_setGoing_15 : decode cX4_setGoing 15 = .ok (.aload_n 0, 1) := chk_nth ocX4_setGoing_0 (k := 9) rfl
theorem dX4_setGoing_16 : decode cX4_setGoing 16 = .ok (.iload 4, 2) := chk_nth ocX4_setGoing_0 (k := 10) rfl
theorem dX4_setGoing_18 : decode cX4_setGoing 18 = .ok (.putfield 33, 3) := chk_nth ocX4_setGoing_0 (k := 11) rfl
theorem dX4_setGoing_21 : decode cX4_setGoing 21 = .ok (.aload_n 0, 1) := chk_nth ocX4_setGoing_0 (k := 12) rfl
theorem dX4_setGoing_22 : decode cX4_setGoing 22 = .ok (.iload 5, 2) := chk_nth ocX4_setGoing_0 (k := 13) rfl
theorem dX4_setGoing_24 : decode cX4_setGoing 24 = .ok (.putfield 36, 3) := chk_nth ocX4_setGoing_0 (k := 14) rfl
theorem dX4_setGoing_27 : decode cX4_setGoing 27 = .ok (.aload_n 0, 1) := chk_nth ocX4_setGoing_0 (k := 15) rfl
theorem dX4_setGoing_28 : decode cX4_setGoing 28 = .ok (.iload 6, 2) := chk_nth ocX4_setGoing_0 (k := 16) rfl
theorem dX4_setGoing_30 : decode cX4_setGoing 30 = .ok (.putfield 39, 3) := chk_nth ocX4_setGoing_0 (k := 17) rfl
theorem dX4_setGoing_33 : decode cX4_setGoing 33 = .ok (.return_, 1) := chk_nth ocX4_setGoing_0 (k := 18) rfl
def tcX4_meaning_0 : List (Instr × Nat) := [(.iload_n 1, 1)]
theorem ocX4_meaning_0 : chk (cX4_meaning.data.toList.drop 0) tcX4_meaning_0 = true := by decide +kernel
theorem dX4_meaning_0 : decode cX4_meaning 0 = .ok (.iload_n 1, 1) := chk_nth ocX4_meaning_0 (k := 0) rfl
theorem dX4_meaning_1 : decode cX4_meaning 1 = .ok (.tableswitch 96 1001 1014 #[71, 96, 81, 91, 96, 96, 76, 96, 96, 96, 96, 96, 96, 86], 71) := by decide +kernel
def tcX4_meaning_1 : List (Instr × Nat) := [(.aload_n 0, 1), (.getfield 27, 3), (.ireturn, 1), (.aload_n 0, 1), (.getfield 30, 3), (.ireturn, 1), (.aload_n 0, 1), (.getfield 36, 3), (.ireturn, 1), (.aload_n 0, 1), (.getfield 33, 3), (.ireturn, 1), (.aload_n 0, 1), (.getfield 39, 3), (.ireturn, 1), (.aload_n 0, 1), (.getfield 23, 3), (.ireturn, 1)]
theorem ocX4_meaning_1 : chk (cX4_meaning.data.toList.drop 72) tcX4_meaning_1 = true := by decide +kernel
theorem dX4_meaning_72 : decode cX4_meaning 72 = .ok (.aload_n 0, 1) := chk_nth ocX4_meaning_1 (k := 0) rfl
theorem dX4_meaning_73 : decode cX4_meaning 73 = .ok (.getfield 27, 3) := chk_nth ocX4_meaning_1 (k := 1) rfl
theorem dX4_meaning_76 : decode cX4_meaning 76 = .ok (.ireturn, 1) := chk_nth ocX4_meaning_1 (k := 2) rfl
theorem dX4_meaning_77 : decode cX4_meaning 77 = .ok (.aload_n 0, 1) := chk_nth ocX4_meaning_1 (k := 3) rfl
theorem dX4_meaning_78 : decode cX4_meaning 78 = .ok (.getfield 30, 3) := chk_nth ocX4_meaning_1 (k := 4) rfl
theorem dX4_meaning_81 : decode cX4_meaning 81 = .ok (.ireturn, 1) := chk_nth ocX4_meaning_1 (k := 5) rfl
theorem dX4_meaning_82 : decode cX4_meaning 82 = .ok (.aload_n 0, 1) := chk_nth ocX4_meaning_1 (k := 6) rfl
theorem dX4_meaning_83 : decode cX4_meaning 83 = .ok (.getfield 36, 3) := chk_nth ocX4_meaning_1 (k := 7) rfl
theorem dX4_meaning_86 : decode cX4_meaning 86 = .ok (.ireturn, 1) := chk_nth ocX4_meaning_1 (k := 8) rfl
theorem dX4_meaning_87 : decode cX4_meaning 87 = .ok (.aload_n 0, 1) := chk_nth ocX4_meaning_1 (k := 9) rfl
theorem dX4_meaning_88 : decode cX4_meaning 88 = .ok (.getfield 33, 3) := chk_nth ocX4_meaning_1 (k := 10) rfl
theorem dX4_meaning_91 : decode cX4_meaning 91 = .ok (.ireturn, 1) := chk_nth ocX4_meaning_1 (k := 11) rfl
theorem dX4_meaning_92 : decode cX4_meaning 92 = .ok (.aload_n 0, 1) := chk_nth ocX4_meaning_1 (k := 12) rfl
theorem dX4_meaning_93 : decode cX4_meaning 93 = .ok (.getfield 39, 3) := chk_nth ocX4_meaning_1 (k := 13) rfl
theorem dX4_meaning_96 : decode cX4_meaning 96 = .ok (.ireturn, 1) := chk_nth ocX4_meaning_1 (k := 14) rfl
theorem dX4_meaning_97 : decode cX4_meaning 97 = .ok (.aload_n 0, 1) := chk_nth ocX4_meaning_1 (k := 15) rfl
theorem dX4_meaning_98 : decode cX4_meaning 98 = .ok (.getfield 23, 3) := chk_nth ocX4_meaning_1 (k := 16) rfl
theorem dX4_meaning_101 : decode cX4_meaning 101 = .ok (.ireturn, 1) := chk_nth ocX4_meaning_1 (k := 17) rfl
def tcX4_joined_0 : List (Instr × Nat) := [(.iload_n 0, 1)]
theorem ocX4_joined_0 : chk (cX4_joined.data.toList.drop 0) tcX4_joined_0 = true := by decide +kernel
theorem dX4_joined_0 : decode cX4_joined 0 = .ok (.iload_n 0, 1) := chk_nth ocX4_joined_0 (k := 0) rfl
theorem dX4_joined_1 : decode cX4_joined 1 = .ok (.lookupswitch 92 #[(60, 62), (61, 51), (62, 73), (1016, 84), (1017, 88)], 51) := by decide +kernel
def tcX4_joined_1 : List (Instr × Nat) := [(.iload_n 1, 1), (.iload_n 2, 1), (.if_icmp .ne 7, 3), (.iconst 1, 1), (.goto 4, 3), (.iconst 0, 1), (.ireturn, 1), (.iload_n 1, 1), (.iload_n 2, 1), (.if_icmp .ge 7, 3), (.iconst 1, 1), (.goto 4, 3), (.iconst 0, 1), (.ireturn, 1), (.iload_n 1, 1), (.iload_n 2, 1), (.if_icmp .le 7, 3), (.iconst 1, 1), (.goto 4, 3), (.iconst 0, 1), (.ireturn, 1), (.iload_n 1, 1), (.iload_n 2, 1), (.iand, 1)]
theorem ocX4_joined_1 : chk (cX4_joined.data.toList.drop 52) tcX4_joined_1 = true := by decide +kernel
theorem dX4_joined_52 : decode cX4_joined 52 = .ok (.iload_n 1, 1) := chk_nth ocX4_joined_1 (k := 0) rfl
theorem dX4_joined_53 : decode cX4_joined 53 = .ok (.iload_n 2, 1) := chk_nth ocX4_joined_1 (k := 1) rfl
theorem dX4_joined_54 : decode cX4_joined 54 = .ok (.if_icmp .ne 7, 3) := chk_nth ocX4_joined_1 (k := 2) rfl
theorem dX4_joined_57 : decode cX4_joined 57 = .ok (.iconst 1, 1) := chk_nth ocX4_joined_1 (k := 3) rfl
theorem dX4_joined_58 : decode cX4_joined 58 = .ok (.goto 4, 3) := chk_nth ocX4_joined_1 (k := 4) rfl
theorem dX4_joined_61 : decode cX4_joined 61 = .ok (.iconst 0, 1) := chk_nth ocX4_joined_1 (k := 5) rfl
theorem dX4_joined_62 : decode cX4_joined 62 = .ok (.ireturn, 1) := chk_nth ocX4_joined_1 (k := 6) rfl
theorem dX4_joined_63 : decode cX4_joined 63 = .ok (.iload_n 1, 1) := chk_nth ocX4_joined_1 (k := 7) rfl
theorem dX4_joined_64 : decode cX4_joined 64 = .ok (.iload_n 2, 1) := chk_nth ocX4_joined_1 (k := 8) rfl
theorem dX4_joined_65 : decode cX4_joined 65 = .ok (.if_icmp .ge 7, 3) := chk_nth ocX4_joined_1 (k := 9) rfl
theorem dX4_joined_68 : decode cX4_joined 68 = .ok (.iconst 1, 1) := chk_nth ocX4_joined_1 (k := 10) rfl
theorem dX4_joined_69 : decode cX4_joined 69 = .ok (.goto 4, 3) := chk_nth ocX4_joined_1 (k := 11) rfl
theorem dX4_joined_72 : decode cX4_joined 72 = .ok (.iconst 0, 1) := chk_nth ocX4_joined_1 (k := 12) rfl
theorem dX4_joined_73 : decode cX4_joined 73 = .ok (.ireturn, 1) := chk_nth ocX4_joined_1 (k := 13) rfl
theorem dX4_joined_74 : decode cX4_joined 74 = .ok (.iload_n 1, 1) := chk_nth ocX4_joined_1 (k := 14) rfl
theorem dX4_joined_75 : decode cX4_joined 75 = .ok (.iload_n 2, 1) := chk_nth ocX4_joined_1 (k := 15) rfl
theorem dX4_joined_76 : decode cX4_joined 76 = .ok (.if_icmp .le 7, 3) := chk_nth ocX4_joined_1 (k := 16) rfl
theorem dX4_joined_79 : decode cX4_joined 79 = .ok (.iconst 1, 1) := chk_nth ocX4_joined_1 (k := 17) rfl
theorem dX4_joined_80 : decode cX4_joined 80 = .ok (.goto 4, 3) := chk_nth ocX4_joined_1 (k := 18) rfl
theorem dX4_joined_83 : decode cX4_joined 83 = .ok (.iconst 0, 1) := chk_nth ocX4_joined_1 (k := 19) rfl
theorem dX4_joined_84 : decode cX4_joined 84 = .ok (.ireturn, 1) := chk_nth ocX4_joined_1 (k := 20) rfl
theorem dX4_joined_85 : decode cX4_joined 85 = .ok (.iload_n 1, 1) := chk_nth ocX4_joined_1 (k := 21) rfl
theorem dX4_joined_86 : decode cX4_joined 86 = .ok (.iload_n 2, 1) := chk_nth ocX4_joined_1 (k := 22) rfl
theorem dX4_joined_87 : decode cX4_joined 87 = .ok (.iand, 1) := chk_nth ocX4_joined_1 (k := 23) rfl
def tcX4_joined_2 : List (Instr × Nat) := [(.ireturn, 1), (.iload_n 1, 1), (.iload_n 2, 1), (.ior, 1), (.ireturn, 1), (.iload_n 1, 1), (.i2l, 1), (.iload_n 2, 1), (.i2l, 1), (.lmul, 1), (.lstore_n 3, 1), (.iload_n 0, 1), (.bipush 42, 2), (.if_icmp .eq 21, 3), (.iload_n 0, 1), (.bipush 43, 2), (.if_icmp .ne 10, 3), (.iload_n 1, 1), (.iload_n 2, 1), (.iadd, 1), (.i2l, 1), (.goto 7, 3), (.iload_n 1, 1), (.iload_n 2, 1)]
theorem ocX4_joined_2 : chk (cX4_joined.data.toList.drop 88) tcX4_joined_2 = true := by decide +kernel
theorem dX4_joined_88 : decode cX4_joined 88 = .ok (.ireturn, 1) := chk_nth ocX4_joined_2 (k := 0) rfl
theorem dX4_joined_89 : decode cX4_joined 89 = .ok (.iload_n 1, 1) := chk_nth ocX4_joined_2 (k := 1) rfl
theorem dX4_joined_90 : decode cX4_joined 90 = .ok (.iload_n 2, 1) := chk_nth ocX4_joined_2 (k := 2) rfl
theorem dX4_joined_91 : decode cX4_joined 91 = .ok (.ior, 1) := chk_nth ocX4_joined_2 (k := 3) rfl
theorem dX4_joined_92 : decode cX4_joined 92 = .ok (.ireturn, 1) := chk_nth ocX4_joined_2 (k := 4) rfl
theorem dX4_joined_93 : decode cX4_joined 93 = .ok (.iload_n 1, 1) := chk_nth ocX4_joined_2 (k := 5) rfl
theorem dX4_joined_94 : decode cX4_joined 94 = .ok (.i2l, 1) := chk_nth ocX4_joined_2 (k := 6) rfl
theorem dX4_joined_95 : decode cX4_joined 95 = .ok (.iload_n 2, 1) := chk_nth ocX4_joined_2 (k := 7) rfl
theorem dX4_joined_96 : decode cX4_joined 96 = .ok (.i2l, 1) := chk_nth ocX4_joined_2 (k := 8) rfl
theorem dX4_joined_97 : decode cX4_joined 97 = .ok (.lmul, 1) := chk_nth ocX4_joined_2 (k := 9) rfl
theorem dX4_joined_98 : decode cX4_joined 98 = .ok (.lstore_n 3, 1) := chk_nth ocX4_joined_2 (k := 10) rfl
theorem dX4_joined_99 : decode cX4_joined 99 = .ok (.iload_n 0, 1) := chk_nth ocX4_joined_2 (k := 11) rfl
theorem dX4_joined_100 : decode cX4_joined 100 = .ok (.bipush 42, 2) := chk_nth ocX4_joined_2 (k := 12) rfl
theorem dX4_joined_102 : decode cX4_joined 102 = .ok (.if_icmp .eq 21, 3) := chk_nth ocX4_joined_2 (k := 13) rfl
theorem dX4_joined_105 : decode cX4_joined 105 = .ok (.iload_n 0, 1) := chk_nth ocX4_joined_2 (k := 14) rfl
theorem dX4_joined_106 : decode cX4_joined 106 = .ok (.bipush 43, 2) := chk_nth ocX4_joined_2 (k := 15) rfl
theorem dX4_joined_108 : decode cX4_joined 108 = .ok (.if_icmp .ne 10, 3) := chk_nth ocX4_joined_2 (k := 16) rfl
theorem dX4_joined_111 : decode cX4_joined 111 = .ok (.iload_n 1, 1) := chk_nth ocX4_joined_2 (k := 17) rfl
theorem dX4_joined_112 : decode cX4_joined 112 = .ok (.iload_n 2, 1) := chk_nth ocX4_joined_2 (k := 18) rfl
theorem dX4_joined_113 : decode cX4_joined 113 = .ok (.iadd, 1) := chk_nth ocX4_joined_2 (k := 19) rfl
theorem dX4_joined_114 : decode cX4_joined 114 = .ok (.i2l, 1) := chk_nth ocX4_joined_2 (k := 20) rfl
theorem dX4_joined_115 : decode cX4_joined 115 = .ok (.goto 7, 3) := chk_nth ocX4_joined_2 (k := 21) rfl
theorem dX4_joined_118 : decode cX4_joined 118 = .ok (.iload_n 1, 1) := chk_nth ocX4_joined_2 (k := 22) rfl
theorem dX4_joined_119 : decode cX4_joined 119 = .ok (.iload_n 2, 1) := chk_nth ocX4_joined_2 (k := 23) rfl
def tcX4_joined_3 : List (Instr × Nat) := [(.isub, 1), (.i2l, 1), (.lstore_n 3, 1), (.lload_n 3, 1), (.ldc2_w 42, 3), (.lcmp, 1), (.ifCond .le 6, 3), (.ldc 44, 2), (.ireturn, 1), (.lload_n 3, 1), (.ldc2_w 45, 3), (.lcmp, 1), (.ifCond .ge 8, 3), (.ldc 47, 2), (.goto 5, 3), (.lload_n 3, 1), (.l2i, 1), (.ireturn, 1)]
theorem ocX4_joined_3 : chk (cX4_joined.data.toList.drop 120) tcX4_joined_3 = true := by decide +kernel
theorem dX4_joined_120 : decode cX4_joined 120 = .ok (.isub, 1) := chk_nth ocX4_joined_3 (k := 0) rfl
theorem dX4_joined_121 : decode cX4_joined 121 = .ok (.i2l, 1) := chk_nth ocX4_joined_3 (k := 1) rfl
theorem dX4_joined_122 : decode cX4_joined 122 = .ok (.lstore_n 3, 1) := chk_nth ocX4_joined_3 (k := 2) rfl
theorem dX4_joined_123 : decode cX4_joined 123 = .ok (.lload_n 3, 1) := chk_nth ocX4_joined_3 (k := 3) rfl
theorem dX4_joined_124 : decode cX4_joined 124 = .ok (.ldc2_w 42, 3) := chk_nth ocX4_joined_3 (k := 4) rfl
theorem dX4_joined_127 : decode cX4_joined 127 = .ok (.lcmp, 1) := chk_nth ocX4_joined_3 (k := 5) rfl
theorem dX4_joined_128 : decode cX4_joined 128 = .ok (.ifCond .le 6, 3) := chk_nth ocX4_joined_3 (k := 6) rfl
theorem dX4_joined_131 : decode cX4_joined 131 = .ok (.ldc 44, 2) := chk_nth ocX4_joined_3 (k := 7) rfl
theorem dX4_joined_133 : decode cX4_joined 133 = .ok (.ireturn, 1) := chk_nth ocX4_joined_3 (k := 8) rfl
theorem dX4_joined_134 : decode cX4_joined 134 = .ok (.lload_n 3, 1) := chk_nth ocX4_joined_3 (k := 9) rfl
theorem dX4_joined_135 : decode cX4_joined 135 = .ok (.ldc2_w 45, 3) := chk_nth ocX4_joined_3 (k := 10) rfl
theorem dX4_joined_138 : decode cX4_joined 138 = .ok (.lcmp, 1) := chk_nth ocX4_joined_3 (k := 11) rfl
theorem dX4_joined_139 : decode cX4_joined 139 = .ok (.ifCond .ge 8, 3) := chk_nth ocX4_joined_3 (k := 12) rfl
theorem dX4_joined_142 : decode cX4_joined 142 = .ok (.ldc 47, 2) := chk_nth ocX4_joined_3 (k := 13) rfl
theorem dX4_joined_144 : decode cX4_joined 144 = .ok (.goto 5, 3) := chk_nth ocX4_joined_3 (k := 14) rfl
theorem dX4_joined_147 : decode cX4_joined 147 = .ok (.lload_n 3, 1) := chk_nth ocX4_joined_3 (k := 15) rfl
theorem dX4_joined_148 : decode cX4_joined 148 = .ok (.l2i, 1) := chk_nth ocX4_joined_3 (k := 16) rfl
theorem dX4_joined_149 : decode cX4_joined 149 = .ok (.ireturn, 1) := chk_nth ocX4_joined_3 (k := 17) rfl
def tcX5_init_0 : List (Instr × Nat) := [(.aload_n 0, 1), (.invokespecial 3, 3), (.aload_n 0, 1), (.new 9, 3), (.dup, 1), (.invokespecial 11, 3), (.putfield 12, 3), (.aload_n 0, 1), (.sipush 960, 3), (.newarray .int, 2), (.putfield 18, 3), (.aload_n 0, 1), (.iconst (-1), 1), (.putfield 22, 3), (.aload_n 0, 1), (.aload_n 1, 1), (.putfield 26, 3), (.return_, 1)]
theorem ocX5_init_0 : chk (cX5_init.data.toList.drop 0) tcX5_init_0 = true := by decide +kernel
theorem dX5_init_0 : decode cX5_init 0 = .ok (.aload_n 0, 1) := chk_nth ocX5_init_0 (k := 0) rfl
theorem dX5_init_1 : decode cX5_init 1 = .ok (.invokespecial 3, 3) := chk_nth ocX5_init_0 (k := 1) rfl
theorem dX5_init_4 : decode cX5_init 4 = .ok (.aload_n 0, 1) := chk_nth ocX5_init_0 (k := 2) rfl
theorem dX5_init_5 : decode cX5_init 5 = .ok (.new 9, 3) := chk_nth ocX5_init_0 (k := 3) rfl
theorem dX5_init_8 : decode cX5_init 8 = .ok (.dup, 1) := chk_nth ocX5_init_0 (k := 4) rfl
theorem dX5_init_9 : decode cX5_init 9 = .ok (.invokespecial 11, 3) := chk_nth ocX5_init_0 (k := 5) rfl
theorem dX5_init_12 : decode cX5_init 12 = .ok (.putfield 12, 3) := chk_nth ocX5_init_0 (k := 6) rfl
theorem dX5_init_15 : decode cX5_init 15 = .ok (.aload_n 0, 1) := chk_nth ocX5_init_0 (k := 7) rfl
theorem dX5_init_16 : decode cX5_init 16 = .ok (.sipush 960, 3) := chk_nth ocX5_init_0 (k := 8) rfl
theorem dX5_init_19 : decode cX5_init 19 = .ok (.newarray .int, 2) := chk_nth ocX5_init_0 (k := 9) rfl
theorem dX5_init_21 : decode cX5_init 21 = .ok (.putfield 18, 3) := chk_nth ocX5_init_0 (k := 10) rfl
theorem dX5_init_24 : decode cX5_init 24 = .ok (.aload_n 0, 1) := chk_nth ocX5_init_0 (k := 11) rfl
theorem dX5_init_25 : decode cX5_init 25 = .ok (.iconst (-1), 1) := chk_nth ocX5_init_0 (k := 12) rfl
theorem dX5_init_26 : decode cX5_init 26 = .ok (.putfield 22, 3) := chk_nth ocX5_init_0 (k := 13) rfl
theorem dX5_init_29 : decode cX5_init 29 = .ok (.aload_n 0, 1) := chk_nth ocX5_init_0 (k := 14) rfl
theorem dX5_init_30 : decode cX5_init 30 = .ok (.aload_n 1, 1) := chk_nth ocX5_init_0 (k := 15) rfl
theorem dX5_init_31 : decode cX5_init 31 = .ok (.putfield 26, 3) := chk_nth ocX5_init_0 (k := 16) rfl
theorem dX5_init_34 : decode cX5_init 34 = .ok (.return_, 1) := chk_nth ocX5_init_0 (k := 17) rfl
def tcX5_forget_0 : List (Instr × Nat) := [(.aload_n 0, 1), (.iconst (-1), 1), (.putfield 22, 3), (.return_, 1)]
theorem ocX5_forget_0 : chk (cX5_forget.data.toList.drop 0) tcX5_forget_0 = true := by decide +kernel
theorem dX5_forget_0 : decode cX5_forget 0 = .ok (.aload_n 0, 1) := chk_nth ocX5_forget_0 (k := 0) rfl
theorem dX5_forget_1 : decode cX5_forget 1 = .ok (.iconst (-1), 1) := chk_nth ocX5_forget_0 (k := 1) rfl
theorem dX5_forget_2 : decode cX5_forget 2 = .ok (.putfield 22, 3) := chk_nth ocX5_forget_0 (k := 2) rfl
theorem dX5_forget_5 : decode cX5_forget 5 = .ok (.return_, 1) := chk_nth ocX5_forget_0 (k := 3) rfl
def tcX5_settle_0 : List (Instr × Nat) := [(.iload_n 1, 1), (.aload_n 0, 1), (.getfield 22, 3), (.if_icmp .eq 16, 3), (.aload_n 0, 1), (.getfield 18, 3), (.iconst 0, 1), (.invokestatic 30, 3), (.aload_n 0, 1), (.iload_n 1, 1), (.putfield 22, 3), (.return_, 1)]
theorem ocX5_settle_0 : chk (cX5_settle.data.toList.drop 0) tcX5_settle_0 = true := by decide +kernel
theorem dX5_settle_0 : decode cX5_settle 0 = .ok (.iload_n 1, 1) := chk_nth ocX5_settle_0 (k := 0) rfl
theorem dX5_settle_1 : decode cX5_settle 1 = .ok (.aload_n 0, 1) := chk_nth ocX5_settle_0 (k := 1) rfl
theorem dX5_settle_2 : decode cX5_settle 2 = .ok (.getfield 22, 3) := chk_nth ocX5_settle_0 (k := 2) rfl
theorem dX5_settle_5 : decode cX5_settle 5 = .ok (.if_icmp .eq 16, 3) := chk_nth ocX5_settle_0 (k := 3) rfl
theorem dX5_settle_8 : decode cX5_settle 8 = .ok (.aload_n 0, 1) := chk_nth ocX5_settle_0 (k := 4) rfl
theorem dX5_settle_9 : decode cX5_settle 9 = .ok (.getfield 18, 3) := chk_nth ocX5_settle_0 (k := 5) rfl
theorem dX5_settle_12 : decode cX5_settle 12 = .ok (.iconst 0, 1) := chk_nth ocX5_settle_0 (k := 6) rfl
theorem dX5_settle_13 : decode cX5_settle 13 = .ok (.invokestatic 30, 3) := chk_nth ocX5_settle_0 (k := 7) rfl
theorem dX5_settle_16 : decode cX5_settle 16 = .ok (.aload_n 0, 1) := chk_nth ocX5_settle_0 (k := 8) rfl
theorem dX5_settle_17 : decode cX5_settle 17 = .ok (.iload_n 1, 1) := chk_nth ocX5_settle_0 (k := 9) rfl
theorem dX5_settle_18 : decode cX5_settle 18 = .ok (.putfield 22, 3) := chk_nth ocX5_settle_0 (k := 10) rfl
theorem dX5_settle_21 : decode cX5_settle 21 = .ok (.return_, 1) := chk_nth ocX5_settle_0 (k := 11) rfl
def tcX5_after_0 : List (Instr × Nat) := [(.aload_n 0, 1), (.getfield 26, 3), (.iload_n 1, 1), (.invokevirtual 36, 3), (.ifCond .eq 21, 3), (.aload_n 0, 1), (.getfield 26, 3), (.iload_n 2, 1), (.invokevirtual 42, 3), (.ifCond .eq 10, 3), (.iload_n 3, 1), (.invokestatic 45, 3), (.ifCond .ne 5, 3), (.iconst (-1), 1), (.ireturn, 1), (.aload_n 0, 1), (.iload_n 2, 1), (.iload_n 3, 1), (.bipush 20, 2), (.idiv, 1), (.aload 4, 2), (.iload_n 2, 1), (.invokevirtual 48, 3), (.invokevirtual 54, 3)]
theorem ocX5_after_0 : chk (cX5_after.data.toList.drop 0) tcX5_after_0 = true := by decide +kernel
theorem dX5_after_0 : decode cX5_after 0 = .ok (.aload_n 0, 1) := chk_nth ocX5_after_0 (k := 0) rfl
theorem dX5_after_1 : decode cX5_after 1 = .ok (.getfield 26, 3) := chk_nth ocX5_after_0 (k := 1) rfl
theorem dX5_after_4 : decode cX5_after 4 = .ok (.iload_n 1, 1) := chk_nth ocX5_after_0 (k := 2) rfl
theorem dX5_after_5 : decode cX5_after 5 = .ok (.invokevirtual 36, 3) := chk_nth ocX5_after_0 (k := 3) rfl
theorem dX5_after_8 : decode cX5_after 8 = .ok (.ifCond .eq 21, 3) := chk_nth ocX5_after_0 (k := 4) rfl
theorem dX5_after_11 : decode cX5_after 11 = .ok (.aload_n 0, 1) := chk_nth ocX5_after_0 (k := 5) rfl
theorem dX5_after_12 : decode cX5_after 12 = .ok (.getfield 26, 3) := chk_nth ocX5_after_0 (k := 6) rfl
theorem dX5_after_15 : decode cX5_after 15 = .ok (.iload_n 2, 1) := chk_nth ocX5_after_0 (k := 7) rfl
theorem dX5_after_16 : decode cX5_after 16 = .ok (.invokevirtual 42, 3) := chk_nth ocX5_after_0 (k := 8) rfl
theorem dX5_after_19 : decode cX5_after 19 = .ok (.ifCond .eq 10, 3) := chk_nth ocX5_after_0 (k := 9) rfl
theorem dX5_after_22 : decode cX5_after 22 = .ok (.iload_n 3, 1) := chk_nth ocX5_after_0 (k := 10) rfl
theorem dX5_after_23 : decode cX5_after 23 = .ok (.invokestatic 45, 3) := chk_nth ocX5_after_0 (k := 11) rfl
theorem dX5_after_26 : decode cX5_after 26 = .ok (.ifCond .ne 5, 3) := chk_nth ocX5_after_0 (k := 12) rfl
theorem dX5_after_29 : decode cX5_after 29 = .ok (.iconst (-1), 1) := chk_nth ocX5_after_0 (k := 13) rfl
theorem dX5_after_30 : decode cX5_after 30 = .ok (.ireturn, 1) := chk_nth ocX5_after_0 (k := 14) rfl
theorem dX5_after_31 : decode cX5_after 31 = .ok (.aload_n 0, 1) := chk_nth ocX5_after_0 (k := 15) rfl
theorem dX5_after_32 : decode cX5_after 32 = .ok (.iload_n 2, 1) := chk_nth ocX5_after_0 (k := 16) rfl
theorem dX5_after_33 : decode cX5_after 33 = .ok (.iload_n 3, 1) := chk_nth ocX5_after_0 (k := 17) rfl
theorem dX5_after_34 : decode cX5_after 34 = .ok (.bipush 20, 2) := chk_nth ocX5_after_0 (k := 18) rfl
theorem dX5_after_36 : decode cX5_after 36 = .ok (.idiv, 1) := chk_nth ocX5_after_0 (k := 19) rfl
theorem dX5_after_37 : decode cX5_after 37 = .ok (.aload 4, 2) := chk_nth ocX5_after_0 (k := 20) rfl
theorem dX5_after_39 : decode cX5_after 39 = .ok (.iload_n 2, 1) := chk_nth ocX5_after_0 (k := 21) rfl
theorem dX5_after_40 : decode cX5_after 40 = .ok (.invokevirtual 48, 3) := chk_nth ocX5_after_0 (k := 22) rfl
theorem dX5_after_43 : decode cX5_after 43 = .ok (.invokevirtual 54, 3) := chk_nth ocX5_after_0 (k := 23) rfl
def tcX5_after_1 : List (Instr × Nat) := [(.istore 5, 2), (.iload 5, 2), (.iconst (-1), 1), (.if_icmp .ne 6, 3), (.bipush (-2), 2), (.ireturn, 1), (.aload_n 0, 1), (.iload_n 1, 1), (.iload_n 2, 1), (.iload 5, 2), (.iload_n 3, 1), (.bipush 20, 2), (.irem, 1), (.aload 4, 2), (.getfield 58, 3), (.invokevirtual 61, 3), (.istore 6, 2), (.iload 6, 2), (.ifCond .ge 6, 3), (.iload 6, 2), (.ireturn, 1), (.iload 5, 2), (.ifCond .ne 15, 3), (.aload_n 0, 1)]
theorem ocX5_after_1 : chk (cX5_after.data.toList.drop 46) tcX5_after_1 = true := by decide +kernel
theorem dX5_after_46 : decode cX5_after 46 = .ok (.istore 5, 2) := chk_nth ocX5_after_1 (k := 0) rfl
theorem dX5_after_48 : decode cX5_after 48 = .ok (.iload 5, 2) := chk_nth ocX5_after_1 (k := 1) rfl
theorem dX5_after_50 : decode cX5_after 50 = .ok (.iconst (-1), 1) := chk_nth ocX5_after_1 (k := 2) rfl
theorem dX5_after_51 : decode cX5_after 51 = .ok (.if_icmp .ne 6, 3) := chk_nth ocX5_after_1 (k := 3) rfl
theorem dX5_after_54 : decode cX5_after 54 = .ok (.bipush (-2), 2) := chk_nth ocX5_after_1 (k := 4) rfl
theorem dX5_after_56 : decode cX5_after 56 = .ok (.ireturn, 1) := chk_nth ocX5_after_1 (k := 5) rfl
theorem dX5_after_57 : decode cX5_after 57 = .ok (.aload_n 0, 1) := chk_nth ocX5_after_1 (k := 6) rfl
theorem dX5_after_58 : decode cX5_after 58 = .ok (.iload_n 1, 1) := chk_nth ocX5_after_1 (k := 7) rfl
theorem dX5_after_59 : decode cX5_after 59 = .ok (.iload_n 2, 1) := chk_nth ocX5_after_1 (k := 8) rfl
theorem dX5_after_60 : decode cX5_after 60 = .ok (.iload 5, 2) := chk_nth ocX5_after_1 (k := 9) rfl
theorem dX5_after_62 : decode cX5_after 62 = .ok (.iload_n 3, 1) := chk_nth ocX5_after_1 (k := 10) rfl
theorem dX5_after_63 : decode cX5_after 63 = .ok (.bipush 20, 2) := chk_nth ocX5_after_1 (k := 11) rfl
theorem dX5_after_65 : decode cX5_after 65 = .ok (.irem, 1) := chk_nth ocX5_after_1 (k := 12) rfl
theorem dX5_after_66 : decode cX5_after 66 = .ok (.aload 4, 2) := chk_nth ocX5_after_1 (k := 13) rfl
theorem dX5_after_68 : decode cX5_after 68 = .ok (.getfield 58, 3) := chk_nth ocX5_after_1 (k := 14) rfl
theorem dX5_after_71 : decode cX5_after 71 = .ok (.invokevirtual 61, 3) := chk_nth ocX5_after_1 (k := 15) rfl
theorem dX5_after_74 : decode cX5_after 74 = .ok (.istore 6, 2) := chk_nth ocX5_after_1 (k := 16) rfl
theorem dX5_after_76 : decode cX5_after 76 = .ok (.iload 6, 2) := chk_nth ocX5_after_1 (k := 17) rfl
theorem dX5_after_78 : decode cX5_after 78 = .ok (.ifCond .ge 6, 3) := chk_nth ocX5_after_1 (k := 18) rfl
theorem dX5_after_81 : decode cX5_after 81 = .ok (.iload 6, 2) := chk_nth ocX5_after_1 (k := 19) rfl
theorem dX5_after_83 : decode cX5_after 83 = .ok (.ireturn, 1) := chk_nth ocX5_after_1 (k := 20) rfl
theorem dX5_after_84 : decode cX5_after 84 = .ok (.iload 5, 2) := chk_nth ocX5_after_1 (k := 21) rfl
theorem dX5_after_86 : decode cX5_after 86 = .ok (.ifCond .ne 15, 3) := chk_nth ocX5_after_1 (k := 22) rfl
theorem dX5_after_89 : decode cX5_after 89 = .ok (.aload_n 0, 1) := chk_nth ocX5_after_1 (k := 23) rfl
def tcX5_after_2 : List (Instr × Nat) := [(.getfield 26, 3), (.getfield 65, 3), (.iload_n 2, 1), (.iaload, 1), (.goto 12, 3), (.aload_n 0, 1), (.getfield 26, 3), (.getfield 68, 3), (.iload_n 2, 1), (.iaload, 1), (.istore 7, 2), (.iload 7, 2), (.bipush 20, 2), (.imul, 1), (.iload 6, 2), (.iadd, 1), (.ireturn, 1)]
theorem ocX5_after_2 : chk (cX5_after.data.toList.drop 90) tcX5_after_2 = true := by decide +kernel
theorem dX5_after_90 : decode cX5_after 90 = .ok (.getfield 26, 3) := chk_nth ocX5_after_2 (k := 0) rfl
theorem dX5_after_93 : decode cX5_after 93 = .ok (.getfield 65, 3) := chk_nth ocX5_after_2 (k := 1) rfl
theorem dX5_after_96 : decode cX5_after 96 = .ok (.iload_n 2, 1) := chk_nth ocX5_after_2 (k := 2) rfl
theorem dX5_after_97 : decode cX5_after 97 = .ok (.iaload, 1) := chk_nth ocX5_after_2 (k := 3) rfl
theorem dX5_after_98 : decode cX5_after 98 = .ok (.goto 12, 3) := chk_nth ocX5_after_2 (k := 4) rfl
theorem dX5_after_101 : decode cX5_after 101 = .ok (.aload_n 0, 1) := chk_nth ocX5_after_2 (k := 5) rfl
theorem dX5_after_102 : decode cX5_after 102 = .ok (.getfield 26, 3) := chk_nth ocX5_after_2 (k := 6) rfl
theorem dX5_after_105 : decode cX5_after 105 = .ok (.getfield 68, 3) := chk_nth ocX5_after_2 (k := 7) rfl
theorem dX5_after_108 : decode cX5_after 108 = .ok (.iload_n 2, 1) := chk_nth ocX5_after_2 (k := 8) rfl
theorem dX5_after_109 : decode cX5_after 109 = .ok (.iaload, 1) := chk_nth ocX5_after_2 (k := 9) rfl
theorem dX5_after_110 : decode cX5_after 110 = .ok (.istore 7, 2) := chk_nth ocX5_after_2 (k := 10) rfl
theorem dX5_after_112 : decode cX5_after 112 = .ok (.iload 7, 2) := chk_nth ocX5_after_2 (k := 11) rfl
theorem dX5_after_114 : decode cX5_after 114 = .ok (.bipush 20, 2) := chk_nth ocX5_after_2 (k := 12) rfl
theorem dX5_after_116 : decode cX5_after 116 = .ok (.imul, 1) := chk_nth ocX5_after_2 (k := 13) rfl
theorem dX5_after_117 : decode cX5_after 117 = .ok (.iload 6, 2) := chk_nth ocX5_after_2 (k := 14) rfl
theorem dX5_after_119 : decode cX5_after 119 = .ok (.iadd, 1) := chk_nth ocX5_after_2 (k := 15) rfl
theorem dX5_after_120 : decode cX5_after 120 = .ok (.ireturn, 1) := chk_nth ocX5_after_2 (k := 16) rfl
def tcX5_sideOf_0 : List (Instr × Nat) := [(.iload_n 2, 1), (.aload_n 0, 1), (.getfield 26, 3), (.getfield 68, 3), (.iload_n 1, 1), (.iaload, 1), (.if_icmp .ne 18, 3), (.iload_n 3, 1), (.ifCond .eq 8, 3), (.iload_n 3, 1), (.iconst 2, 1), (.if_icmp .ne 7, 3), (.iconst 0, 1), (.goto 4, 3), (.iconst (-1), 1), (.ireturn, 1), (.iload_n 2, 1), (.aload_n 0, 1), (.getfield 26, 3), (.getfield 65, 3), (.iload_n 1, 1), (.iaload, 1), (.if_icmp .ne 19, 3), (.iload_n 3, 1)]
theorem ocX5_sideOf_0 : chk (cX5_sideOf.data.toList.drop 0) tcX5_sideOf_0 = true := by decide +kernel
theorem dX5_sideOf_0 : decode cX5_sideOf 0 = .ok (.iload_n 2, 1) := chk_nth ocX5_sideOf_0 (k := 0) rfl
theorem dX5_sideOf_1 : decode cX5_sideOf 1 = .ok (.aload_n 0, 1) := chk_nth ocX5_sideOf_0 (k := 1) rfl
theorem dX5_sideOf_2 : decode cX5_sideOf 2 = .ok (.getfield 26, 3) := chk_nth ocX5_sideOf_0 (k := 2) rfl
theorem dX5_sideOf_5 : decode cX5_sideOf 5 = .ok (.getfield 68, 3) := chk_nth ocX5_sideOf_0 (k := 3) rfl
theorem dX5_sideOf_8 : decode cX5_sideOf 8 = .ok (.iload_n 1, 1) := chk_nth ocX5_sideOf_0 (k := 4) rfl
theorem dX5_sideOf_9 : decode cX5_sideOf 9 = .ok (.iaload, 1) := chk_nth ocX5_sideOf_0 (k := 5) rfl
theorem dX5_sideOf_10 : decode cX5_sideOf 10 = .ok (.if_icmp .ne 18, 3) := chk_nth ocX5_sideOf_0 (k := 6) rfl
theorem dX5_sideOf_13 : decode cX5_sideOf 13 = .ok (.iload_n 3, 1) := chk_nth ocX5_sideOf_0 (k := 7) rfl
theorem dX5_sideOf_14 : decode cX5_sideOf 14 = .ok (.ifCond .eq 8, 3) := chk_nth ocX5_sideOf_0 (k := 8) rfl
theorem dX5_sideOf_17 : decode cX5_sideOf 17 = .ok (.iload_n 3, 1) := chk_nth ocX5_sideOf_0 (k := 9) rfl
theorem dX5_sideOf_18 : decode cX5_sideOf 18 = .ok (.iconst 2, 1) := chk_nth ocX5_sideOf_0 (k := 10) rfl
theorem dX5_sideOf_19 : decode cX5_sideOf 19 = .ok (.if_icmp .ne 7, 3) := chk_nth ocX5_sideOf_0 (k := 11) rfl
theorem dX5_sideOf_22 : decode cX5_sideOf 22 = .ok (.iconst 0, 1) := chk_nth ocX5_sideOf_0 (k := 12) rfl
theorem dX5_sideOf_23 : decode cX5_sideOf 23 = .ok (.goto 4, 3) := chk_nth ocX5_sideOf_0 (k := 13) rfl
theorem dX5_sideOf_26 : decode cX5_sideOf 26 = .ok (.iconst (-1), 1) := chk_nth ocX5_sideOf_0 (k := 14) rfl
theorem dX5_sideOf_27 : decode cX5_sideOf 27 = .ok (.ireturn, 1) := chk_nth ocX5_sideOf_0 (k := 15) rfl
theorem dX5_sideOf_28 : decode cX5_sideOf 28 = .ok (.iload_n 2, 1) := chk_nth ocX5_sideOf_0 (k := 16) rfl
theorem dX5_sideOf_29 : decode cX5_sideOf 29 = .ok (.aload_n 0, 1) := chk_nth ocX5_sideOf_0 (k := 17) rfl
theorem dX5_sideOf_30 : decode cX5_sideOf 30 = .ok (.getfield 26, 3) := chk_nth ocX5_sideOf_0 (k := 18) rfl
theorem dX5_sideOf_33 : decode cX5_sideOf 33 = .ok (.getfield 65, 3) := chk_nth ocX5_sideOf_0 (k := 19) rfl
theorem dX5_sideOf_36 : decode cX5_sideOf 36 = .ok (.iload_n 1, 1) := chk_nth ocX5_sideOf_0 (k := 20) rfl
theorem dX5_sideOf_37 : decode cX5_sideOf 37 = .ok (.iaload, 1) := chk_nth ocX5_sideOf_0 (k := 21) rfl
theorem dX5_sideOf_38 : decode cX5_sideOf 38 = .ok (.if_icmp .ne 19, 3) := chk_nth ocX5_sideOf_0 (k := 22) rfl
theorem dX5_sideOf_41 : decode cX5_sideOf 41 = .ok (.iload_n 3, 1) := chk_nth ocX5_sideOf_0 (k := 23) rfl
def tcX5_sideOf_1 : List (Instr × Nat) := [(.iconst 1, 1), (.if_icmp .eq 8, 3), (.iload_n 3, 1), (.iconst 2, 1), (.if_icmp .ne 7, 3), (.iconst 1, 1), (.goto 4, 3), (.iconst (-1), 1), (.ireturn, 1), (.iconst (-1), 1), (.ireturn, 1)]
theorem ocX5_sideOf_1 : chk (cX5_sideOf.data.toList.drop 42) tcX5_sideOf_1 = true := by decide +kernel
theorem dX5_sideOf_42 : decode cX5_sideOf 42 = .ok (.iconst 1, 1) := chk_nth ocX5_sideOf_1 (k := 0) rfl
theorem dX5_sideOf_43 : decode cX5_sideOf 43 = .ok (.if_icmp .eq 8, 3) := chk_nth ocX5_sideOf_1 (k := 1) rfl
theorem dX5_sideOf_46 : decode cX5_sideOf 46 = .ok (.iload_n 3, 1) := chk_nth ocX5_sideOf_1 (k := 2) rfl
theorem dX5_sideOf_47 : decode cX5_sideOf 47 = .ok (.iconst 2, 1) := chk_nth ocX5_sideOf_1 (k := 3) rfl
theorem dX5_sideOf_48 : decode cX5_sideOf 48 = .ok (.if_icmp .ne 7, 3) := chk_nth ocX5_sideOf_1 (k := 4) rfl
theorem dX5_sideOf_51 : decode cX5_sideOf 51 = .ok (.iconst 1, 1) := chk_nth ocX5_sideOf_1 (k := 5) rfl
theorem dX5_sideOf_52 : decode cX5_sideOf 52 = .ok (.goto 4, 3) := chk_nth ocX5_sideOf_1 (k := 6) rfl
theorem dX5_sideOf_55 : decode cX5_sideOf 55 = .ok (.iconst (-1), 1) := chk_nth ocX5_sideOf_1 (k := 7) rfl
theorem dX5_sideOf_56 : decode cX5_sideOf 56 = .ok (.ireturn, 1) := chk_nth ocX5_sideOf_1 (k := 8) rfl
theorem dX5_sideOf_57 : decode cX5_sideOf 57 = .ok (.iconst (-1), 1) := chk_nth ocX5_sideOf_1 (k := 9) rfl
theorem dX5_sideOf_58 : decode cX5_sideOf 58 = .ok (.ireturn, 1) := chk_nth ocX5_sideOf_1 (k := 10) rfl
def tcX5_leaving_0 : List (Instr × Nat) := [(.iconst 0, 1), (.istore_n 3, 1), (.iconst 0, 1), (.istore 4, 2), (.iload 4, 2), (.aload_n 0, 1), (.getfield 26, 3), (.getfield 71, 3), (.if_icmp .ge 40, 3), (.iload 4, 2), (.bipush 8, 2), (.if_icmp .ge 33, 3), (.aload_n 0, 1), (.iload 4, 2), (.iload_n 1, 1), (.aload_n 2, 1), (.iload 4, 2), (.invokevirtual 48, 3), (.invokevirtual 54, 3), (.iconst (-1), 1), (.if_icmp .eq 10, 3), (.iload_n 3, 1), (.iconst 1, 1), (.iload 4, 2)]
theorem ocX5_leaving_0 : chk (cX5_leaving.data.toList.drop 0) tcX5_leaving_0 = true := by decide +kernel
theorem dX5_leaving_0 : decode cX5_leaving 0 = .ok (.iconst 0, 1) := chk_nth ocX5_leaving_0 (k := 0) rfl
theorem dX5_leaving_1 : decode cX5_leaving 1 = .ok (.istore_n 3, 1) := chk_nth ocX5_leaving_0 (k := 1) rfl
theorem dX5_leaving_2 : decode cX5_leaving 2 = .ok (.iconst 0, 1) := chk_nth ocX5_leaving_0 (k := 2) rfl
theorem dX5_leaving_3 : decode cX5_leaving 3 = .ok (.istore 4, 2) := chk_nth ocX5_leaving_0 (k := 3) rfl
theorem dX5_leaving_5 : decode cX5_leaving 5 = .ok (.iload 4, 2) := chk_nth ocX5_leaving_0 (k := 4) rfl
theorem dX5_leaving_7 : decode cX5_leaving 7 = .ok (.aload_n 0, 1) := chk_nth ocX5_leaving_0 (k := 5) rfl
theorem dX5_leaving_8 : decode cX5_leaving 8 = .ok (.getfield 26, 3) := chk_nth ocX5_leaving_0 (k := 6) rfl
theorem dX5_leaving_11 : decode cX5_leaving 11 = .ok (.getfield 71, 3) := chk_nth ocX5_leaving_0 (k := 7) rfl
theorem dX5_leaving_14 : decode cX5_leaving 14 = .ok (.if_icmp .ge 40, 3) := chk_nth ocX5_leaving_0 (k := 8) rfl
theorem dX5_leaving_17 : decode cX5_leaving 17 = .ok (.iload 4, 2) := chk_nth ocX5_leaving_0 (k := 9) rfl
theorem dX5_leaving_19 : decode cX5_leaving 19 = .ok (.bipush 8, 2) := chk_nth ocX5_leaving_0 (k := 10) rfl
theorem dX5_leaving_21 : decode cX5_leaving 21 = .ok (.if_icmp .ge 33, 3) := chk_nth ocX5_leaving_0 (k := 11) rfl
theorem dX5_leaving_24 : decode cX5_leaving 24 = .ok (.aload_n 0, 1) := chk_nth ocX5_leaving_0 (k := 12) rfl
theorem dX5_leaving_25 : decode cX5_leaving 25 = .ok (.iload 4, 2) := chk_nth ocX5_leaving_0 (k := 13) rfl
theorem dX5_leaving_27 : decode cX5_leaving 27 = .ok (.iload_n 1, 1) := chk_nth ocX5_leaving_0 (k := 14) rfl
theorem dX5_leaving_28 : decode cX5_leaving 28 = .ok (.aload_n 2, 1) := chk_nth ocX5_leaving_0 (k := 15) rfl
theorem dX5_leaving_29 : decode cX5_leaving 29 = .ok (.iload 4, 2) := chk_nth ocX5_leaving_0 (k := 16) rfl
theorem dX5_leaving_31 : decode cX5_leaving 31 = .ok (.invokevirtual 48, 3) := chk_nth ocX5_leaving_0 (k := 17) rfl
theorem dX5_leaving_34 : decode cX5_leaving 34 = .ok (.invokevirtual 54, 3) := chk_nth ocX5_leaving_0 (k := 18) rfl
theorem dX5_leaving_37 : decode cX5_leaving 37 = .ok (.iconst (-1), 1) := chk_nth ocX5_leaving_0 (k := 19) rfl
theorem dX5_leaving_38 : decode cX5_leaving 38 = .ok (.if_icmp .eq 10, 3) := chk_nth ocX5_leaving_0 (k := 20) rfl
theorem dX5_leaving_41 : decode cX5_leaving 41 = .ok (.iload_n 3, 1) := chk_nth ocX5_leaving_0 (k := 21) rfl
theorem dX5_leaving_42 : decode cX5_leaving 42 = .ok (.iconst 1, 1) := chk_nth ocX5_leaving_0 (k := 22) rfl
theorem dX5_leaving_43 : decode cX5_leaving 43 = .ok (.iload 4, 2) := chk_nth ocX5_leaving_0 (k := 23) rfl
def tcX5_leaving_1 : List (Instr × Nat) := [(.ishl, 1), (.ior, 1), (.istore_n 3, 1), (.iinc 4 1, 3), (.goto (-46), 3), (.iload_n 3, 1), (.ireturn, 1)]
theorem ocX5_leaving_1 : chk (cX5_leaving.data.toList.drop 45) tcX5_leaving_1 = true := by decide +kernel
theorem dX5_leaving_45 : decode cX5_leaving 45 = .ok (.ishl, 1) := chk_nth ocX5_leaving_1 (k := 0) rfl
theorem dX5_leaving_46 : decode cX5_leaving 46 = .ok (.ior, 1) := chk_nth ocX5_leaving_1 (k := 1) rfl
theorem dX5_leaving_47 : decode cX5_leaving 47 = .ok (.istore_n 3, 1) := chk_nth ocX5_leaving_1 (k := 2) rfl
theorem dX5_leaving_48 : decode cX5_leaving 48 = .ok (.iinc 4 1, 3) := chk_nth ocX5_leaving_1 (k := 3) rfl
theorem dX5_leaving_51 : decode cX5_leaving 51 = .ok (.goto (-46), 3) := chk_nth ocX5_leaving_1 (k := 4) rfl
theorem dX5_leaving_54 : decode cX5_leaving 54 = .ok (.iload_n 3, 1) := chk_nth ocX5_leaving_1 (k := 5) rfl
theorem dX5_leaving_55 : decode cX5_leaving 55 = .ok (.ireturn, 1) := chk_nth ocX5_leaving_1 (k := 6) rfl
def tcX5_yearAfter_0 : List (Instr × Nat) := [(.iload_n 1, 1), (.bipush 8, 2), (.imul, 1), (.iload_n 2, 1), (.iadd, 1), (.iconst 2, 1), (.imul, 1), (.iload_n 3, 1), (.iadd, 1), (.bipush 20, 2), (.imul, 1), (.iload 4, 2), (.iadd, 1), (.istore 6, 2), (.iload 5, 2), (.aload_n 0, 1), (.getfield 22, 3), (.if_icmp .ne 22, 3), (.iload 6, 2), (.ifCond .lt 17, 3), (.iload 6, 2), (.aload_n 0, 1), (.getfield 18, 3), (.arraylength, 1)]
theorem ocX5_yearAfter_0 : chk (cX5_yearAfter.data.toList.drop 0) tcX5_yearAfter_0 = true := by decide +kernel
theorem dX5_yearAfter_0 : decode cX5_yearAfter 0 = .ok (.iload_n 1, 1) := chk_nth ocX5_yearAfter_0 (k := 0) rfl
theorem dX5_yearAfter_1 : decode cX5_yearAfter 1 = .ok (.bipush 8, 2) := chk_nth ocX5_yearAfter_0 (k := 1) rfl
theorem dX5_yearAfter_3 : decode cX5_yearAfter 3 = .ok (.imul, 1) := chk_nth ocX5_yearAfter_0 (k := 2) rfl
theorem dX5_yearAfter_4 : decode cX5_yearAfter 4 = .ok (.iload_n 2, 1) := chk_nth ocX5_yearAfter_0 (k := 3) rfl
theorem dX5_yearAfter_5 : decode cX5_yearAfter 5 = .ok (.iadd, 1) := chk_nth ocX5_yearAfter_0 (k := 4) rfl
theorem dX5_yearAfter_6 : decode cX5_yearAfter 6 = .ok (.iconst 2, 1) := chk_nth ocX5_yearAfter_0 (k := 5) rfl
theorem dX5_yearAfter_7 : decode cX5_yearAfter 7 = .ok (.imul, 1) := chk_nth ocX5_yearAfter_0 (k := 6) rfl
theorem dX5_yearAfter_8 : decode cX5_yearAfter 8 = .ok (.iload_n 3, 1) := chk_nth ocX5_yearAfter_0 (k := 7) rfl
theorem dX5_yearAfter_9 : decode cX5_yearAfter 9 = .ok (.iadd, 1) := chk_nth ocX5_yearAfter_0 (k := 8) rfl
theorem dX5_yearAfter_10 : decode cX5_yearAfter 10 = .ok (.bipush 20, 2) := chk_nth ocX5_yearAfter_0 (k := 9) rfl
theorem dX5_yearAfter_12 : decode cX5_yearAfter 12 = .ok (.imul, 1) := chk_nth ocX5_yearAfter_0 (k := 10) rfl
theorem dX5_yearAfter_13 : decode cX5_yearAfter 13 = .ok (.iload 4, 2) := chk_nth ocX5_yearAfter_0 (k := 11) rfl
theorem dX5_yearAfter_15 : decode cX5_yearAfter 15 = .ok (.iadd, 1) := chk_nth ocX5_yearAfter_0 (k := 12) rfl
theorem dX5_yearAfter_16 : decode cX5_yearAfter 16 = .ok (.istore 6, 2) := chk_nth ocX5_yearAfter_0 (k := 13) rfl
theorem dX5_yearAfter_18 : decode cX5_yearAfter 18 = .ok (.iload 5, 2) := chk_nth ocX5_yearAfter_0 (k := 14) rfl
theorem dX5_yearAfter_20 : decode cX5_yearAfter 20 = .ok (.aload_n 0, 1) := chk_nth ocX5_yearAfter_0 (k := 15) rfl
theorem dX5_yearAfter_21 : decode cX5_yearAfter 21 = .ok (.getfield 22, 3) := chk_nth ocX5_yearAfter_0 (k := 16) rfl
theorem dX5_yearAfter_24 : decode cX5_yearAfter 24 = .ok (.if_icmp .ne 22, 3) := chk_nth ocX5_yearAfter_0 (k := 17) rfl
theorem dX5_yearAfter_27 : decode cX5_yearAfter 27 = .ok (.iload 6, 2) := chk_nth ocX5_yearAfter_0 (k := 18) rfl
theorem dX5_yearAfter_29 : decode cX5_yearAfter 29 = .ok (.ifCond .lt 17, 3) := chk_nth ocX5_yearAfter_0 (k := 19) rfl
theorem dX5_yearAfter_32 : decode cX5_yearAfter 32 = .ok (.iload 6, 2) := chk_nth ocX5_yearAfter_0 (k := 20) rfl
theorem dX5_yearAfter_34 : decode cX5_yearAfter 34 = .ok (.aload_n 0, 1) := chk_nth ocX5_yearAfter_0 (k := 21) rfl
theorem dX5_yearAfter_35 : decode cX5_yearAfter 35 = .ok (.getfield 18, 3) := chk_nth ocX5_yearAfter_0 (k := 22) rfl
theorem dX5_yearAfter_38 : decode cX5_yearAfter 38 = .ok (.arraylength, 1) := chk_nth ocX5_yearAfter_0 (k := 23) rfl
def tcX5_yearAfter_1 : List (Instr × Nat) := [(.if_icmp .ge 7, 3), (.iconst 1, 1), (.goto 4, 3), (.iconst 0, 1), (.istore 7, 2), (.iload 7, 2), (.ifCond .eq 24, 3), (.aload_n 0, 1), (.getfield 18, 3), (.iload 6, 2), (.iaload, 1), (.ifCond .eq 14, 3), (.aload_n 0, 1), (.getfield 18, 3), (.iload 6, 2), (.iaload, 1), (.bipush 10, 2), (.isub, 1), (.ireturn, 1), (.aload_n 0, 1), (.getfield 12, 3), (.iload_n 1, 1), (.iload_n 2, 1), (.aload_n 0, 1)]
theorem ocX5_yearAfter_1 : chk (cX5_yearAfter.data.toList.drop 39) tcX5_yearAfter_1 = true := by decide +kernel
theorem dX5_yearAfter_39 : decode cX5_yearAfter 39 = .ok (.if_icmp .ge 7, 3) := chk_nth ocX5_yearAfter_1 (k := 0) rfl
theorem dX5_yearAfter_42 : decode cX5_yearAfter 42 = .ok (.iconst 1, 1) := chk_nth ocX5_yearAfter_1 (k := 1) rfl
theorem dX5_yearAfter_43 : decode cX5_yearAfter 43 = .ok (.goto 4, 3) := chk_nth ocX5_yearAfter_1 (k := 2) rfl
theorem dX5_yearAfter_46 : decode cX5_yearAfter 46 = .ok (.iconst 0, 1) := chk_nth ocX5_yearAfter_1 (k := 3) rfl
theorem dX5_yearAfter_47 : decode cX5_yearAfter 47 = .ok (.istore 7, 2) := chk_nth ocX5_yearAfter_1 (k := 4) rfl
theorem dX5_yearAfter_49 : decode cX5_yearAfter 49 = .ok (.iload 7, 2) := chk_nth ocX5_yearAfter_1 (k := 5) rfl
theorem dX5_yearAfter_51 : decode cX5_yearAfter 51 = .ok (.ifCond .eq 24, 3) := chk_nth ocX5_yearAfter_1 (k := 6) rfl
theorem dX5_yearAfter_54 : decode cX5_yearAfter 54 = .ok (.aload_n 0, 1) := chk_nth ocX5_yearAfter_1 (k := 7) rfl
theorem dX5_yearAfter_55 : decode cX5_yearAfter 55 = .ok (.getfield 18, 3) := chk_nth ocX5_yearAfter_1 (k := 8) rfl
theorem dX5_yearAfter_58 : decode cX5_yearAfter 58 = .ok (.iload 6, 2) := chk_nth ocX5_yearAfter_1 (k := 9) rfl
theorem dX5_yearAfter_60 : decode cX5_yearAfter 60 = .ok (.iaload, 1) := chk_nth ocX5_yearAfter_1 (k := 10) rfl
theorem dX5_yearAfter_61 : decode cX5_yearAfter 61 = .ok (.ifCond .eq 14, 3) := chk_nth ocX5_yearAfter_1 (k := 11) rfl
theorem dX5_yearAfter_64 : decode cX5_yearAfter 64 = .ok (.aload_n 0, 1) := chk_nth ocX5_yearAfter_1 (k := 12) rfl
theorem dX5_yearAfter_65 : decode cX5_yearAfter 65 = .ok (.getfield 18, 3) := chk_nth ocX5_yearAfter_1 (k := 13) rfl
theorem dX5_yearAfter_68 : decode cX5_yearAfter 68 = .ok (.iload 6, 2) := chk_nth ocX5_yearAfter_1 (k := 14) rfl
theorem dX5_yearAfter_70 : decode cX5_yearAfter 70 = .ok (.iaload, 1) := chk_nth ocX5_yearAfter_1 (k := 15) rfl
theorem dX5_yearAfter_71 : decode cX5_yearAfter 71 = .ok (.bipush 10, 2) := chk_nth ocX5_yearAfter_1 (k := 16) rfl
theorem dX5_yearAfter_73 : decode cX5_yearAfter 73 = .ok (.isub, 1) := chk_nth ocX5_yearAfter_1 (k := 17) rfl
theorem dX5_yearAfter_74 : decode cX5_yearAfter 74 = .ok (.ireturn, 1) := chk_nth ocX5_yearAfter_1 (k := 18) rfl
theorem dX5_yearAfter_75 : decode cX5_yearAfter 75 = .ok (.aload_n 0, 1) := chk_nth ocX5_yearAfter_1 (k := 19) rfl
theorem dX5_yearAfter_76 : decode cX5_yearAfter 76 = .ok (.getfield 12, 3) := chk_nth ocX5_yearAfter_1 (k := 20) rfl
theorem dX5_yearAfter_79 : decode cX5_yearAfter 79 = .ok (.iload_n 1, 1) := chk_nth ocX5_yearAfter_1 (k := 21) rfl
theorem dX5_yearAfter_80 : decode cX5_yearAfter 80 = .ok (.iload_n 2, 1) := chk_nth ocX5_yearAfter_1 (k := 22) rfl
theorem dX5_yearAfter_81 : decode cX5_yearAfter 81 = .ok (.aload_n 0, 1) := chk_nth ocX5_yearAfter_1 (k := 23) rfl
def tcX5_yearAfter_2 : List (Instr × Nat) := [(.getfield 26, 3), (.getfield 74, 3), (.iload_n 2, 1), (.iaload, 1), (.iload_n 3, 1), (.iload 4, 2), (.iload 5, 2), (.invokevirtual 77, 3), (.bipush (-3), 2), (.istore 8, 2), (.aload_n 0, 1), (.getfield 26, 3), (.getfield 81, 3), (.aload_n 0, 1), (.getfield 26, 3), (.getfield 84, 3), (.if_icmp .eq 34, 3), (.aload_n 0, 1), (.getfield 12, 3), (.aload_n 0, 1), (.getfield 26, 3), (.getfield 87, 3), (.aload_n 0, 1), (.getfield 26, 3)]
theorem ocX5_yearAfter_2 : chk (cX5_yearAfter.data.toList.drop 82) tcX5_yearAfter_2 = true := by decide +kernel
theorem dX5_yearAfter_82 : decode cX5_yearAfter 82 = .ok (.getfield 26, 3) := chk_nth ocX5_yearAfter_2 (k := 0) rfl
theorem dX5_yearAfter_85 : decode cX5_yearAfter 85 = .ok (.getfield 74, 3) := chk_nth ocX5_yearAfter_2 (k := 1) rfl
theorem dX5_yearAfter_88 : decode cX5_yearAfter 88 = .ok (.iload_n 2, 1) := chk_nth ocX5_yearAfter_2 (k := 2) rfl
theorem dX5_yearAfter_89 : decode cX5_yearAfter 89 = .ok (.iaload, 1) := chk_nth ocX5_yearAfter_2 (k := 3) rfl
theorem dX5_yearAfter_90 : decode cX5_yearAfter 90 = .ok (.iload_n 3, 1) := chk_nth ocX5_yearAfter_2 (k := 4) rfl
theorem dX5_yearAfter_91 : decode cX5_yearAfter 91 = .ok (.iload 4, 2) := chk_nth ocX5_yearAfter_2 (k := 5) rfl
theorem dX5_yearAfter_93 : decode cX5_yearAfter 93 = .ok (.iload 5, 2) := chk_nth ocX5_yearAfter_2 (k := 6) rfl
theorem dX5_yearAfter_95 : decode cX5_yearAfter 95 = .ok (.invokevirtual 77, 3) := chk_nth ocX5_yearAfter_2 (k := 7) rfl
theorem dX5_yearAfter_98 : decode cX5_yearAfter 98 = .ok (.bipush (-3), 2) := chk_nth ocX5_yearAfter_2 (k := 8) rfl
theorem dX5_yearAfter_100 : decode cX5_yearAfter 100 = .ok (.istore 8, 2) := chk_nth ocX5_yearAfter_2 (k := 9) rfl
theorem dX5_yearAfter_102 : decode cX5_yearAfter 102 = .ok (.aload_n 0, 1) := chk_nth ocX5_yearAfter_2 (k := 10) rfl
theorem dX5_yearAfter_103 : decode cX5_yearAfter 103 = .ok (.getfield 26, 3) := chk_nth ocX5_yearAfter_2 (k := 11) rfl
theorem dX5_yearAfter_106 : decode cX5_yearAfter 106 = .ok (.getfield 81, 3) := chk_nth ocX5_yearAfter_2 (k := 12) rfl
theorem dX5_yearAfter_109 : decode cX5_yearAfter 109 = .ok (.aload_n 0, 1) := chk_nth ocX5_yearAfter_2 (k := 13) rfl
theorem dX5_yearAfter_110 : decode cX5_yearAfter 110 = .ok (.getfield 26, 3) := chk_nth ocX5_yearAfter_2 (k := 14) rfl
theorem dX5_yearAfter_113 : decode cX5_yearAfter 113 = .ok (.getfield 84, 3) := chk_nth ocX5_yearAfter_2 (k := 15) rfl
theorem dX5_yearAfter_116 : decode cX5_yearAfter 116 = .ok (.if_icmp .eq 34, 3) := chk_nth ocX5_yearAfter_2 (k := 16) rfl
theorem dX5_yearAfter_119 : decode cX5_yearAfter 119 = .ok (.aload_n 0, 1) := chk_nth ocX5_yearAfter_2 (k := 17) rfl
theorem dX5_yearAfter_120 : decode cX5_yearAfter 120 = .ok (.getfield 12, 3) := chk_nth ocX5_yearAfter_2 (k := 18) rfl
theorem dX5_yearAfter_123 : decode cX5_yearAfter 123 = .ok (.aload_n 0, 1) := chk_nth ocX5_yearAfter_2 (k := 19) rfl
theorem dX5_yearAfter_124 : decode cX5_yearAfter 124 = .ok (.getfield 26, 3) := chk_nth ocX5_yearAfter_2 (k := 20) rfl
theorem dX5_yearAfter_127 : decode cX5_yearAfter 127 = .ok (.getfield 87, 3) := chk_nth ocX5_yearAfter_2 (k := 21) rfl
theorem dX5_yearAfter_130 : decode cX5_yearAfter 130 = .ok (.aload_n 0, 1) := chk_nth ocX5_yearAfter_2 (k := 22) rfl
theorem dX5_yearAfter_131 : decode cX5_yearAfter 131 = .ok (.getfield 26, 3) := chk_nth ocX5_yearAfter_2 (k := 23) rfl
def tcX5_yearAfter_3 : List (Instr × Nat) := [(.getfield 81, 3), (.aload_n 0, 1), (.getfield 26, 3), (.getfield 84, 3), (.invokevirtual 90, 3), (.ifCond .eq 101, 3), (.iload_n 3, 1), (.ifCond .ne 15, 3), (.aload_n 0, 1), (.getfield 26, 3), (.getfield 74, 3), (.iload_n 2, 1), (.iaload, 1), (.goto 13, 3), (.aload_n 0, 1), (.getfield 26, 3), (.getfield 74, 3), (.iload_n 2, 1), (.iaload, 1), (.ineg, 1), (.istore 9, 2), (.aload_n 0, 1), (.getfield 26, 3), (.getfield 94, 3)]
theorem ocX5_yearAfter_3 : chk (cX5_yearAfter.data.toList.drop 134) tcX5_yearAfter_3 = true := by decide +kernel
theorem dX5_yearAfter_134 : decode cX5_yearAfter 134 = .ok (.getfield 81, 3) := chk_nth ocX5_yearAfter_3 (k := 0) rfl
theorem dX5_yearAfter_137 : decode cX5_yearAfter 137 = .ok (.aload_n 0, 1) := chk_nth ocX5_yearAfter_3 (k := 1) rfl
theorem dX5_yearAfter_138 : decode cX5_yearAfter 138 = .ok (.getfield 26, 3) := chk_nth ocX5_yearAfter_3 (k := 2) rfl
theorem dX5_yearAfter_141 : decode cX5_yearAfter 141 = .ok (.getfield 84, 3) := chk_nth ocX5_yearAfter_3 (k := 3) rfl
theorem dX5_yearAfter_144 : decode cX5_yearAfter 144 = .ok (.invokevirtual 90, 3) := chk_nth ocX5_yearAfter_3 (k := 4) rfl
theorem dX5_yearAfter_147 : decode cX5_yearAfter 147 = .ok (.ifCond .eq 101, 3) := chk_nth ocX5_yearAfter_3 (k := 5) rfl
theorem dX5_yearAfter_150 : decode cX5_yearAfter 150 = .ok (.iload_n 3, 1) := chk_nth ocX5_yearAfter_3 (k := 6) rfl
theorem dX5_yearAfter_151 : decode cX5_yearAfter 151 = .ok (.ifCond .ne 15, 3) := chk_nth ocX5_yearAfter_3 (k := 7) rfl
theorem dX5_yearAfter_154 : decode cX5_yearAfter 154 = .ok (.aload_n 0, 1) := chk_nth ocX5_yearAfter_3 (k := 8) rfl
theorem dX5_yearAfter_155 : decode cX5_yearAfter 155 = .ok (.getfield 26, 3) := chk_nth ocX5_yearAfter_3 (k := 9) rfl
theorem dX5_yearAfter_158 : decode cX5_yearAfter 158 = .ok (.getfield 74, 3) := chk_nth ocX5_yearAfter_3 (k := 10) rfl
theorem dX5_yearAfter_161 : decode cX5_yearAfter 161 = .ok (.iload_n 2, 1) := chk_nth ocX5_yearAfter_3 (k := 11) rfl
theorem dX5_yearAfter_162 : decode cX5_yearAfter 162 = .ok (.iaload, 1) := chk_nth ocX5_yearAfter_3 (k := 12) rfl
theorem dX5_yearAfter_163 : decode cX5_yearAfter 163 = .ok (.goto 13, 3) := chk_nth ocX5_yearAfter_3 (k := 13) rfl
theorem dX5_yearAfter_166 : decode cX5_yearAfter 166 = .ok (.aload_n 0, 1) := chk_nth ocX5_yearAfter_3 (k := 14) rfl
theorem dX5_yearAfter_167 : decode cX5_yearAfter 167 = .ok (.getfield 26, 3) := chk_nth ocX5_yearAfter_3 (k := 15) rfl
theorem dX5_yearAfter_170 : decode cX5_yearAfter 170 = .ok (.getfield 74, 3) := chk_nth ocX5_yearAfter_3 (k := 16) rfl
theorem dX5_yearAfter_173 : decode cX5_yearAfter 173 = .ok (.iload_n 2, 1) := chk_nth ocX5_yearAfter_3 (k := 17) rfl
theorem dX5_yearAfter_174 : decode cX5_yearAfter 174 = .ok (.iaload, 1) := chk_nth ocX5_yearAfter_3 (k := 18) rfl
theorem dX5_yearAfter_175 : decode cX5_yearAfter 175 = .ok (.ineg, 1) := chk_nth ocX5_yearAfter_3 (k := 19) rfl
theorem dX5_yearAfter_176 : decode cX5_yearAfter 176 = .ok (.istore 9, 2) := chk_nth ocX5_yearAfter_3 (k := 20) rfl
theorem dX5_yearAfter_178 : decode cX5_yearAfter 178 = .ok (.aload_n 0, 1) := chk_nth ocX5_yearAfter_3 (k := 21) rfl
theorem dX5_yearAfter_179 : decode cX5_yearAfter 179 = .ok (.getfield 26, 3) := chk_nth ocX5_yearAfter_3 (k := 22) rfl
theorem dX5_yearAfter_182 : decode cX5_yearAfter 182 = .ok (.getfield 94, 3) := chk_nth ocX5_yearAfter_3 (k := 23) rfl
def tcX5_yearAfter_4 : List (Instr × Nat) := [(.aload_n 0, 1), (.getfield 26, 3), (.getfield 97, 3), (.if_icmp .eq 33, 3), (.aload_n 0, 1), (.getfield 12, 3), (.aload_n 0, 1), (.getfield 26, 3), (.getfield 87, 3), (.aload_n 0, 1), (.getfield 26, 3), (.getfield 94, 3), (.aload_n 0, 1), (.getfield 26, 3), (.getfield 97, 3), (.invokevirtual 90, 3), (.istore 9, 2), (.iload 4, 2), (.iload 9, 2), (.iadd, 1), (.invokestatic 100, 3), (.ifCond .eq 11, 3), (.iload 4, 2), (.iload 9, 2)]
theorem ocX5_yearAfter_4 : chk (cX5_yearAfter.data.toList.drop 185) tcX5_yearAfter_4 = true := by decide +kernel
theorem dX5_yearAfter_185 : decode cX5_yearAfter 185 = .ok (.aload_n 0, 1) := chk_nth ocX5_yearAfter_4 (k := 0) rfl
theorem dX5_yearAfter_186 : decode cX5_yearAfter 186 = .ok (.getfield 26, 3) := chk_nth ocX5_yearAfter_4 (k := 1) rfl
theorem dX5_yearAfter_189 : decode cX5_yearAfter 189 = .ok (.getfield 97, 3) := chk_nth ocX5_yearAfter_4 (k := 2) rfl
theorem dX5_yearAfter_192 : decode cX5_yearAfter 192 = .ok (.if_icmp .eq 33, 3) := chk_nth ocX5_yearAfter_4 (k := 3) rfl
theorem dX5_yearAfter_195 : decode cX5_yearAfter 195 = .ok (.aload_n 0, 1) := chk_nth ocX5_yearAfter_4 (k := 4) rfl
theorem dX5_yearAfter_196 : decode cX5_yearAfter 196 = .ok (.getfield 12, 3) := chk_nth ocX5_yearAfter_4 (k := 5) rfl
theorem dX5_yearAfter_199 : decode cX5_yearAfter 199 = .ok (.aload_n 0, 1) := chk_nth ocX5_yearAfter_4 (k := 6) rfl
theorem dX5_yearAfter_200 : decode cX5_yearAfter 200 = .ok (.getfield 26, 3) := chk_nth ocX5_yearAfter_4 (k := 7) rfl
theorem dX5_yearAfter_203 : decode cX5_yearAfter 203 = .ok (.getfield 87, 3) := chk_nth ocX5_yearAfter_4 (k := 8) rfl
theorem dX5_yearAfter_206 : decode cX5_yearAfter 206 = .ok (.aload_n 0, 1) := chk_nth ocX5_yearAfter_4 (k := 9) rfl
theorem dX5_yearAfter_207 : decode cX5_yearAfter 207 = .ok (.getfield 26, 3) := chk_nth ocX5_yearAfter_4 (k := 10) rfl
theorem dX5_yearAfter_210 : decode cX5_yearAfter 210 = .ok (.getfield 94, 3) := chk_nth ocX5_yearAfter_4 (k := 11) rfl
theorem dX5_yearAfter_213 : decode cX5_yearAfter 213 = .ok (.aload_n 0, 1) := chk_nth ocX5_yearAfter_4 (k := 12) rfl
theorem dX5_yearAfter_214 : decode cX5_yearAfter 214 = .ok (.getfield 26, 3) := chk_nth ocX5_yearAfter_4 (k := 13) rfl
theorem dX5_yearAfter_217 : decode cX5_yearAfter 217 = .ok (.getfield 97, 3) := chk_nth ocX5_yearAfter_4 (k := 14) rfl
theorem dX5_yearAfter_220 : decode cX5_yearAfter 220 = .ok (.invokevirtual 90, 3) := chk_nth ocX5_yearAfter_4 (k := 15) rfl
theorem dX5_yearAfter_223 : decode cX5_yearAfter 223 = .ok (.istore 9, 2) := chk_nth ocX5_yearAfter_4 (k := 16) rfl
theorem dX5_yearAfter_225 : decode cX5_yearAfter 225 = .ok (.iload 4, 2) := chk_nth ocX5_yearAfter_4 (k := 17) rfl
theorem dX5_yearAfter_227 : decode cX5_yearAfter 227 = .ok (.iload 9, 2) := chk_nth ocX5_yearAfter_4 (k := 18) rfl
theorem dX5_yearAfter_229 : decode cX5_yearAfter 229 = .ok (.iadd, 1) := chk_nth ocX5_yearAfter_4 (k := 19) rfl
theorem dX5_yearAfter_230 : decode cX5_yearAfter 230 = .ok (.invokestatic 100, 3) := chk_nth ocX5_yearAfter_4 (k := 20) rfl
theorem dX5_yearAfter_233 : decode cX5_yearAfter 233 = .ok (.ifCond .eq 11, 3) := chk_nth ocX5_yearAfter_4 (k := 21) rfl
theorem dX5_yearAfter_236 : decode cX5_yearAfter 236 = .ok (.iload 4, 2) := chk_nth ocX5_yearAfter_4 (k := 22) rfl
theorem dX5_yearAfter_238 : decode cX5_yearAfter 238 = .ok (.iload 9, 2) := chk_nth ocX5_yearAfter_4 (k := 23) rfl
def tcX5_yearAfter_5 : List (Instr × Nat) := [(.iadd, 1), (.goto 5, 3), (.bipush (-4), 2), (.istore 8, 2), (.iload 7, 2), (.ifCond .eq 15, 3), (.aload_n 0, 1), (.getfield 18, 3), (.iload 6, 2), (.iload 8, 2), (.bipush 10, 2), (.iadd, 1), (.iastore, 1), (.iload 8, 2), (.ireturn, 1)]
theorem ocX5_yearAfter_5 : chk (cX5_yearAfter.data.toList.drop 240) tcX5_yearAfter_5 = true := by decide +kernel
theorem dX5_yearAfter_240 : decode cX5_yearAfter 240 = .ok (.iadd, 1) := chk_nth ocX5_yearAfter_5 (k := 0) rfl
theorem dX5_yearAfter_241 : decode cX5_yearAfter 241 = .ok (.goto 5, 3) := chk_nth ocX5_yearAfter_5 (k := 1) rfl
theorem dX5_yearAfter_244 : decode cX5_yearAfter 244 = .ok (.bipush (-4), 2) := chk_nth ocX5_yearAfter_5 (k := 2) rfl
theorem dX5_yearAfter_246 : decode cX5_yearAfter 246 = .ok (.istore 8, 2) := chk_nth ocX5_yearAfter_5 (k := 3) rfl
theorem dX5_yearAfter_248 : decode cX5_yearAfter 248 = .ok (.iload 7, 2) := chk_nth ocX5_yearAfter_5 (k := 4) rfl
theorem dX5_yearAfter_250 : decode cX5_yearAfter 250 = .ok (.ifCond .eq 15, 3) := chk_nth ocX5_yearAfter_5 (k := 5) rfl
theorem dX5_yearAfter_253 : decode cX5_yearAfter 253 = .ok (.aload_n 0, 1) := chk_nth ocX5_yearAfter_5 (k := 6) rfl
theorem dX5_yearAfter_254 : decode cX5_yearAfter 254 = .ok (.getfield 18, 3) := chk_nth ocX5_yearAfter_5 (k := 7) rfl
theorem dX5_yearAfter_257 : decode cX5_yearAfter 257 = .ok (.iload 6, 2) := chk_nth ocX5_yearAfter_5 (k := 8) rfl
theorem dX5_yearAfter_259 : decode cX5_yearAfter 259 = .ok (.iload 8, 2) := chk_nth ocX5_yearAfter_5 (k := 9) rfl
theorem dX5_yearAfter_261 : decode cX5_yearAfter 261 = .ok (.bipush 10, 2) := chk_nth ocX5_yearAfter_5 (k := 10) rfl
theorem dX5_yearAfter_263 : decode cX5_yearAfter 263 = .ok (.iadd, 1) := chk_nth ocX5_yearAfter_5 (k := 11) rfl
theorem dX5_yearAfter_264 : decode cX5_yearAfter 264 = .ok (.iastore, 1) := chk_nth ocX5_yearAfter_5 (k := 12) rfl
theorem dX5_yearAfter_265 : decode cX5_yearAfter 265 = .ok (.iload 8, 2) := chk_nth ocX5_yearAfter_5 (k := 13) rfl
theorem dX5_yearAfter_267 : decode cX5_yearAfter 267 = .ok (.ireturn, 1) := chk_nth ocX5_yearAfter_5 (k := 14) rfl
def tcX6_init_0 : List (Instr × Nat) := [(.aload_n 0, 1), (.invokespecial 3, 3), (.aload_n 0, 1), (.bipush 8, 2), (.newarray .int, 2), (.putfield 9, 3), (.aload_n 0, 1), (.iconst 3, 1), (.newarray .int, 2), (.putfield 15, 3), (.aload_n 0, 1), (.iconst 3, 1), (.newarray .int, 2), (.putfield 18, 3), (.return_, 1)]
theorem ocX6_init_0 : chk (cX6_init.data.toList.drop 0) tcX6_init_0 = true := by decide +kernel
theorem dX6_init_0 : decode cX6_init 0 = .ok (.aload_n 0, 1) := chk_nth ocX6_init_0 (k := 0) rfl
theorem dX6_init_1 : decode cX6_init 1 = .ok (.invokespecial 3, 3) := chk_nth ocX6_init_0 (k := 1) rfl
theorem dX6_init_4 : decode cX6_init 4 = .ok (.aload_n 0, 1) := chk_nth ocX6_init_0 (k := 2) rfl
theorem dX6_init_5 : decode cX6_init 5 = .ok (.bipush 8, 2) := chk_nth ocX6_init_0 (k := 3) rfl
theorem dX6_init_7 : decode cX6_init 7 = .ok (.newarray .int, 2) := chk_nth ocX6_init_0 (k := 4) rfl
theorem dX6_init_9 : decode cX6_init 9 = .ok (.putfield 9, 3) := chk_nth ocX6_init_0 (k := 5) rfl
theorem dX6_init_12 : decode cX6_init 12 = .ok (.aload_n 0, 1) := chk_nth ocX6_init_0 (k := 6) rfl
theorem dX6_init_13 : decode cX6_init 13 = .ok (.iconst 3, 1) := chk_nth ocX6_init_0 (k := 7) rfl
theorem dX6_init_14 : decode cX6_init 14 = .ok (.newarray .int, 2) := chk_nth ocX6_init_0 (k := 8) rfl
theorem dX6_init_16 : decode cX6_init 16 = .ok (.putfield 15, 3) := chk_nth ocX6_init_0 (k := 9) rfl
theorem dX6_init_19 : decode cX6_init 19 = .ok (.aload_n 0, 1) := chk_nth ocX6_init_0 (k := 10) rfl
theorem dX6_init_20 : decode cX6_init 20 = .ok (.iconst 3, 1) := chk_nth ocX6_init_0 (k := 11) rfl
theorem dX6_init_21 : decode cX6_init 21 = .ok (.newarray .int, 2) := chk_nth ocX6_init_0 (k := 12) rfl
theorem dX6_init_23 : decode cX6_init 23 = .ok (.putfield 18, 3) := chk_nth ocX6_init_0 (k := 13) rfl
theorem dX6_init_26 : decode cX6_init 26 = .ok (.return_, 1) := chk_nth ocX6_init_0 (k := 14) rfl
def tcX6_copyOf_0 : List (Instr × Nat) := [(.aload_n 1, 1), (.getfield 9, 3), (.iconst 0, 1), (.aload_n 0, 1), (.getfield 9, 3), (.iconst 0, 1), (.bipush 8, 2), (.invokestatic 21, 3), (.aload_n 1, 1), (.getfield 15, 3), (.iconst 0, 1), (.aload_n 0, 1), (.getfield 15, 3), (.iconst 0, 1), (.iconst 3, 1), (.invokestatic 21, 3), (.aload_n 1, 1), (.getfield 18, 3), (.iconst 0, 1), (.aload_n 0, 1), (.getfield 18, 3), (.iconst 0, 1), (.iconst 3, 1), (.invokestatic 21, 3)]
theorem ocX6_copyOf_0 : chk (cX6_copyOf.data.toList.drop 0) tcX6_copyOf_0 = true := by decide +kernel
theorem dX6_copyOf_0 : decode cX6_copyOf 0 = .ok (.aload_n 1, 1) := chk_nth ocX6_copyOf_0 (k := 0) rfl
theorem dX6_copyOf_1 : decode cX6_copyOf 1 = .ok (.getfield 9, 3) := chk_nth ocX6_copyOf_0 (k := 1) rfl
theorem dX6_copyOf_4 : decode cX6_copyOf 4 = .ok (.iconst 0, 1) := chk_nth ocX6_copyOf_0 (k := 2) rfl
theorem dX6_copyOf_5 : decode cX6_copyOf 5 = .ok (.aload_n 0, 1) := chk_nth ocX6_copyOf_0 (k := 3) rfl
theorem dX6_copyOf_6 : decode cX6_copyOf 6 = .ok (.getfield 9, 3) := chk_nth ocX6_copyOf_0 (k := 4) rfl
theorem dX6_copyOf_9 : decode cX6_copyOf 9 = .ok (.iconst 0, 1) := chk_nth ocX6_copyOf_0 (k := 5) rfl
theorem dX6_copyOf_10 : decode cX6_copyOf 10 = .ok (.bipush 8, 2) := chk_nth ocX6_copyOf_0 (k := 6) rfl
theorem dX6_copyOf_12 : decode cX6_copyOf 12 = .ok (.invokestatic 21, 3) := chk_nth ocX6_copyOf_0 (k := 7) rfl
theorem dX6_copyOf_15 : decode cX6_copyOf 15 = .ok (.aload_n 1, 1) := chk_nth ocX6_copyOf_0 (k := 8) rfl
theorem dX6_copyOf_16 : decode cX6_copyOf 16 = .ok (.getfield 15, 3) := chk_nth ocX6_copyOf_0 (k := 9) rfl
theorem dX6_copyOf_19 : decode cX6_copyOf 19 = .ok (.iconst 0, 1) := chk_nth ocX6_copyOf_0 (k := 10) rfl
theorem dX6_copyOf_20 : decode cX6_copyOf 20 = .ok (.aload_n 0, 1) := chk_nth ocX6_copyOf_0 (k := 11) rfl
theorem dX6_copyOf_21 : decode cX6_copyOf 21 = .ok (.getfield 15, 3) := chk_nth ocX6_copyOf_0 (k := 12) rfl
theorem dX6_copyOf_24 : decode cX6_copyOf 24 = .ok (.iconst 0, 1) := chk_nth ocX6_copyOf_0 (k := 13) rfl
theorem dX6_copyOf_25 : decode cX6_copyOf 25 = .ok (.iconst 3, 1) := chk_nth ocX6_copyOf_0 (k := 14) rfl
theorem dX6_copyOf_26 : decode cX6_copyOf 26 = .ok (.invokestatic 21, 3) := chk_nth ocX6_copyOf_0 (k := 15) rfl
theorem dX6_copyOf_29 : decode cX6_copyOf 29 = .ok (.aload_n 1, 1) := chk_nth ocX6_copyOf_0 (k := 16) rfl
theorem dX6_copyOf_30 : decode cX6_copyOf 30 = .ok (.getfield 18, 3) := chk_nth ocX6_copyOf_0 (k := 17) rfl
theorem dX6_copyOf_33 : decode cX6_copyOf 33 = .ok (.iconst 0, 1) := chk_nth ocX6_copyOf_0 (k := 18) rfl
theorem dX6_copyOf_34 : decode cX6_copyOf 34 = .ok (.aload_n 0, 1) := chk_nth ocX6_copyOf_0 (k := 19) rfl
theorem dX6_copyOf_35 : decode cX6_copyOf 35 = .ok (.getfield 18, 3) := chk_nth ocX6_copyOf_0 (k := 20) rfl
theorem dX6_copyOf_38 : decode cX6_copyOf 38 = .ok (.iconst 0, 1) := chk_nth ocX6_copyOf_0 (k := 21) rfl
theorem dX6_copyOf_39 : decode cX6_copyOf 39 = .ok (.iconst 3, 1) := chk_nth ocX6_copyOf_0 (k := 22) rfl
theorem dX6_copyOf_40 : decode cX6_copyOf 40 = .ok (.invokestatic 21, 3) := chk_nth ocX6_copyOf_0 (k := 23) rfl
def tcX6_copyOf_1 : List (Instr × Nat) := [(.aload_n 0, 1), (.aload_n 1, 1), (.getfield 27, 3), (.putfield 27, 3), (.return_, 1)]
theorem ocX6_copyOf_1 : chk (cX6_copyOf.data.toList.drop 43) tcX6_copyOf_1 = true := by decide +kernel
theorem dX6_copyOf_43 : decode cX6_copyOf 43 = .ok (.aload_n 0, 1) := chk_nth ocX6_copyOf_1 (k := 0) rfl
theorem dX6_copyOf_44 : decode cX6_copyOf 44 = .ok (.aload_n 1, 1) := chk_nth ocX6_copyOf_1 (k := 1) rfl
theorem dX6_copyOf_45 : decode cX6_copyOf 45 = .ok (.getfield 27, 3) := chk_nth ocX6_copyOf_1 (k := 2) rfl
theorem dX6_copyOf_48 : decode cX6_copyOf 48 = .ok (.putfield 27, 3) := chk_nth ocX6_copyOf_1 (k := 3) rfl
theorem dX6_copyOf_51 : decode cX6_copyOf 51 = .ok (.return_, 1) := chk_nth ocX6_copyOf_1 (k := 4) rfl
def tcX6_clear_0 : List (Instr × Nat) := [(.aload_n 0, 1), (.getfield 9, 3), (.iconst 0, 1), (.invokestatic 31, 3), (.aload_n 0, 1), (.getfield 15, 3), (.iconst 0, 1), (.invokestatic 31, 3), (.aload_n 0, 1), (.getfield 18, 3), (.iconst 0, 1), (.invokestatic 31, 3), (.aload_n 0, 1), (.iconst 0, 1), (.putfield 27, 3), (.return_, 1)]
theorem ocX6_clear_0 : chk (cX6_clear.data.toList.drop 0) tcX6_clear_0 = true := by decide +kernel
theorem dX6_clear_0 : decode cX6_clear 0 = .ok (.aload_n 0, 1) := chk_nth ocX6_clear_0 (k := 0) rfl
theorem dX6_clear_1 : decode cX6_clear 1 = .ok (.getfield 9, 3) := chk_nth ocX6_clear_0 (k := 1) rfl
theorem dX6_clear_4 : decode cX6_clear 4 = .ok (.iconst 0, 1) := chk_nth ocX6_clear_0 (k := 2) rfl
theorem dX6_clear_5 : decode cX6_clear 5 = .ok (.invokestatic 31, 3) := chk_nth ocX6_clear_0 (k := 3) rfl
theorem dX6_clear_8 : decode cX6_clear 8 = .ok (.aload_n 0, 1) := chk_nth ocX6_clear_0 (k := 4) rfl
theorem dX6_clear_9 : decode cX6_clear 9 = .ok (.getfield 15, 3) := chk_nth ocX6_clear_0 (k := 5) rfl
theorem dX6_clear_12 : decode cX6_clear 12 = .ok (.iconst 0, 1) := chk_nth ocX6_clear_0 (k := 6) rfl
theorem dX6_clear_13 : decode cX6_clear 13 = .ok (.invokestatic 31, 3) := chk_nth ocX6_clear_0 (k := 7) rfl
theorem dX6_clear_16 : decode cX6_clear 16 = .ok (.aload_n 0, 1) := chk_nth ocX6_clear_0 (k := 8) rfl
theorem dX6_clear_17 : decode cX6_clear 17 = .ok (.getfield 18, 3) := chk_nth ocX6_clear_0 (k := 9) rfl
theorem dX6_clear_20 : decode cX6_clear 20 = .ok (.iconst 0, 1) := chk_nth ocX6_clear_0 (k := 10) rfl
theorem dX6_clear_21 : decode cX6_clear 21 = .ok (.invokestatic 31, 3) := chk_nth ocX6_clear_0 (k := 11) rfl
theorem dX6_clear_24 : decode cX6_clear 24 = .ok (.aload_n 0, 1) := chk_nth ocX6_clear_0 (k := 12) rfl
theorem dX6_clear_25 : decode cX6_clear 25 = .ok (.iconst 0, 1) := chk_nth ocX6_clear_0 (k := 13) rfl
theorem dX6_clear_26 : decode cX6_clear 26 = .ok (.putfield 27, 3) := chk_nth ocX6_clear_0 (k := 14) rfl
theorem dX6_clear_29 : decode cX6_clear 29 = .ok (.return_, 1) := chk_nth ocX6_clear_0 (k := 15) rfl
def tcX6_signOf_0 : List (Instr × Nat) := [(.iload_n 1, 1), (.ifCond .lt 21, 3), (.iload_n 1, 1), (.aload_n 0, 1), (.getfield 9, 3), (.arraylength, 1), (.if_icmp .ge 12, 3), (.aload_n 0, 1), (.getfield 9, 3), (.iload_n 1, 1), (.iaload, 1), (.goto 4, 3), (.iconst 3, 1), (.ireturn, 1)]
theorem ocX6_signOf_0 : chk (cX6_signOf.data.toList.drop 0) tcX6_signOf_0 = true := by decide +kernel
theorem dX6_signOf_0 : decode cX6_signOf 0 = .ok (.iload_n 1, 1) := chk_nth ocX6_signOf_0 (k := 0) rfl
theorem dX6_signOf_1 : decode cX6_signOf 1 = .ok (.ifCond .lt 21, 3) := chk_nth ocX6_signOf_0 (k := 1) rfl
theorem dX6_signOf_4 : decode cX6_signOf 4 = .ok (.iload_n 1, 1) := chk_nth ocX6_signOf_0 (k := 2) rfl
theorem dX6_signOf_5 : decode cX6_signOf 5 = .ok (.aload_n 0, 1) := chk_nth ocX6_signOf_0 (k := 3) rfl
theorem dX6_signOf_6 : decode cX6_signOf 6 = .ok (.getfield 9, 3) := chk_nth ocX6_signOf_0 (k := 4) rfl
theorem dX6_signOf_9 : decode cX6_signOf 9 = .ok (.arraylength, 1) := chk_nth ocX6_signOf_0 (k := 5) rfl
theorem dX6_signOf_10 : decode cX6_signOf 10 = .ok (.if_icmp .ge 12, 3) := chk_nth ocX6_signOf_0 (k := 6) rfl
theorem dX6_signOf_13 : decode cX6_signOf 13 = .ok (.aload_n 0, 1) := chk_nth ocX6_signOf_0 (k := 7) rfl
theorem dX6_signOf_14 : decode cX6_signOf 14 = .ok (.getfield 9, 3) := chk_nth ocX6_signOf_0 (k := 8) rfl
theorem dX6_signOf_17 : decode cX6_signOf 17 = .ok (.iload_n 1, 1) := chk_nth ocX6_signOf_0 (k := 9) rfl
theorem dX6_signOf_18 : decode cX6_signOf 18 = .ok (.iaload, 1) := chk_nth ocX6_signOf_0 (k := 10) rfl
theorem dX6_signOf_19 : decode cX6_signOf 19 = .ok (.goto 4, 3) := chk_nth ocX6_signOf_0 (k := 11) rfl
theorem dX6_signOf_22 : decode cX6_signOf 22 = .ok (.iconst 3, 1) := chk_nth ocX6_signOf_0 (k := 12) rfl
theorem dX6_signOf_23 : decode cX6_signOf 23 = .ok (.ireturn, 1) := chk_nth ocX6_signOf_0 (k := 13) rfl
def tcX6_cornerOf_0 : List (Instr × Nat) := [(.iload_n 1, 1), (.ifCond .lt 21, 3), (.iload_n 1, 1), (.aload_n 0, 1), (.getfield 15, 3), (.arraylength, 1), (.if_icmp .ge 12, 3), (.aload_n 0, 1), (.getfield 15, 3), (.iload_n 1, 1), (.iaload, 1), (.goto 4, 3), (.iconst 0, 1), (.ireturn, 1)]
theorem ocX6_cornerOf_0 : chk (cX6_cornerOf.data.toList.drop 0) tcX6_cornerOf_0 = true := by decide +kernel
theorem dX6_cornerOf_0 : decode cX6_cornerOf 0 = .ok (.iload_n 1, 1) := chk_nth ocX6_cornerOf_0 (k := 0) rfl
theorem dX6_cornerOf_1 : decode cX6_cornerOf 1 = .ok (.ifCond .lt 21, 3) := chk_nth ocX6_cornerOf_0 (k := 1) rfl
theorem dX6_cornerOf_4 : decode cX6_cornerOf 4 = .ok (.iload_n 1, 1) := chk_nth ocX6_cornerOf_0 (k := 2) rfl
theorem dX6_cornerOf_5 : decode cX6_cornerOf 5 = .ok (.aload_n 0, 1) := chk_nth ocX6_cornerOf_0 (k := 3) rfl
theorem dX6_cornerOf_6 : decode cX6_cornerOf 6 = .ok (.getfield 15, 3) := chk_nth ocX6_cornerOf_0 (k := 4) rfl
theorem dX6_cornerOf_9 : decode cX6_cornerOf 9 = .ok (.arraylength, 1) := chk_nth ocX6_cornerOf_0 (k := 5) rfl
theorem dX6_cornerOf_10 : decode cX6_cornerOf 10 = .ok (.if_icmp .ge 12, 3) := chk_nth ocX6_cornerOf_0 (k := 6) rfl
theorem dX6_cornerOf_13 : decode cX6_cornerOf 13 = .ok (.aload_n 0, 1) := chk_nth ocX6_cornerOf_0 (k := 7) rfl
theorem dX6_cornerOf_14 : decode cX6_cornerOf 14 = .ok (.getfield 15, 3) := chk_nth ocX6_cornerOf_0 (k := 8) rfl
theorem dX6_cornerOf_17 : decode cX6_cornerOf 17 = .ok (.iload_n 1, 1) := chk_nth ocX6_cornerOf_0 (k := 9) rfl
theorem dX6_cornerOf_18 : decode cX6_cornerOf 18 = .ok (.iaload, 1) := chk_nth ocX6_cornerOf_0 (k := 10) rfl
theorem dX6_cornerOf_19 : decode cX6_cornerOf 19 = .ok (.goto 4, 3) := chk_nth ocX6_cornerOf_0 (k := 11) rfl
theorem dX6_cornerOf_22 : decode cX6_cornerOf 22 = .ok (.iconst 0, 1) := chk_nth ocX6_cornerOf_0 (k := 12) rfl
theorem dX6_cornerOf_23 : decode cX6_cornerOf 23 = .ok (.ireturn, 1) := chk_nth ocX6_cornerOf_0 (k := 13) rfl
def tcX6_yearOf_0 : List (Instr × Nat) := [(.iload_n 1, 1), (.ifCond .lt 21, 3), (.iload_n 1, 1), (.aload_n 0, 1), (.getfield 18, 3), (.arraylength, 1), (.if_icmp .ge 12, 3), (.aload_n 0, 1), (.getfield 18, 3), (.iload_n 1, 1), (.iaload, 1), (.goto 4, 3), (.iconst 0, 1), (.ireturn, 1)]
theorem ocX6_yearOf_0 : chk (cX6_yearOf.data.toList.drop 0) tcX6_yearOf_0 = true := by decide +kernel
theorem dX6_yearOf_0 : decode cX6_yearOf 0 = .ok (.iload_n 1, 1) := chk_nth ocX6_yearOf_0 (k := 0) rfl
theorem dX6_yearOf_1 : decode cX6_yearOf 1 = .ok (.ifCond .lt 21, 3) := chk_nth ocX6_yearOf_0 (k := 1) rfl
theorem dX6_yearOf_4 : decode cX6_yearOf 4 = .ok (.iload_n 1, 1) := chk_nth ocX6_yearOf_0 (k := 2) rfl
theorem dX6_yearOf_5 : decode cX6_yearOf 5 = .ok (.aload_n 0, 1) := chk_nth ocX6_yearOf_0 (k := 3) rfl
theorem dX6_yearOf_6 : decode cX6_yearOf 6 = .ok (.getfield 18, 3) := chk_nth ocX6_yearOf_0 (k := 4) rfl
theorem dX6_yearOf_9 : decode cX6_yearOf 9 = .ok (.arraylength, 1) := chk_nth ocX6_yearOf_0 (k := 5) rfl
theorem dX6_yearOf_10 : decode cX6_yearOf 10 = .ok (.if_icmp .ge 12, 3) := chk_nth ocX6_yearOf_0 (k := 6) rfl
theorem dX6_yearOf_13 : decode cX6_yearOf 13 = .ok (.aload_n 0, 1) := chk_nth ocX6_yearOf_0 (k := 7) rfl
theorem dX6_yearOf_14 : decode cX6_yearOf 14 = .ok (.getfield 18, 3) := chk_nth ocX6_yearOf_0 (k := 8) rfl
theorem dX6_yearOf_17 : decode cX6_yearOf 17 = .ok (.iload_n 1, 1) := chk_nth ocX6_yearOf_0 (k := 9) rfl
theorem dX6_yearOf_18 : decode cX6_yearOf 18 = .ok (.iaload, 1) := chk_nth ocX6_yearOf_0 (k := 10) rfl
theorem dX6_yearOf_19 : decode cX6_yearOf 19 = .ok (.goto 4, 3) := chk_nth ocX6_yearOf_0 (k := 11) rfl
theorem dX6_yearOf_22 : decode cX6_yearOf 22 = .ok (.iconst 0, 1) := chk_nth ocX6_yearOf_0 (k := 12) rfl
theorem dX6_yearOf_23 : decode cX6_yearOf 23 = .ok (.ireturn, 1) := chk_nth ocX6_yearOf_0 (k := 13) rfl
def tcX6_spotOf_0 : List (Instr × Nat) := [(.aload_n 0, 1), (.iload_n 1, 1), (.invokevirtual 37, 3), (.bipush 20, 2), (.imul, 1), (.aload_n 0, 1), (.iload_n 1, 1), (.invokevirtual 41, 3), (.iadd, 1), (.ireturn, 1)]
theorem ocX6_spotOf_0 : chk (cX6_spotOf.data.toList.drop 0) tcX6_spotOf_0 = true := by decide +kernel
theorem dX6_spotOf_0 : decode cX6_spotOf 0 = .ok (.aload_n 0, 1) := chk_nth ocX6_spotOf_0 (k := 0) rfl
theorem dX6_spotOf_1 : decode cX6_spotOf 1 = .ok (.iload_n 1, 1) := chk_nth ocX6_spotOf_0 (k := 1) rfl
theorem dX6_spotOf_2 : decode cX6_spotOf 2 = .ok (.invokevirtual 37, 3) := chk_nth ocX6_spotOf_0 (k := 2) rfl
theorem dX6_spotOf_5 : decode cX6_spotOf 5 = .ok (.bipush 20, 2) := chk_nth ocX6_spotOf_0 (k := 3) rfl
theorem dX6_spotOf_7 : decode cX6_spotOf 7 = .ok (.imul, 1) := chk_nth ocX6_spotOf_0 (k := 4) rfl
theorem dX6_spotOf_8 : decode cX6_spotOf 8 = .ok (.aload_n 0, 1) := chk_nth ocX6_spotOf_0 (k := 5) rfl
theorem dX6_spotOf_9 : decode cX6_spotOf 9 = .ok (.iload_n 1, 1) := chk_nth ocX6_spotOf_0 (k := 6) rfl
theorem dX6_spotOf_10 : decode cX6_spotOf 10 = .ok (.invokevirtual 41, 3) := chk_nth ocX6_spotOf_0 (k := 7) rfl
theorem dX6_spotOf_13 : decode cX6_spotOf 13 = .ok (.iadd, 1) := chk_nth ocX6_spotOf_0 (k := 8) rfl
theorem dX6_spotOf_14 : decode cX6_spotOf 14 = .ok (.ireturn, 1) := chk_nth ocX6_spotOf_0 (k := 9) rfl
def tcX6_setSign_0 : List (Instr × Nat) := [(.iload_n 1, 1), (.ifCond .lt 19, 3), (.iload_n 1, 1), (.aload_n 0, 1), (.getfield 9, 3), (.arraylength, 1), (.if_icmp .ge 10, 3), (.aload_n 0, 1), (.getfield 9, 3), (.iload_n 1, 1), (.iload_n 2, 1), (.iastore, 1), (.return_, 1)]
theorem ocX6_setSign_0 : chk (cX6_setSign.data.toList.drop 0) tcX6_setSign_0 = true := by decide +kernel
theorem dX6_setSign_0 : decode cX6_setSign 0 = .ok (.iload_n 1, 1) := chk_nth ocX6_setSign_0 (k := 0) rfl
theorem dX6_setSign_1 : decode cX6_setSign 1 = .ok (.ifCond .lt 19, 3) := chk_nth ocX6_setSign_0 (k := 1) rfl
theorem dX6_setSign_4 : decode cX6_setSign 4 = .ok (.iload_n 1, 1) := chk_nth ocX6_setSign_0 (k := 2) rfl
theorem dX6_setSign_5 : decode cX6_setSign 5 = .ok (.aload_n 0, 1) := chk_nth ocX6_setSign_0 (k := 3) rfl
theorem dX6_setSign_6 : decode cX6_setSign 6 = .ok (.getfield 9, 3) := chk_nth ocX6_setSign_0 (k := 4) rfl
theorem dX6_setSign_9 : decode cX6_setSign 9 = .ok (.arraylength, 1) := chk_nth ocX6_setSign_0 (k := 5) rfl
theorem dX6_setSign_10 : decode cX6_setSign 10 = .ok (.if_icmp .ge 10, 3) := chk_nth ocX6_setSign_0 (k := 6) rfl
theorem dX6_setSign_13 : decode cX6_setSign 13 = .ok (.aload_n 0, 1) := chk_nth ocX6_setSign_0 (k := 7) rfl
theorem dX6_setSign_14 : decode cX6_setSign 14 = .ok (.getfield 9, 3) := chk_nth ocX6_setSign_0 (k := 8) rfl
theorem dX6_setSign_17 : decode cX6_setSign 17 = .ok (.iload_n 1, 1) := chk_nth ocX6_setSign_0 (k := 9) rfl
theorem dX6_setSign_18 : decode cX6_setSign 18 = .ok (.iload_n 2, 1) := chk_nth ocX6_setSign_0 (k := 10) rfl
theorem dX6_setSign_19 : decode cX6_setSign 19 = .ok (.iastore, 1) := chk_nth ocX6_setSign_0 (k := 11) rfl
theorem dX6_setSign_20 : decode cX6_setSign 20 = .ok (.return_, 1) := chk_nth ocX6_setSign_0 (k := 12) rfl
def tcX6_setGoer_0 : List (Instr × Nat) := [(.iload_n 1, 1), (.ifCond .lt 35, 3), (.iload_n 1, 1), (.aload_n 0, 1), (.getfield 15, 3), (.arraylength, 1), (.if_icmp .ge 26, 3), (.iload_n 1, 1), (.aload_n 0, 1), (.getfield 18, 3), (.arraylength, 1), (.if_icmp .ge 17, 3), (.aload_n 0, 1), (.getfield 15, 3), (.iload_n 1, 1), (.iload_n 2, 1), (.iastore, 1), (.aload_n 0, 1), (.getfield 18, 3), (.iload_n 1, 1), (.iload_n 3, 1), (.iastore, 1), (.return_, 1)]
theorem ocX6_setGoer_0 : chk (cX6_setGoer.data.toList.drop 0) tcX6_setGoer_0 = true := by decide +kernel
theorem dX6_setGoer_0 : decode cX6_setGoer 0 = .ok (.iload_n 1, 1) := chk_nth ocX6_setGoer_0 (k := 0) rfl
theorem dX6_setGoer_1 : decode cX6_setGoer 1 = .ok (.ifCond .lt 35, 3) := chk_nth ocX6_setGoer_0 (k := 1) rfl
theorem dX6_setGoer_4 : decode cX6_setGoer 4 = .ok (.iload_n 1, 1) := chk_nth ocX6_setGoer_0 (k := 2) rfl
theorem dX6_setGoer_5 : decode cX6_setGoer 5 = .ok (.aload_n 0, 1) := chk_nth ocX6_setGoer_0 (k := 3) rfl
theorem dX6_setGoer_6 : decode cX6_setGoer 6 = .ok (.getfield 15, 3) := chk_nth ocX6_setGoer_0 (k := 4) rfl
theorem dX6_setGoer_9 : decode cX6_setGoer 9 = .ok (.arraylength, 1) := chk_nth ocX6_setGoer_0 (k := 5) rfl
theorem dX6_setGoer_10 : decode cX6_setGoer 10 = .ok (.if_icmp .ge 26, 3) := chk_nth ocX6_setGoer_0 (k := 6) rfl
theorem dX6_setGoer_13 : decode cX6_setGoer 13 = .ok (.iload_n 1, 1) := chk_nth ocX6_setGoer_0 (k := 7) rfl
theorem dX6_setGoer_14 : decode cX6_setGoer 14 = .ok (.aload_n 0, 1) := chk_nth ocX6_setGoer_0 (k := 8) rfl
theorem dX6_setGoer_15 : decode cX6_setGoer 15 = .ok (.getfield 18, 3) := chk_nth ocX6_setGoer_0 (k := 9) rfl
theorem dX6_setGoer_18 : decode cX6_setGoer 18 = .ok (.arraylength, 1) := chk_nth ocX6_setGoer_0 (k := 10) rfl
theorem dX6_setGoer_19 : decode cX6_setGoer 19 = .ok (.if_icmp .ge 17, 3) := chk_nth ocX6_setGoer_0 (k := 11) rfl
theorem dX6_setGoer_22 : decode cX6_setGoer 22 = .ok (.aload_n 0, 1) := chk_nth ocX6_setGoer_0 (k := 12) rfl
theorem dX6_setGoer_23 : decode cX6_setGoer 23 = .ok (.getfield 15, 3) := chk_nth ocX6_setGoer_0 (k := 13) rfl
theorem dX6_setGoer_26 : decode cX6_setGoer 26 = .ok (.iload_n 1, 1) := chk_nth ocX6_setGoer_0 (k := 14) rfl
theorem dX6_setGoer_27 : decode cX6_setGoer 27 = .ok (.iload_n 2, 1) := chk_nth ocX6_setGoer_0 (k := 15) rfl
theorem dX6_setGoer_28 : decode cX6_setGoer 28 = .ok (.iastore, 1) := chk_nth ocX6_setGoer_0 (k := 16) rfl
theorem dX6_setGoer_29 : decode cX6_setGoer 29 = .ok (.aload_n 0, 1) := chk_nth ocX6_setGoer_0 (k := 17) rfl
theorem dX6_setGoer_30 : decode cX6_setGoer 30 = .ok (.getfield 18, 3) := chk_nth ocX6_setGoer_0 (k := 18) rfl
theorem dX6_setGoer_33 : decode cX6_setGoer 33 = .ok (.iload_n 1, 1) := chk_nth ocX6_setGoer_0 (k := 19) rfl
theorem dX6_setGoer_34 : decode cX6_setGoer 34 = .ok (.iload_n 3, 1) := chk_nth ocX6_setGoer_0 (k := 20) rfl
theorem dX6_setGoer_35 : decode cX6_setGoer 35 = .ok (.iastore, 1) := chk_nth ocX6_setGoer_0 (k := 21) rfl
theorem dX6_setGoer_36 : decode cX6_setGoer 36 = .ok (.return_, 1) := chk_nth ocX6_setGoer_0 (k := 22) rfl
def tcX6_shutStreets_0 : List (Instr × Nat) := [(.iconst 0, 1), (.istore_n 2, 1), (.iconst 0, 1), (.istore_n 3, 1), (.iload_n 3, 1), (.iload_n 1, 1), (.if_icmp .ge 34, 3), (.iload_n 3, 1), (.aload_n 0, 1), (.getfield 9, 3), (.arraylength, 1), (.if_icmp .ge 25, 3), (.aload_n 0, 1), (.getfield 9, 3), (.iload_n 3, 1), (.iaload, 1), (.iconst 3, 1), (.if_icmp .ne 9, 3), (.iload_n 2, 1), (.iconst 1, 1), (.iload_n 3, 1), (.ishl, 1), (.ior, 1), (.istore_n 2, 1)]
theorem ocX6_shutStreets_0 : chk (cX6_shutStreets.data.toList.drop 0) tcX6_shutStreets_0 = true := by decide +kernel
theorem dX6_shutStreets_0 : decode cX6_shutStreets 0 = .ok (.iconst 0, 1) := chk_nth ocX6_shutStreets_0 (k := 0) rfl
theorem dX6_shutStreets_1 : decode cX6_shutStreets 1 = .ok (.istore_n 2, 1) := chk_nth ocX6_shutStreets_0 (k := 1) rfl
theorem dX6_shutStreets_2 : decode cX6_shutStreets 2 = .ok (.iconst 0, 1) := chk_nth ocX6_shutStreets_0 (k := 2) rfl
theorem dX6_shutStreets_3 : decode cX6_shutStreets 3 = .ok (.istore_n 3, 1) := chk_nth ocX6_shutStreets_0 (k := 3) rfl
theorem dX6_shutStreets_4 : decode cX6_shutStreets 4 = .ok (.iload_n 3, 1) := chk_nth ocX6_shutStreets_0 (k := 4) rfl
theorem dX6_shutStreets_5 : decode cX6_shutStreets 5 = .ok (.iload_n 1, 1) := chk_nth ocX6_shutStreets_0 (k := 5) rfl
theorem dX6_shutStreets_6 : decode cX6_shutStreets 6 = .ok (.if_icmp .ge 34, 3) := chk_nth ocX6_shutStreets_0 (k := 6) rfl
theorem dX6_shutStreets_9 : decode cX6_shutStreets 9 = .ok (.iload_n 3, 1) := chk_nth ocX6_shutStreets_0 (k := 7) rfl
theorem dX6_shutStreets_10 : decode cX6_shutStreets 10 = .ok (.aload_n 0, 1) := chk_nth ocX6_shutStreets_0 (k := 8) rfl
theorem dX6_shutStreets_11 : decode cX6_shutStreets 11 = .ok (.getfield 9, 3) := chk_nth ocX6_shutStreets_0 (k := 9) rfl
theorem dX6_shutStreets_14 : decode cX6_shutStreets 14 = .ok (.arraylength, 1) := chk_nth ocX6_shutStreets_0 (k := 10) rfl
theorem dX6_shutStreets_15 : decode cX6_shutStreets 15 = .ok (.if_icmp .ge 25, 3) := chk_nth ocX6_shutStreets_0 (k := 11) rfl
theorem dX6_shutStreets_18 : decode cX6_shutStreets 18 = .ok (.aload_n 0, 1) := chk_nth ocX6_shutStreets_0 (k := 12) rfl
theorem dX6_shutStreets_19 : decode cX6_shutStreets 19 = .ok (.getfield 9, 3) := chk_nth ocX6_shutStreets_0 (k := 13) rfl
theorem dX6_shutStreets_22 : decode cX6_shutStreets 22 = .ok (.iload_n 3, 1) := chk_nth ocX6_shutStreets_0 (k := 14) rfl
theorem dX6_shutStreets_23 : decode cX6_shutStreets 23 = .ok (.iaload, 1) := chk_nth ocX6_shutStreets_0 (k := 15) rfl
theorem dX6_shutStreets_24 : decode cX6_shutStreets 24 = .ok (.iconst 3, 1) := chk_nth ocX6_shutStreets_0 (k := 16) rfl
theorem dX6_shutStreets_25 : decode cX6_shutStreets 25 = .ok (.if_icmp .ne 9, 3) := chk_nth ocX6_shutStreets_0 (k := 17) rfl
theorem dX6_shutStreets_28 : decode cX6_shutStreets 28 = .ok (.iload_n 2, 1) := chk_nth ocX6_shutStreets_0 (k := 18) rfl
theorem dX6_shutStreets_29 : decode cX6_shutStreets 29 = .ok (.iconst 1, 1) := chk_nth ocX6_shutStreets_0 (k := 19) rfl
theorem dX6_shutStreets_30 : decode cX6_shutStreets 30 = .ok (.iload_n 3, 1) := chk_nth ocX6_shutStreets_0 (k := 20) rfl
theorem dX6_shutStreets_31 : decode cX6_shutStreets 31 = .ok (.ishl, 1) := chk_nth ocX6_shutStreets_0 (k := 21) rfl
theorem dX6_shutStreets_32 : decode cX6_shutStreets 32 = .ok (.ior, 1) := chk_nth ocX6_shutStreets_0 (k := 22) rfl
theorem dX6_shutStreets_33 : decode cX6_shutStreets 33 = .ok (.istore_n 2, 1) := chk_nth ocX6_shutStreets_0 (k := 23) rfl
def tcX6_shutStreets_1 : List (Instr × Nat) := [(.iinc 3 1, 3), (.goto (-33), 3), (.iload_n 2, 1), (.ireturn, 1)]
theorem ocX6_shutStreets_1 : chk (cX6_shutStreets.data.toList.drop 34) tcX6_shutStreets_1 = true := by decide +kernel
theorem dX6_shutStreets_34 : decode cX6_shutStreets 34 = .ok (.iinc 3 1, 3) := chk_nth ocX6_shutStreets_1 (k := 0) rfl
theorem dX6_shutStreets_37 : decode cX6_shutStreets 37 = .ok (.goto (-33), 3) := chk_nth ocX6_shutStreets_1 (k := 1) rfl
theorem dX6_shutStreets_40 : decode cX6_shutStreets 40 = .ok (.iload_n 2, 1) := chk_nth ocX6_shutStreets_1 (k := 2) rfl
theorem dX6_shutStreets_41 : decode cX6_shutStreets 41 = .ok (.ireturn, 1) := chk_nth ocX6_shutStreets_1 (k := 3) rfl
def tcX6_shutAll_0 : List (Instr × Nat) := [(.iconst 0, 1), (.istore_n 3, 1), (.iload_n 3, 1), (.iload_n 2, 1), (.if_icmp .ge 34, 3), (.iload_n 3, 1), (.aload_n 0, 1), (.getfield 9, 3), (.arraylength, 1), (.if_icmp .ge 25, 3), (.iload_n 1, 1), (.iload_n 3, 1), (.ishr, 1), (.iconst 1, 1), (.iand, 1), (.iconst 1, 1), (.if_icmp .ne 10, 3), (.aload_n 0, 1), (.getfield 9, 3), (.iload_n 3, 1), (.iconst 3, 1), (.iastore, 1), (.iinc 3 1, 3), (.goto (-33), 3)]
theorem ocX6_shutAll_0 : chk (cX6_shutAll.data.toList.drop 0) tcX6_shutAll_0 = true := by decide +kernel
theorem dX6_shutAll_0 : decode cX6_shutAll 0 = .ok (.iconst 0, 1) := chk_nth ocX6_shutAll_0 (k := 0) rfl
theorem dX6_shutAll_1 : decode cX6_shutAll 1 = .ok (.istore_n 3, 1) := chk_nth ocX6_shutAll_0 (k := 1) rfl
theorem dX6_shutAll_2 : decode cX6_shutAll 2 = .ok (.iload_n 3, 1) := chk_nth ocX6_shutAll_0 (k := 2) rfl
theorem dX6_shutAll_3 : decode cX6_shutAll 3 = .ok (.iload_n 2, 1) := chk_nth ocX6_shutAll_0 (k := 3) rfl
theorem dX6_shutAll_4 : decode cX6_shutAll 4 = .ok (.if_icmp .ge 34, 3) := chk_nth ocX6_shutAll_0 (k := 4) rfl
theorem dX6_shutAll_7 : decode cX6_shutAll 7 = .ok (.iload_n 3, 1) := chk_nth ocX6_shutAll_0 (k := 5) rfl
theorem dX6_shutAll_8 : decode cX6_shutAll 8 = .ok (.aload_n 0, 1) := chk_nth ocX6_shutAll_0 (k := 6) rfl
theorem dX6_shutAll_9 : decode cX6_shutAll 9 = .ok (.getfield 9, 3) := chk_nth ocX6_shutAll_0 (k := 7) rfl
theorem dX6_shutAll_12 : decode cX6_shutAll 12 = .ok (.arraylength, 1) := chk_nth ocX6_shutAll_0 (k := 8) rfl
theorem dX6_shutAll_13 : decode cX6_shutAll 13 = .ok (.if_icmp .ge 25, 3) := chk_nth ocX6_shutAll_0 (k := 9) rfl
theorem dX6_shutAll_16 : decode cX6_shutAll 16 = .ok (.iload_n 1, 1) := chk_nth ocX6_shutAll_0 (k := 10) rfl
theorem dX6_shutAll_17 : decode cX6_shutAll 17 = .ok (.iload_n 3, 1) := chk_nth ocX6_shutAll_0 (k := 11) rfl
theorem dX6_shutAll_18 : decode cX6_shutAll 18 = .ok (.ishr, 1) := chk_nth ocX6_shutAll_0 (k := 12) rfl
theorem dX6_shutAll_19 : decode cX6_shutAll 19 = .ok (.iconst 1, 1) := chk_nth ocX6_shutAll_0 (k := 13) rfl
theorem dX6_shutAll_20 : decode cX6_shutAll 20 = .ok (.iand, 1) := chk_nth ocX6_shutAll_0 (k := 14) rfl
theorem dX6_shutAll_21 : decode cX6_shutAll 21 = .ok (.iconst 1, 1) := chk_nth ocX6_shutAll_0 (k := 15) rfl
theorem dX6_shutAll_22 : decode cX6_shutAll 22 = .ok (.if_icmp .ne 10, 3) := chk_nth ocX6_shutAll_0 (k := 16) rfl
theorem dX6_shutAll_25 : decode cX6_shutAll 25 = .ok (.aload_n 0, 1) := chk_nth ocX6_shutAll_0 (k := 17) rfl
theorem dX6_shutAll_26 : decode cX6_shutAll 26 = .ok (.getfield 9, 3) := chk_nth ocX6_shutAll_0 (k := 18) rfl
theorem dX6_shutAll_29 : decode cX6_shutAll 29 = .ok (.iload_n 3, 1) := chk_nth ocX6_shutAll_0 (k := 19) rfl
theorem dX6_shutAll_30 : decode cX6_shutAll 30 = .ok (.iconst 3, 1) := chk_nth ocX6_shutAll_0 (k := 20) rfl
theorem dX6_shutAll_31 : decode cX6_shutAll 31 = .ok (.iastore, 1) := chk_nth ocX6_shutAll_0 (k := 21) rfl
theorem dX6_shutAll_32 : decode cX6_shutAll 32 = .ok (.iinc 3 1, 3) := chk_nth ocX6_shutAll_0 (k := 22) rfl
theorem dX6_shutAll_35 : decode cX6_shutAll 35 = .ok (.goto (-33), 3) := chk_nth ocX6_shutAll_0 (k := 23) rfl
def tcX6_shutAll_1 : List (Instr × Nat) := [(.return_, 1)]
theorem ocX6_shutAll_1 : chk (cX6_shutAll.data.toList.drop 38) tcX6_shutAll_1 = true := by decide +kernel
theorem dX6_shutAll_38 : decode cX6_shutAll 38 = .ok (.return_, 1) := chk_nth ocX6_shutAll_1 (k := 0) rfl
def tcX6_signAll_0 : List (Instr × Nat) := [(.iconst 0, 1), (.istore_n 3, 1), (.iload_n 3, 1), (.iload_n 2, 1), (.if_icmp .ge 39, 3), (.iload_n 3, 1), (.aload_n 0, 1), (.getfield 9, 3), (.arraylength, 1), (.if_icmp .ge 30, 3), (.aload_n 0, 1), (.getfield 9, 3), (.iload_n 3, 1), (.iaload, 1), (.iconst 3, 1), (.if_icmp .eq 14, 3), (.aload_n 0, 1), (.getfield 9, 3), (.iload_n 3, 1), (.iload_n 1, 1), (.iload_n 3, 1), (.ishr, 1), (.iconst 1, 1), (.iand, 1)]
theorem ocX6_signAll_0 : chk (cX6_signAll.data.toList.drop 0) tcX6_signAll_0 = true := by decide +kernel
theorem dX6_signAll_0 : decode cX6_signAll 0 = .ok (.iconst 0, 1) := chk_nth ocX6_signAll_0 (k := 0) rfl
theorem dX6_signAll_1 : decode cX6_signAll 1 = .ok (.istore_n 3, 1) := chk_nth ocX6_signAll_0 (k := 1) rfl
theorem dX6_signAll_2 : decode cX6_signAll 2 = .ok (.iload_n 3, 1) := chk_nth ocX6_signAll_0 (k := 2) rfl
theorem dX6_signAll_3 : decode cX6_signAll 3 = .ok (.iload_n 2, 1) := chk_nth ocX6_signAll_0 (k := 3) rfl
theorem dX6_signAll_4 : decode cX6_signAll 4 = .ok (.if_icmp .ge 39, 3) := chk_nth ocX6_signAll_0 (k := 4) rfl
theorem dX6_signAll_7 : decode cX6_signAll 7 = .ok (.iload_n 3, 1) := chk_nth ocX6_signAll_0 (k := 5) rfl
theorem dX6_signAll_8 : decode cX6_signAll 8 = .ok (.aload_n 0, 1) := chk_nth ocX6_signAll_0 (k := 6) rfl
theorem dX6_signAll_9 : decode cX6_signAll 9 = .ok (.getfield 9, 3) := chk_nth ocX6_signAll_0 (k := 7) rfl
theorem dX6_signAll_12 : decode cX6_signAll 12 = .ok (.arraylength, 1) := chk_nth ocX6_signAll_0 (k := 8) rfl
theorem dX6_signAll_13 : decode cX6_signAll 13 = .ok (.if_icmp .ge 30, 3) := chk_nth ocX6_signAll_0 (k := 9) rfl
theorem dX6_signAll_16 : decode cX6_signAll 16 = .ok (.aload_n 0, 1) := chk_nth ocX6_signAll_0 (k := 10) rfl
theorem dX6_signAll_17 : decode cX6_signAll 17 = .ok (.getfield 9, 3) := chk_nth ocX6_signAll_0 (k := 11) rfl
theorem dX6_signAll_20 : decode cX6_signAll 20 = .ok (.iload_n 3, 1) := chk_nth ocX6_signAll_0 (k := 12) rfl
theorem dX6_signAll_21 : decode cX6_signAll 21 = .ok (.iaload, 1) := chk_nth ocX6_signAll_0 (k := 13) rfl
theorem dX6_signAll_22 : decode cX6_signAll 22 = .ok (.iconst 3, 1) := chk_nth ocX6_signAll_0 (k := 14) rfl
theorem dX6_signAll_23 : decode cX6_signAll 23 = .ok (.if_icmp .eq 14, 3) := chk_nth ocX6_signAll_0 (k := 15) rfl
theorem dX6_signAll_26 : decode cX6_signAll 26 = .ok (.aload_n 0, 1) := chk_nth ocX6_signAll_0 (k := 16) rfl
theorem dX6_signAll_27 : decode cX6_signAll 27 = .ok (.getfield 9, 3) := chk_nth ocX6_signAll_0 (k := 17) rfl
theorem dX6_signAll_30 : decode cX6_signAll 30 = .ok (.iload_n 3, 1) := chk_nth ocX6_signAll_0 (k := 18) rfl
theorem dX6_signAll_31 : decode cX6_signAll 31 = .ok (.iload_n 1, 1) := chk_nth ocX6_signAll_0 (k := 19) rfl
theorem dX6_signAll_32 : decode cX6_signAll 32 = .ok (.iload_n 3, 1) := chk_nth ocX6_signAll_0 (k := 20) rfl
theorem dX6_signAll_33 : decode cX6_signAll 33 = .ok (.ishr, 1) := chk_nth ocX6_signAll_0 (k := 21) rfl
theorem dX6_signAll_34 : decode cX6_signAll 34 = .ok (.iconst 1, 1) := chk_nth ocX6_signAll_0 (k := 22) rfl
theorem dX6_signAll_35 : decode cX6_signAll 35 = .ok (.iand, 1) := chk_nth ocX6_signAll_0 (k := 23) rfl
def tcX6_signAll_1 : List (Instr × Nat) := [(.iastore, 1), (.iinc 3 1, 3), (.goto (-38), 3), (.return_, 1)]
theorem ocX6_signAll_1 : chk (cX6_signAll.data.toList.drop 36) tcX6_signAll_1 = true := by decide +kernel
theorem dX6_signAll_36 : decode cX6_signAll 36 = .ok (.iastore, 1) := chk_nth ocX6_signAll_1 (k := 0) rfl
theorem dX6_signAll_37 : decode cX6_signAll 37 = .ok (.iinc 3 1, 3) := chk_nth ocX6_signAll_1 (k := 1) rfl
theorem dX6_signAll_40 : decode cX6_signAll 40 = .ok (.goto (-38), 3) := chk_nth ocX6_signAll_1 (k := 2) rfl
theorem dX6_signAll_43 : decode cX6_signAll 43 = .ok (.return_, 1) := chk_nth ocX6_signAll_1 (k := 3) rfl
def tcX7_init_0 : List (Instr × Nat) := [(.aload_n 0, 1), (.invokespecial 3, 3), (.aload_n 0, 1), (.bipush 120, 2), (.newarray .long, 2), (.putfield 9, 3), (.aload_n 0, 1), (.bipush 120, 2), (.newarray .long, 2), (.putfield 15, 3), (.aload_n 0, 1), (.aload_n 1, 1), (.putfield 18, 3), (.return_, 1)]
theorem ocX7_init_0 : chk (cX7_init.data.toList.drop 0) tcX7_init_0 = true := by decide +kernel
theorem dX7_init_0 : decode cX7_init 0 = .ok (.aload_n 0, 1) := chk_nth ocX7_init_0 (k := 0) rfl
theorem dX7_init_1 : decode cX7_init 1 = .ok (.invokespecial 3, 3) := chk_nth ocX7_init_0 (k := 1) rfl
theorem dX7_init_4 : decode cX7_init 4 = .ok (.aload_n 0, 1) := chk_nth ocX7_init_0 (k := 2) rfl
theorem dX7_init_5 : decode cX7_init 5 = .ok (.bipush 120, 2) := chk_nth ocX7_init_0 (k := 3) rfl
theorem dX7_init_7 : decode cX7_init 7 = .ok (.newarray .long, 2) := chk_nth ocX7_init_0 (k := 4) rfl
theorem dX7_init_9 : decode cX7_init 9 = .ok (.putfield 9, 3) := chk_nth ocX7_init_0 (k := 5) rfl
theorem dX7_init_12 : decode cX7_init 12 = .ok (.aload_n 0, 1) := chk_nth ocX7_init_0 (k := 6) rfl
theorem dX7_init_13 : decode cX7_init 13 = .ok (.bipush 120, 2) := chk_nth ocX7_init_0 (k := 7) rfl
theorem dX7_init_15 : decode cX7_init 15 = .ok (.newarray .long, 2) := chk_nth ocX7_init_0 (k := 8) rfl
theorem dX7_init_17 : decode cX7_init 17 = .ok (.putfield 15, 3) := chk_nth ocX7_init_0 (k := 9) rfl
theorem dX7_init_20 : decode cX7_init 20 = .ok (.aload_n 0, 1) := chk_nth ocX7_init_0 (k := 10) rfl
theorem dX7_init_21 : decode cX7_init 21 = .ok (.aload_n 1, 1) := chk_nth ocX7_init_0 (k := 11) rfl
theorem dX7_init_22 : decode cX7_init 22 = .ok (.putfield 18, 3) := chk_nth ocX7_init_0 (k := 12) rfl
theorem dX7_init_25 : decode cX7_init 25 = .ok (.return_, 1) := chk_nth ocX7_init_0 (k := 13) rfl
def tcX7_countWays_0 : List (Instr × Nat) := [(.aload_n 0, 1), (.getfield 18, 3), (.aload 4, 2), (.getfield 22, 3), (.invokevirtual 28, 3), (.aload_n 0, 1), (.getfield 9, 3), (.lconst 0, 1), (.invokestatic 34, 3), (.aload_n 0, 1), (.lconst 1, 1), (.putfield 40, 3), (.iload_n 2, 1), (.invokestatic 44, 3), (.ifCond .eq 10, 3), (.aload_n 0, 1), (.getfield 9, 3), (.iload_n 2, 1), (.lconst 1, 1), (.lastore, 1), (.iload 5, 2), (.ifCond .eq 17, 3), (.aload_n 0, 1), (.getfield 18, 3)]
theorem ocX7_countWays_0 : chk (cX7_countWays.data.toList.drop 0) tcX7_countWays_0 = true := by decide +kernel
theorem dX7_countWays_0 : decode cX7_countWays 0 = .ok (.aload_n 0, 1) := chk_nth ocX7_countWays_0 (k := 0) rfl
theorem dX7_countWays_1 : decode cX7_countWays 1 = .ok (.getfield 18, 3) := chk_nth ocX7_countWays_0 (k := 1) rfl
theorem dX7_countWays_4 : decode cX7_countWays 4 = .ok (.aload 4, 2) := chk_nth ocX7_countWays_0 (k := 2) rfl
theorem dX7_countWays_6 : decode cX7_countWays 6 = .ok (.getfield 22, 3) := chk_nth ocX7_countWays_0 (k := 3) rfl
theorem dX7_countWays_9 : decode cX7_countWays 9 = .ok (.invokevirtual 28, 3) := chk_nth ocX7_countWays_0 (k := 4) rfl
theorem dX7_countWays_12 : decode cX7_countWays 12 = .ok (.aload_n 0, 1) := chk_nth ocX7_countWays_0 (k := 5) rfl
theorem dX7_countWays_13 : decode cX7_countWays 13 = .ok (.getfield 9, 3) := chk_nth ocX7_countWays_0 (k := 6) rfl
theorem dX7_countWays_16 : decode cX7_countWays 16 = .ok (.lconst 0, 1) := chk_nth ocX7_countWays_0 (k := 7) rfl
theorem dX7_countWays_17 : decode cX7_countWays 17 = .ok (.invokestatic 34, 3) := chk_nth ocX7_countWays_0 (k := 8) rfl
theorem dX7_countWays_20 : decode cX7_countWays 20 = .ok (.aload_n 0, 1) := chk_nth ocX7_countWays_0 (k := 9) rfl
theorem dX7_countWays_21 : decode cX7_countWays 21 = .ok (.lconst 1, 1) := chk_nth ocX7_countWays_0 (k := 10) rfl
theorem dX7_countWays_22 : decode cX7_countWays 22 = .ok (.putfield 40, 3) := chk_nth ocX7_countWays_0 (k := 11) rfl
theorem dX7_countWays_25 : decode cX7_countWays 25 = .ok (.iload_n 2, 1) := chk_nth ocX7_countWays_0 (k := 12) rfl
theorem dX7_countWays_26 : decode cX7_countWays 26 = .ok (.invokestatic 44, 3) := chk_nth ocX7_countWays_0 (k := 13) rfl
theorem dX7_countWays_29 : decode cX7_countWays 29 = .ok (.ifCond .eq 10, 3) := chk_nth ocX7_countWays_0 (k := 14) rfl
theorem dX7_countWays_32 : decode cX7_countWays 32 = .ok (.aload_n 0, 1) := chk_nth ocX7_countWays_0 (k := 15) rfl
theorem dX7_countWays_33 : decode cX7_countWays 33 = .ok (.getfield 9, 3) := chk_nth ocX7_countWays_0 (k := 16) rfl
theorem dX7_countWays_36 : decode cX7_countWays 36 = .ok (.iload_n 2, 1) := chk_nth ocX7_countWays_0 (k := 17) rfl
theorem dX7_countWays_37 : decode cX7_countWays 37 = .ok (.lconst 1, 1) := chk_nth ocX7_countWays_0 (k := 18) rfl
theorem dX7_countWays_38 : decode cX7_countWays 38 = .ok (.lastore, 1) := chk_nth ocX7_countWays_0 (k := 19) rfl
theorem dX7_countWays_39 : decode cX7_countWays 39 = .ok (.iload 5, 2) := chk_nth ocX7_countWays_0 (k := 20) rfl
theorem dX7_countWays_41 : decode cX7_countWays 41 = .ok (.ifCond .eq 17, 3) := chk_nth ocX7_countWays_0 (k := 21) rfl
theorem dX7_countWays_44 : decode cX7_countWays 44 = .ok (.aload_n 0, 1) := chk_nth ocX7_countWays_0 (k := 22) rfl
theorem dX7_countWays_45 : decode cX7_countWays 45 = .ok (.getfield 18, 3) := chk_nth ocX7_countWays_0 (k := 23) rfl
def tcX7_countWays_1 : List (Instr × Nat) := [(.getfield 48, 3), (.getfield 52, 3), (.ifCond .ne 4, 3), (.return_, 1), (.iconst 0, 1), (.istore 6, 2), (.iload 6, 2), (.iload_n 3, 1), (.if_icmp .ge 38, 3), (.aload_n 0, 1), (.iload_n 1, 1), (.aload 4, 2), (.iload 5, 2), (.invokevirtual 57, 3), (.aload_n 0, 1), (.dup, 1), (.getfield 40, 3), (.aload_n 0, 1), (.getfield 18, 3), (.getfield 48, 3), (.getfield 52, 3), (.i2l, 1), (.lmul, 1), (.putfield 40, 3)]
theorem ocX7_countWays_1 : chk (cX7_countWays.data.toList.drop 48) tcX7_countWays_1 = true := by decide +kernel
theorem dX7_countWays_48 : decode cX7_countWays 48 = .ok (.getfield 48, 3) := chk_nth ocX7_countWays_1 (k := 0) rfl
theorem dX7_countWays_51 : decode cX7_countWays 51 = .ok (.getfield 52, 3) := chk_nth ocX7_countWays_1 (k := 1) rfl
theorem dX7_countWays_54 : decode cX7_countWays 54 = .ok (.ifCond .ne 4, 3) := chk_nth ocX7_countWays_1 (k := 2) rfl
theorem dX7_countWays_57 : decode cX7_countWays 57 = .ok (.return_, 1) := chk_nth ocX7_countWays_1 (k := 3) rfl
theorem dX7_countWays_58 : decode cX7_countWays 58 = .ok (.iconst 0, 1) := chk_nth ocX7_countWays_1 (k := 4) rfl
theorem dX7_countWays_59 : decode cX7_countWays 59 = .ok (.istore 6, 2) := chk_nth ocX7_countWays_1 (k := 5) rfl
theorem dX7_countWays_61 : decode cX7_countWays 61 = .ok (.iload 6, 2) := chk_nth ocX7_countWays_1 (k := 6) rfl
theorem dX7_countWays_63 : decode cX7_countWays 63 = .ok (.iload_n 3, 1) := chk_nth ocX7_countWays_1 (k := 7) rfl
theorem dX7_countWays_64 : decode cX7_countWays 64 = .ok (.if_icmp .ge 38, 3) := chk_nth ocX7_countWays_1 (k := 8) rfl
theorem dX7_countWays_67 : decode cX7_countWays 67 = .ok (.aload_n 0, 1) := chk_nth ocX7_countWays_1 (k := 9) rfl
theorem dX7_countWays_68 : decode cX7_countWays 68 = .ok (.iload_n 1, 1) := chk_nth ocX7_countWays_1 (k := 10) rfl
theorem dX7_countWays_69 : decode cX7_countWays 69 = .ok (.aload 4, 2) := chk_nth ocX7_countWays_1 (k := 11) rfl
theorem dX7_countWays_71 : decode cX7_countWays 71 = .ok (.iload 5, 2) := chk_nth ocX7_countWays_1 (k := 12) rfl
theorem dX7_countWays_73 : decode cX7_countWays 73 = .ok (.invokevirtual 57, 3) := chk_nth ocX7_countWays_1 (k := 13) rfl
theorem dX7_countWays_76 : decode cX7_countWays 76 = .ok (.aload_n 0, 1) := chk_nth ocX7_countWays_1 (k := 14) rfl
theorem dX7_countWays_77 : decode cX7_countWays 77 = .ok (.dup, 1) := chk_nth ocX7_countWays_1 (k := 15) rfl
theorem dX7_countWays_78 : decode cX7_countWays 78 = .ok (.getfield 40, 3) := chk_nth ocX7_countWays_1 (k := 16) rfl
theorem dX7_countWays_81 : decode cX7_countWays 81 = .ok (.aload_n 0, 1) := chk_nth ocX7_countWays_1 (k := 17) rfl
theorem dX7_countWays_82 : decode cX7_countWays 82 = .ok (.getfield 18, 3) := chk_nth ocX7_countWays_1 (k := 18) rfl
theorem dX7_countWays_85 : decode cX7_countWays 85 = .ok (.getfield 48, 3) := chk_nth ocX7_countWays_1 (k := 19) rfl
theorem dX7_countWays_88 : decode cX7_countWays 88 = .ok (.getfield 52, 3) := chk_nth ocX7_countWays_1 (k := 20) rfl
theorem dX7_countWays_91 : decode cX7_countWays 91 = .ok (.i2l, 1) := chk_nth ocX7_countWays_1 (k := 21) rfl
theorem dX7_countWays_92 : decode cX7_countWays 92 = .ok (.lmul, 1) := chk_nth ocX7_countWays_1 (k := 22) rfl
theorem dX7_countWays_93 : decode cX7_countWays 93 = .ok (.putfield 40, 3) := chk_nth ocX7_countWays_1 (k := 23) rfl
def tcX7_countWays_2 : List (Instr × Nat) := [(.iinc 6 1, 3), (.goto (-38), 3), (.return_, 1)]
theorem ocX7_countWays_2 : chk (cX7_countWays.data.toList.drop 96) tcX7_countWays_2 = true := by decide +kernel
theorem dX7_countWays_96 : decode cX7_countWays 96 = .ok (.iinc 6 1, 3) := chk_nth ocX7_countWays_2 (k := 0) rfl
theorem dX7_countWays_99 : decode cX7_countWays 99 = .ok (.goto (-38), 3) := chk_nth ocX7_countWays_2 (k := 1) rfl
theorem dX7_countWays_102 : decode cX7_countWays 102 = .ok (.return_, 1) := chk_nth ocX7_countWays_2 (k := 2) rfl
def tcX7_oneMore_0 : List (Instr × Nat) := [(.aload_n 0, 1), (.getfield 15, 3), (.lconst 0, 1), (.invokestatic 34, 3), (.iconst 0, 1), (.istore 4, 2), (.iload 4, 2), (.bipush 120, 2), (.if_icmp .ge 112, 3), (.aload_n 0, 1), (.getfield 9, 3), (.iload 4, 2), (.laload, 1), (.lconst 0, 1), (.lcmp, 1), (.ifCond .ne 6, 3), (.goto 91, 3), (.iconst 0, 1), (.istore 5, 2), (.iload 5, 2), (.aload_n 0, 1), (.getfield 18, 3), (.getfield 48, 3), (.getfield 52, 3)]
theorem ocX7_oneMore_0 : chk (cX7_oneMore.data.toList.drop 0) tcX7_oneMore_0 = true := by decide +kernel
theorem dX7_oneMore_0 : decode cX7_oneMore 0 = .ok (.aload_n 0, 1) := chk_nth ocX7_oneMore_0 (k := 0) rfl
theorem dX7_oneMore_1 : decode cX7_oneMore 1 = .ok (.getfield 15, 3) := chk_nth ocX7_oneMore_0 (k := 1) rfl
theorem dX7_oneMore_4 : decode cX7_oneMore 4 = .ok (.lconst 0, 1) := chk_nth ocX7_oneMore_0 (k := 2) rfl
theorem dX7_oneMore_5 : decode cX7_oneMore 5 = .ok (.invokestatic 34, 3) := chk_nth ocX7_oneMore_0 (k := 3) rfl
theorem dX7_oneMore_8 : decode cX7_oneMore 8 = .ok (.iconst 0, 1) := chk_nth ocX7_oneMore_0 (k := 4) rfl
theorem dX7_oneMore_9 : decode cX7_oneMore 9 = .ok (.istore 4, 2) := chk_nth ocX7_oneMore_0 (k := 5) rfl
theorem dX7_oneMore_11 : decode cX7_oneMore 11 = .ok (.iload 4, 2) := chk_nth ocX7_oneMore_0 (k := 6) rfl
theorem dX7_oneMore_13 : decode cX7_oneMore 13 = .ok (.bipush 120, 2) := chk_nth ocX7_oneMore_0 (k := 7) rfl
theorem dX7_oneMore_15 : decode cX7_oneMore 15 = .ok (.if_icmp .ge 112, 3) := chk_nth ocX7_oneMore_0 (k := 8) rfl
theorem dX7_oneMore_18 : decode cX7_oneMore 18 = .ok (.aload_n 0, 1) := chk_nth ocX7_oneMore_0 (k := 9) rfl
theorem dX7_oneMore_19 : decode cX7_oneMore 19 = .ok (.getfield 9, 3) := chk_nth ocX7_oneMore_0 (k := 10) rfl
theorem dX7_oneMore_22 : decode cX7_oneMore 22 = .ok (.iload 4, 2) := chk_nth ocX7_oneMore_0 (k := 11) rfl
theorem dX7_oneMore_24 : decode cX7_oneMore 24 = .ok (.laload, 1) := chk_nth ocX7_oneMore_0 (k := 12) rfl
theorem dX7_oneMore_25 : decode cX7_oneMore 25 = .ok (.lconst 0, 1) := chk_nth ocX7_oneMore_0 (k := 13) rfl
theorem dX7_oneMore_26 : decode cX7_oneMore 26 = .ok (.lcmp, 1) := chk_nth ocX7_oneMore_0 (k := 14) rfl
theorem dX7_oneMore_27 : decode cX7_oneMore 27 = .ok (.ifCond .ne 6, 3) := chk_nth ocX7_oneMore_0 (k := 15) rfl
theorem dX7_oneMore_30 : decode cX7_oneMore 30 = .ok (.goto 91, 3) := chk_nth ocX7_oneMore_0 (k := 16) rfl
theorem dX7_oneMore_33 : decode cX7_oneMore 33 = .ok (.iconst 0, 1) := chk_nth ocX7_oneMore_0 (k := 17) rfl
theorem dX7_oneMore_34 : decode cX7_oneMore 34 = .ok (.istore 5, 2) := chk_nth ocX7_oneMore_0 (k := 18) rfl
theorem dX7_oneMore_36 : decode cX7_oneMore 36 = .ok (.iload 5, 2) := chk_nth ocX7_oneMore_0 (k := 19) rfl
theorem dX7_oneMore_38 : decode cX7_oneMore 38 = .ok (.aload_n 0, 1) := chk_nth ocX7_oneMore_0 (k := 20) rfl
theorem dX7_oneMore_39 : decode cX7_oneMore 39 = .ok (.getfield 18, 3) := chk_nth ocX7_oneMore_0 (k := 21) rfl
theorem dX7_oneMore_42 : decode cX7_oneMore 42 = .ok (.getfield 48, 3) := chk_nth ocX7_oneMore_0 (k := 22) rfl
theorem dX7_oneMore_45 : decode cX7_oneMore 45 = .ok (.getfield 52, 3) := chk_nth ocX7_oneMore_0 (k := 23) rfl
def tcX7_oneMore_1 : List (Instr × Nat) := [(.if_icmp .ge 73, 3), (.aload_n 0, 1), (.getfield 18, 3), (.iload_n 1, 1), (.iload 5, 2), (.iload 4, 2), (.aload_n 2, 1), (.invokevirtual 61, 3), (.istore 6, 2), (.iload 6, 2), (.invokestatic 44, 3), (.ifCond .eq 23, 3), (.aload_n 0, 1), (.getfield 15, 3), (.iload 6, 2), (.dup2, 1), (.laload, 1), (.aload_n 0, 1), (.getfield 9, 3), (.iload 4, 2), (.laload, 1), (.ladd, 1), (.lastore, 1), (.goto 24, 3)]
theorem ocX7_oneMore_1 : chk (cX7_oneMore.data.toList.drop 48) tcX7_oneMore_1 = true := by decide +kernel
theorem dX7_oneMore_48 : decode cX7_oneMore 48 = .ok (.if_icmp .ge 73, 3) := chk_nth ocX7_oneMore_1 (k := 0) rfl
theorem dX7_oneMore_51 : decode cX7_oneMore 51 = .ok (.aload_n 0, 1) := chk_nth ocX7_oneMore_1 (k := 1) rfl
theorem dX7_oneMore_52 : decode cX7_oneMore 52 = .ok (.getfield 18, 3) := chk_nth ocX7_oneMore_1 (k := 2) rfl
theorem dX7_oneMore_55 : decode cX7_oneMore 55 = .ok (.iload_n 1, 1) := chk_nth ocX7_oneMore_1 (k := 3) rfl
theorem dX7_oneMore_56 : decode cX7_oneMore 56 = .ok (.iload 5, 2) := chk_nth ocX7_oneMore_1 (k := 4) rfl
theorem dX7_oneMore_58 : decode cX7_oneMore 58 = .ok (.iload 4, 2) := chk_nth ocX7_oneMore_1 (k := 5) rfl
theorem dX7_oneMore_60 : decode cX7_oneMore 60 = .ok (.aload_n 2, 1) := chk_nth ocX7_oneMore_1 (k := 6) rfl
theorem dX7_oneMore_61 : decode cX7_oneMore 61 = .ok (.invokevirtual 61, 3) := chk_nth ocX7_oneMore_1 (k := 7) rfl
theorem dX7_oneMore_64 : decode cX7_oneMore 64 = .ok (.istore 6, 2) := chk_nth ocX7_oneMore_1 (k := 8) rfl
theorem dX7_oneMore_66 : decode cX7_oneMore 66 = .ok (.iload 6, 2) := chk_nth ocX7_oneMore_1 (k := 9) rfl
theorem dX7_oneMore_68 : decode cX7_oneMore 68 = .ok (.invokestatic 44, 3) := chk_nth ocX7_oneMore_1 (k := 10) rfl
theorem dX7_oneMore_71 : decode cX7_oneMore 71 = .ok (.ifCond .eq 23, 3) := chk_nth ocX7_oneMore_1 (k := 11) rfl
theorem dX7_oneMore_74 : decode cX7_oneMore 74 = .ok (.aload_n 0, 1) := chk_nth ocX7_oneMore_1 (k := 12) rfl
theorem dX7_oneMore_75 : decode cX7_oneMore 75 = .ok (.getfield 15, 3) := chk_nth ocX7_oneMore_1 (k := 13) rfl
theorem dX7_oneMore_78 : decode cX7_oneMore 78 = .ok (.iload 6, 2) := chk_nth ocX7_oneMore_1 (k := 14) rfl
theorem dX7_oneMore_80 : decode cX7_oneMore 80 = .ok (.dup2, 1) := chk_nth ocX7_oneMore_1 (k := 15) rfl
theorem dX7_oneMore_81 : decode cX7_oneMore 81 = .ok (.laload, 1) := chk_nth ocX7_oneMore_1 (k := 16) rfl
theorem dX7_oneMore_82 : decode cX7_oneMore 82 = .ok (.aload_n 0, 1) := chk_nth ocX7_oneMore_1 (k := 17) rfl
theorem dX7_oneMore_83 : decode cX7_oneMore 83 = .ok (.getfield 9, 3) := chk_nth ocX7_oneMore_1 (k := 18) rfl
theorem dX7_oneMore_86 : decode cX7_oneMore 86 = .ok (.iload 4, 2) := chk_nth ocX7_oneMore_1 (k := 19) rfl
theorem dX7_oneMore_88 : decode cX7_oneMore 88 = .ok (.laload, 1) := chk_nth ocX7_oneMore_1 (k := 20) rfl
theorem dX7_oneMore_89 : decode cX7_oneMore 89 = .ok (.ladd, 1) := chk_nth ocX7_oneMore_1 (k := 21) rfl
theorem dX7_oneMore_90 : decode cX7_oneMore 90 = .ok (.lastore, 1) := chk_nth ocX7_oneMore_1 (k := 22) rfl
theorem dX7_oneMore_91 : decode cX7_oneMore 91 = .ok (.goto 24, 3) := chk_nth ocX7_oneMore_1 (k := 23) rfl
def tcX7_oneMore_2 : List (Instr × Nat) := [(.iload_n 3, 1), (.ifCond .eq 20, 3), (.aload_n 0, 1), (.getfield 15, 3), (.iload 4, 2), (.dup2, 1), (.laload, 1), (.aload_n 0, 1), (.getfield 9, 3), (.iload 4, 2), (.laload, 1), (.ladd, 1), (.lastore, 1), (.iinc 5 1, 3), (.goto (-82), 3), (.iinc 4 1, 3), (.goto (-113), 3), (.aload_n 0, 1), (.getfield 15, 3), (.iconst 0, 1), (.aload_n 0, 1), (.getfield 9, 3), (.iconst 0, 1), (.bipush 120, 2)]
theorem ocX7_oneMore_2 : chk (cX7_oneMore.data.toList.drop 94) tcX7_oneMore_2 = true := by decide +kernel
theorem dX7_oneMore_94 : decode cX7_oneMore 94 = .ok (.iload_n 3, 1) := chk_nth ocX7_oneMore_2 (k := 0) rfl
theorem dX7_oneMore_95 : decode cX7_oneMore 95 = .ok (.ifCond .eq 20, 3) := chk_nth ocX7_oneMore_2 (k := 1) rfl
theorem dX7_oneMore_98 : decode cX7_oneMore 98 = .ok (.aload_n 0, 1) := chk_nth ocX7_oneMore_2 (k := 2) rfl
theorem dX7_oneMore_99 : decode cX7_oneMore 99 = .ok (.getfield 15, 3) := chk_nth ocX7_oneMore_2 (k := 3) rfl
theorem dX7_oneMore_102 : decode cX7_oneMore 102 = .ok (.iload 4, 2) := chk_nth ocX7_oneMore_2 (k := 4) rfl
theorem dX7_oneMore_104 : decode cX7_oneMore 104 = .ok (.dup2, 1) := chk_nth ocX7_oneMore_2 (k := 5) rfl
theorem dX7_oneMore_105 : decode cX7_oneMore 105 = .ok (.laload, 1) := chk_nth ocX7_oneMore_2 (k := 6) rfl
theorem dX7_oneMore_106 : decode cX7_oneMore 106 = .ok (.aload_n 0, 1) := chk_nth ocX7_oneMore_2 (k := 7) rfl
theorem dX7_oneMore_107 : decode cX7_oneMore 107 = .ok (.getfield 9, 3) := chk_nth ocX7_oneMore_2 (k := 8) rfl
theorem dX7_oneMore_110 : decode cX7_oneMore 110 = .ok (.iload 4, 2) := chk_nth ocX7_oneMore_2 (k := 9) rfl
theorem dX7_oneMore_112 : decode cX7_oneMore 112 = .ok (.laload, 1) := chk_nth ocX7_oneMore_2 (k := 10) rfl
theorem dX7_oneMore_113 : decode cX7_oneMore 113 = .ok (.ladd, 1) := chk_nth ocX7_oneMore_2 (k := 11) rfl
theorem dX7_oneMore_114 : decode cX7_oneMore 114 = .ok (.lastore, 1) := chk_nth ocX7_oneMore_2 (k := 12) rfl
theorem dX7_oneMore_115 : decode cX7_oneMore 115 = .ok (.iinc 5 1, 3) := chk_nth ocX7_oneMore_2 (k := 13) rfl
theorem dX7_oneMore_118 : decode cX7_oneMore 118 = .ok (.goto (-82), 3) := chk_nth ocX7_oneMore_2 (k := 14) rfl
theorem dX7_oneMore_121 : decode cX7_oneMore 121 = .ok (.iinc 4 1, 3) := chk_nth ocX7_oneMore_2 (k := 15) rfl
theorem dX7_oneMore_124 : decode cX7_oneMore 124 = .ok (.goto (-113), 3) := chk_nth ocX7_oneMore_2 (k := 16) rfl
theorem dX7_oneMore_127 : decode cX7_oneMore 127 = .ok (.aload_n 0, 1) := chk_nth ocX7_oneMore_2 (k := 17) rfl
theorem dX7_oneMore_128 : decode cX7_oneMore 128 = .ok (.getfield 15, 3) := chk_nth ocX7_oneMore_2 (k := 18) rfl
theorem dX7_oneMore_131 : decode cX7_oneMore 131 = .ok (.iconst 0, 1) := chk_nth ocX7_oneMore_2 (k := 19) rfl
theorem dX7_oneMore_132 : decode cX7_oneMore 132 = .ok (.aload_n 0, 1) := chk_nth ocX7_oneMore_2 (k := 20) rfl
theorem dX7_oneMore_133 : decode cX7_oneMore 133 = .ok (.getfield 9, 3) := chk_nth ocX7_oneMore_2 (k := 21) rfl
theorem dX7_oneMore_136 : decode cX7_oneMore 136 = .ok (.iconst 0, 1) := chk_nth ocX7_oneMore_2 (k := 22) rfl
theorem dX7_oneMore_137 : decode cX7_oneMore 137 = .ok (.bipush 120, 2) := chk_nth ocX7_oneMore_2 (k := 23) rfl
def tcX7_oneMore_3 : List (Instr × Nat) := [(.invokestatic 65, 3), (.return_, 1)]
theorem ocX7_oneMore_3 : chk (cX7_oneMore.data.toList.drop 139) tcX7_oneMore_3 = true := by decide +kernel
theorem dX7_oneMore_139 : decode cX7_oneMore 139 = .ok (.invokestatic 65, 3) := chk_nth ocX7_oneMore_3 (k := 0) rfl
theorem dX7_oneMore_142 : decode cX7_oneMore 142 = .ok (.return_, 1) := chk_nth ocX7_oneMore_3 (k := 1) rfl
def tcX7_at_0 : List (Instr × Nat) := [(.lconst 0, 1), (.lstore_n 3, 1), (.iconst 0, 1), (.istore 5, 2), (.iload 5, 2), (.bipush 120, 2), (.if_icmp .ge 42, 3), (.iload 5, 2), (.bipush 20, 2), (.idiv, 1), (.iload_n 1, 1), (.if_icmp .ne 27, 3), (.iload_n 2, 1), (.iconst (-1), 1), (.if_icmp .eq 12, 3), (.iload 5, 2), (.bipush 20, 2), (.irem, 1), (.iload_n 2, 1), (.if_icmp .ne 13, 3), (.lload_n 3, 1), (.aload_n 0, 1), (.getfield 9, 3), (.iload 5, 2)]
theorem ocX7_at_0 : chk (cX7_at.data.toList.drop 0) tcX7_at_0 = true := by decide +kernel
theorem dX7_at_0 : decode cX7_at 0 = .ok (.lconst 0, 1) := chk_nth ocX7_at_0 (k := 0) rfl
theorem dX7_at_1 : decode cX7_at 1 = .ok (.lstore_n 3, 1) := chk_nth ocX7_at_0 (k := 1) rfl
theorem dX7_at_2 : decode cX7_at 2 = .ok (.iconst 0, 1) := chk_nth ocX7_at_0 (k := 2) rfl
theorem dX7_at_3 : decode cX7_at 3 = .ok (.istore 5, 2) := chk_nth ocX7_at_0 (k := 3) rfl
theorem dX7_at_5 : decode cX7_at 5 = .ok (.iload 5, 2) := chk_nth ocX7_at_0 (k := 4) rfl
theorem dX7_at_7 : decode cX7_at 7 = .ok (.bipush 120, 2) := chk_nth ocX7_at_0 (k := 5) rfl
theorem dX7_at_9 : decode cX7_at 9 = .ok (.if_icmp .ge 42, 3) := chk_nth ocX7_at_0 (k := 6) rfl
theorem dX7_at_12 : decode cX7_at 12 = .ok (.iload 5, 2) := chk_nth ocX7_at_0 (k := 7) rfl
theorem dX7_at_14 : decode cX7_at 14 = .ok (.bipush 20, 2) := chk_nth ocX7_at_0 (k := 8) rfl
theorem dX7_at_16 : decode cX7_at 16 = .ok (.idiv, 1) := chk_nth ocX7_at_0 (k := 9) rfl
theorem dX7_at_17 : decode cX7_at 17 = .ok (.iload_n 1, 1) := chk_nth ocX7_at_0 (k := 10) rfl
theorem dX7_at_18 : decode cX7_at 18 = .ok (.if_icmp .ne 27, 3) := chk_nth ocX7_at_0 (k := 11) rfl
theorem dX7_at_21 : decode cX7_at 21 = .ok (.iload_n 2, 1) := chk_nth ocX7_at_0 (k := 12) rfl
theorem dX7_at_22 : decode cX7_at 22 = .ok (.iconst (-1), 1) := chk_nth ocX7_at_0 (k := 13) rfl
theorem dX7_at_23 : decode cX7_at 23 = .ok (.if_icmp .eq 12, 3) := chk_nth ocX7_at_0 (k := 14) rfl
theorem dX7_at_26 : decode cX7_at 26 = .ok (.iload 5, 2) := chk_nth ocX7_at_0 (k := 15) rfl
theorem dX7_at_28 : decode cX7_at 28 = .ok (.bipush 20, 2) := chk_nth ocX7_at_0 (k := 16) rfl
theorem dX7_at_30 : decode cX7_at 30 = .ok (.irem, 1) := chk_nth ocX7_at_0 (k := 17) rfl
theorem dX7_at_31 : decode cX7_at 31 = .ok (.iload_n 2, 1) := chk_nth ocX7_at_0 (k := 18) rfl
theorem dX7_at_32 : decode cX7_at 32 = .ok (.if_icmp .ne 13, 3) := chk_nth ocX7_at_0 (k := 19) rfl
theorem dX7_at_35 : decode cX7_at 35 = .ok (.lload_n 3, 1) := chk_nth ocX7_at_0 (k := 20) rfl
theorem dX7_at_36 : decode cX7_at 36 = .ok (.aload_n 0, 1) := chk_nth ocX7_at_0 (k := 21) rfl
theorem dX7_at_37 : decode cX7_at 37 = .ok (.getfield 9, 3) := chk_nth ocX7_at_0 (k := 22) rfl
theorem dX7_at_40 : decode cX7_at 40 = .ok (.iload 5, 2) := chk_nth ocX7_at_0 (k := 23) rfl
def tcX7_at_1 : List (Instr × Nat) := [(.laload, 1), (.ladd, 1), (.lstore_n 3, 1), (.iinc 5 1, 3), (.goto (-43), 3), (.lload_n 3, 1), (.lreturn, 1)]
theorem ocX7_at_1 : chk (cX7_at.data.toList.drop 42) tcX7_at_1 = true := by decide +kernel
theorem dX7_at_42 : decode cX7_at 42 = .ok (.laload, 1) := chk_nth ocX7_at_1 (k := 0) rfl
theorem dX7_at_43 : decode cX7_at 43 = .ok (.ladd, 1) := chk_nth ocX7_at_1 (k := 1) rfl
theorem dX7_at_44 : decode cX7_at 44 = .ok (.lstore_n 3, 1) := chk_nth ocX7_at_1 (k := 2) rfl
theorem dX7_at_45 : decode cX7_at 45 = .ok (.iinc 5 1, 3) := chk_nth ocX7_at_1 (k := 3) rfl
theorem dX7_at_48 : decode cX7_at 48 = .ok (.goto (-43), 3) := chk_nth ocX7_at_1 (k := 4) rfl
theorem dX7_at_51 : decode cX7_at 51 = .ok (.lload_n 3, 1) := chk_nth ocX7_at_1 (k := 5) rfl
theorem dX7_at_52 : decode cX7_at 52 = .ok (.lreturn, 1) := chk_nth ocX7_at_1 (k := 6) rfl
def tcX7_yearsInAll_0 : List (Instr × Nat) := [(.lconst 0, 1), (.lstore_n 1, 1), (.iconst 0, 1), (.istore_n 3, 1), (.iload_n 3, 1), (.bipush 120, 2), (.if_icmp .ge 24, 3), (.lload_n 1, 1), (.aload_n 0, 1), (.getfield 9, 3), (.iload_n 3, 1), (.laload, 1), (.iload_n 3, 1), (.bipush 20, 2), (.irem, 1), (.i2l, 1), (.lmul, 1), (.ladd, 1), (.lstore_n 1, 1), (.iinc 3 1, 3), (.goto (-24), 3), (.lload_n 1, 1), (.lreturn, 1)]
theorem ocX7_yearsInAll_0 : chk (cX7_yearsInAll.data.toList.drop 0) tcX7_yearsInAll_0 = true := by decide +kernel
theorem dX7_yearsInAll_0 : decode cX7_yearsInAll 0 = .ok (.lconst 0, 1) := chk_nth ocX7_yearsInAll_0 (k := 0) rfl
theorem dX7_yearsInAll_1 : decode cX7_yearsInAll 1 = .ok (.lstore_n 1, 1) := chk_nth ocX7_yearsInAll_0 (k := 1) rfl
theorem dX7_yearsInAll_2 : decode cX7_yearsInAll 2 = .ok (.iconst 0, 1) := chk_nth ocX7_yearsInAll_0 (k := 2) rfl
theorem dX7_yearsInAll_3 : decode cX7_yearsInAll 3 = .ok (.istore_n 3, 1) := chk_nth ocX7_yearsInAll_0 (k := 3) rfl
theorem dX7_yearsInAll_4 : decode cX7_yearsInAll 4 = .ok (.iload_n 3, 1) := chk_nth ocX7_yearsInAll_0 (k := 4) rfl
theorem dX7_yearsInAll_5 : decode cX7_yearsInAll 5 = .ok (.bipush 120, 2) := chk_nth ocX7_yearsInAll_0 (k := 5) rfl
theorem dX7_yearsInAll_7 : decode cX7_yearsInAll 7 = .ok (.if_icmp .ge 24, 3) := chk_nth ocX7_yearsInAll_0 (k := 6) rfl
theorem dX7_yearsInAll_10 : decode cX7_yearsInAll 10 = .ok (.lload_n 1, 1) := chk_nth ocX7_yearsInAll_0 (k := 7) rfl
theorem dX7_yearsInAll_11 : decode cX7_yearsInAll 11 = .ok (.aload_n 0, 1) := chk_nth ocX7_yearsInAll_0 (k := 8) rfl
theorem dX7_yearsInAll_12 : decode cX7_yearsInAll 12 = .ok (.getfield 9, 3) := chk_nth ocX7_yearsInAll_0 (k := 9) rfl
theorem dX7_yearsInAll_15 : decode cX7_yearsInAll 15 = .ok (.iload_n 3, 1) := chk_nth ocX7_yearsInAll_0 (k := 10) rfl
theorem dX7_yearsInAll_16 : decode cX7_yearsInAll 16 = .ok (.laload, 1) := chk_nth ocX7_yearsInAll_0 (k := 11) rfl
theorem dX7_yearsInAll_17 : decode cX7_yearsInAll 17 = .ok (.iload_n 3, 1) := chk_nth ocX7_yearsInAll_0 (k := 12) rfl
theorem dX7_yearsInAll_18 : decode cX7_yearsInAll 18 = .ok (.bipush 20, 2) := chk_nth ocX7_yearsInAll_0 (k := 13) rfl
theorem dX7_yearsInAll_20 : decode cX7_yearsInAll 20 = .ok (.irem, 1) := chk_nth ocX7_yearsInAll_0 (k := 14) rfl
theorem dX7_yearsInAll_21 : decode cX7_yearsInAll 21 = .ok (.i2l, 1) := chk_nth ocX7_yearsInAll_0 (k := 15) rfl
theorem dX7_yearsInAll_22 : decode cX7_yearsInAll 22 = .ok (.lmul, 1) := chk_nth ocX7_yearsInAll_0 (k := 16) rfl
theorem dX7_yearsInAll_23 : decode cX7_yearsInAll 23 = .ok (.ladd, 1) := chk_nth ocX7_yearsInAll_0 (k := 17) rfl
theorem dX7_yearsInAll_24 : decode cX7_yearsInAll 24 = .ok (.lstore_n 1, 1) := chk_nth ocX7_yearsInAll_0 (k := 18) rfl
theorem dX7_yearsInAll_25 : decode cX7_yearsInAll 25 = .ok (.iinc 3 1, 3) := chk_nth ocX7_yearsInAll_0 (k := 19) rfl
theorem dX7_yearsInAll_28 : decode cX7_yearsInAll 28 = .ok (.goto (-24), 3) := chk_nth ocX7_yearsInAll_0 (k := 20) rfl
theorem dX7_yearsInAll_31 : decode cX7_yearsInAll 31 = .ok (.lload_n 1, 1) := chk_nth ocX7_yearsInAll_0 (k := 21) rfl
theorem dX7_yearsInAll_32 : decode cX7_yearsInAll 32 = .ok (.lreturn, 1) := chk_nth ocX7_yearsInAll_0 (k := 22) rfl
def tcX8_init_0 : List (Instr × Nat) := [(.aload_n 0, 1), (.invokespecial 3, 3), (.aload_n 0, 1), (.bipush 8, 2), (.newarray .int, 2), (.putfield 9, 3), (.aload_n 0, 1), (.bipush 8, 2), (.newarray .int, 2), (.putfield 15, 3), (.aload_n 0, 1), (.bipush 8, 2), (.newarray .int, 2), (.putfield 18, 3), (.aload_n 0, 1), (.sipush 900, 3), (.newarray .int, 2), (.putfield 21, 3), (.aload_n 0, 1), (.new 24, 3), (.dup, 1), (.invokespecial 26, 3), (.putfield 27, 3), (.aload_n 0, 1)]
theorem ocX8_init_0 : chk (cX8_init.data.toList.drop 0) tcX8_init_0 = true := by decide +kernel
theorem dX8_init_0 : decode cX8_init 0 = .ok (.aload_n 0, 1) := chk_nth ocX8_init_0 (k := 0) rfl
theorem dX8_init_1 : decode cX8_init 1 = .ok (.invokespecial 3, 3) := chk_nth ocX8_init_0 (k := 1) rfl
theorem dX8_init_4 : decode cX8_init 4 = .ok (.aload_n 0, 1) := chk_nth ocX8_init_0 (k := 2) rfl
theorem dX8_init_5 : decode cX8_init 5 = .ok (.bipush 8, 2) := chk_nth ocX8_init_0 (k := 3) rfl
theorem dX8_init_7 : decode cX8_init 7 = .ok (.newarray .int, 2) := chk_nth ocX8_init_0 (k := 4) rfl
theorem dX8_init_9 : decode cX8_init 9 = .ok (.putfield 9, 3) := chk_nth ocX8_init_0 (k := 5) rfl
theorem dX8_init_12 : decode cX8_init 12 = .ok (.aload_n 0, 1) := chk_nth ocX8_init_0 (k := 6) rfl
theorem dX8_init_13 : decode cX8_init 13 = .ok (.bipush 8, 2) := chk_nth ocX8_init_0 (k := 7) rfl
theorem dX8_init_15 : decode cX8_init 15 = .ok (.newarray .int, 2) := chk_nth ocX8_init_0 (k := 8) rfl
theorem dX8_init_17 : decode cX8_init 17 = .ok (.putfield 15, 3) := chk_nth ocX8_init_0 (k := 9) rfl
theorem dX8_init_20 : decode cX8_init 20 = .ok (.aload_n 0, 1) := chk_nth ocX8_init_0 (k := 10) rfl
theorem dX8_init_21 : decode cX8_init 21 = .ok (.bipush 8, 2) := chk_nth ocX8_init_0 (k := 11) rfl
theorem dX8_init_23 : decode cX8_init 23 = .ok (.newarray .int, 2) := chk_nth ocX8_init_0 (k := 12) rfl
theorem dX8_init_25 : decode cX8_init 25 = .ok (.putfield 18, 3) := chk_nth ocX8_init_0 (k := 13) rfl
theorem dX8_init_28 : decode cX8_init 28 = .ok (.aload_n 0, 1) := chk_nth ocX8_init_0 (k := 14) rfl
theorem dX8_init_29 : decode cX8_init 29 = .ok (.sipush 900, 3) := chk_nth ocX8_init_0 (k := 15) rfl
theorem dX8_init_32 : decode cX8_init 32 = .ok (.newarray .int, 2) := chk_nth ocX8_init_0 (k := 16) rfl
theorem dX8_init_34 : decode cX8_init 34 = .ok (.putfield 21, 3) := chk_nth ocX8_init_0 (k := 17) rfl
theorem dX8_init_37 : decode cX8_init 37 = .ok (.aload_n 0, 1) := chk_nth ocX8_init_0 (k := 18) rfl
theorem dX8_init_38 : decode cX8_init 38 = .ok (.new 24, 3) := chk_nth ocX8_init_0 (k := 19) rfl
theorem dX8_init_41 : decode cX8_init 41 = .ok (.dup, 1) := chk_nth ocX8_init_0 (k := 20) rfl
theorem dX8_init_42 : decode cX8_init 42 = .ok (.invokespecial 26, 3) := chk_nth ocX8_init_0 (k := 21) rfl
theorem dX8_init_45 : decode cX8_init 45 = .ok (.putfield 27, 3) := chk_nth ocX8_init_0 (k := 22) rfl
theorem dX8_init_48 : decode cX8_init 48 = .ok (.aload_n 0, 1) := chk_nth ocX8_init_0 (k := 23) rfl
def tcX8_init_1 : List (Instr × Nat) := [(.iconst 1, 1), (.putfield 31, 3), (.return_, 1)]
theorem ocX8_init_1 : chk (cX8_init.data.toList.drop 49) tcX8_init_1 = true := by decide +kernel
theorem dX8_init_49 : decode cX8_init 49 = .ok (.iconst 1, 1) := chk_nth ocX8_init_1 (k := 0) rfl
theorem dX8_init_50 : decode cX8_init 50 = .ok (.putfield 31, 3) := chk_nth ocX8_init_1 (k := 1) rfl
theorem dX8_init_53 : decode cX8_init 53 = .ok (.return_, 1) := chk_nth ocX8_init_1 (k := 2) rfl
def tcX8_hasCorner_0 : List (Instr × Nat) := [(.iload_n 1, 1), (.ifCond .lt 21, 3), (.iload_n 1, 1), (.aload_n 0, 1), (.getfield 31, 3), (.if_icmp .ge 13, 3), (.iload_n 1, 1), (.bipush 6, 2), (.if_icmp .ge 7, 3), (.iconst 1, 1), (.goto 4, 3), (.iconst 0, 1), (.ireturn, 1)]
theorem ocX8_hasCorner_0 : chk (cX8_hasCorner.data.toList.drop 0) tcX8_hasCorner_0 = true := by decide +kernel
theorem dX8_hasCorner_0 : decode cX8_hasCorner 0 = .ok (.iload_n 1, 1) := chk_nth ocX8_hasCorner_0 (k := 0) rfl
theorem dX8_hasCorner_1 : decode cX8_hasCorner 1 = .ok (.ifCond .lt 21, 3) := chk_nth ocX8_hasCorner_0 (k := 1) rfl
theorem dX8_hasCorner_4 : decode cX8_hasCorner 4 = .ok (.iload_n 1, 1) := chk_nth ocX8_hasCorner_0 (k := 2) rfl
theorem dX8_hasCorner_5 : decode cX8_hasCorner 5 = .ok (.aload_n 0, 1) := chk_nth ocX8_hasCorner_0 (k := 3) rfl
theorem dX8_hasCorner_6 : decode cX8_hasCorner 6 = .ok (.getfield 31, 3) := chk_nth ocX8_hasCorner_0 (k := 4) rfl
theorem dX8_hasCorner_9 : decode cX8_hasCorner 9 = .ok (.if_icmp .ge 13, 3) := chk_nth ocX8_hasCorner_0 (k := 5) rfl
theorem dX8_hasCorner_12 : decode cX8_hasCorner 12 = .ok (.iload_n 1, 1) := chk_nth ocX8_hasCorner_0 (k := 6) rfl
theorem dX8_hasCorner_13 : decode cX8_hasCorner 13 = .ok (.bipush 6, 2) := chk_nth ocX8_hasCorner_0 (k := 7) rfl
theorem dX8_hasCorner_15 : decode cX8_hasCorner 15 = .ok (.if_icmp .ge 7, 3) := chk_nth ocX8_hasCorner_0 (k := 8) rfl
theorem dX8_hasCorner_18 : decode cX8_hasCorner 18 = .ok (.iconst 1, 1) := chk_nth ocX8_hasCorner_0 (k := 9) rfl
theorem dX8_hasCorner_19 : decode cX8_hasCorner 19 = .ok (.goto 4, 3) := chk_nth ocX8_hasCorner_0 (k := 10) rfl
theorem dX8_hasCorner_22 : decode cX8_hasCorner 22 = .ok (.iconst 0, 1) := chk_nth ocX8_hasCorner_0 (k := 11) rfl
theorem dX8_hasCorner_23 : decode cX8_hasCorner 23 = .ok (.ireturn, 1) := chk_nth ocX8_hasCorner_0 (k := 12) rfl
def tcX8_hasStreet_0 : List (Instr × Nat) := [(.iload_n 1, 1), (.ifCond .lt 21, 3), (.iload_n 1, 1), (.aload_n 0, 1), (.getfield 35, 3), (.if_icmp .ge 13, 3), (.iload_n 1, 1), (.bipush 8, 2), (.if_icmp .ge 7, 3), (.iconst 1, 1), (.goto 4, 3), (.iconst 0, 1), (.ireturn, 1)]
theorem ocX8_hasStreet_0 : chk (cX8_hasStreet.data.toList.drop 0) tcX8_hasStreet_0 = true := by decide +kernel
theorem dX8_hasStreet_0 : decode cX8_hasStreet 0 = .ok (.iload_n 1, 1) := chk_nth ocX8_hasStreet_0 (k := 0) rfl
theorem dX8_hasStreet_1 : decode cX8_hasStreet 1 = .ok (.ifCond .lt 21, 3) := chk_nth ocX8_hasStreet_0 (k := 1) rfl
theorem dX8_hasStreet_4 : decode cX8_hasStreet 4 = .ok (.iload_n 1, 1) := chk_nth ocX8_hasStreet_0 (k := 2) rfl
theorem dX8_hasStreet_5 : decode cX8_hasStreet 5 = .ok (.aload_n 0, 1) := chk_nth ocX8_hasStreet_0 (k := 3) rfl
theorem dX8_hasStreet_6 : decode cX8_hasStreet 6 = .ok (.getfield 35, 3) := chk_nth ocX8_hasStreet_0 (k := 4) rfl
theorem dX8_hasStreet_9 : decode cX8_hasStreet 9 = .ok (.if_icmp .ge 13, 3) := chk_nth ocX8_hasStreet_0 (k := 5) rfl
theorem dX8_hasStreet_12 : decode cX8_hasStreet 12 = .ok (.iload_n 1, 1) := chk_nth ocX8_hasStreet_0 (k := 6) rfl
theorem dX8_hasStreet_13 : decode cX8_hasStreet 13 = .ok (.bipush 8, 2) := chk_nth ocX8_hasStreet_0 (k := 7) rfl
theorem dX8_hasStreet_15 : decode cX8_hasStreet 15 = .ok (.if_icmp .ge 7, 3) := chk_nth ocX8_hasStreet_0 (k := 8) rfl
theorem dX8_hasStreet_18 : decode cX8_hasStreet 18 = .ok (.iconst 1, 1) := chk_nth ocX8_hasStreet_0 (k := 9) rfl
theorem dX8_hasStreet_19 : decode cX8_hasStreet 19 = .ok (.goto 4, 3) := chk_nth ocX8_hasStreet_0 (k := 10) rfl
theorem dX8_hasStreet_22 : decode cX8_hasStreet 22 = .ok (.iconst 0, 1) := chk_nth ocX8_hasStreet_0 (k := 11) rfl
theorem dX8_hasStreet_23 : decode cX8_hasStreet 23 = .ok (.ireturn, 1) := chk_nth ocX8_hasStreet_0 (k := 12) rfl
def tcX8_hasGoer_0 : List (Instr × Nat) := [(.iload_n 1, 1), (.ifCond .lt 20, 3), (.iload_n 1, 1), (.aload_n 0, 1), (.getfield 38, 3), (.if_icmp .ge 12, 3), (.iload_n 1, 1), (.iconst 3, 1), (.if_icmp .ge 7, 3), (.iconst 1, 1), (.goto 4, 3), (.iconst 0, 1), (.ireturn, 1)]
theorem ocX8_hasGoer_0 : chk (cX8_hasGoer.data.toList.drop 0) tcX8_hasGoer_0 = true := by decide +kernel
theorem dX8_hasGoer_0 : decode cX8_hasGoer 0 = .ok (.iload_n 1, 1) := chk_nth ocX8_hasGoer_0 (k := 0) rfl
theorem dX8_hasGoer_1 : decode cX8_hasGoer 1 = .ok (.ifCond .lt 20, 3) := chk_nth ocX8_hasGoer_0 (k := 1) rfl
theorem dX8_hasGoer_4 : decode cX8_hasGoer 4 = .ok (.iload_n 1, 1) := chk_nth ocX8_hasGoer_0 (k := 2) rfl
theorem dX8_hasGoer_5 : decode cX8_hasGoer 5 = .ok (.aload_n 0, 1) := chk_nth ocX8_hasGoer_0 (k := 3) rfl
theorem dX8_hasGoer_6 : decode cX8_hasGoer 6 = .ok (.getfield 38, 3) := chk_nth ocX8_hasGoer_0 (k := 4) rfl
theorem dX8_hasGoer_9 : decode cX8_hasGoer 9 = .ok (.if_icmp .ge 12, 3) := chk_nth ocX8_hasGoer_0 (k := 5) rfl
theorem dX8_hasGoer_12 : decode cX8_hasGoer 12 = .ok (.iload_n 1, 1) := chk_nth ocX8_hasGoer_0 (k := 6) rfl
theorem dX8_hasGoer_13 : decode cX8_hasGoer 13 = .ok (.iconst 3, 1) := chk_nth ocX8_hasGoer_0 (k := 7) rfl
theorem dX8_hasGoer_14 : decode cX8_hasGoer 14 = .ok (.if_icmp .ge 7, 3) := chk_nth ocX8_hasGoer_0 (k := 8) rfl
theorem dX8_hasGoer_17 : decode cX8_hasGoer 17 = .ok (.iconst 1, 1) := chk_nth ocX8_hasGoer_0 (k := 9) rfl
theorem dX8_hasGoer_18 : decode cX8_hasGoer 18 = .ok (.goto 4, 3) := chk_nth ocX8_hasGoer_0 (k := 10) rfl
theorem dX8_hasGoer_21 : decode cX8_hasGoer 21 = .ok (.iconst 0, 1) := chk_nth ocX8_hasGoer_0 (k := 11) rfl
theorem dX8_hasGoer_22 : decode cX8_hasGoer 22 = .ok (.ireturn, 1) := chk_nth ocX8_hasGoer_0 (k := 12) rfl
def tcX8_allStreets_0 : List (Instr × Nat) := [(.iconst 1, 1), (.aload_n 0, 1), (.getfield 35, 3), (.ishl, 1), (.iconst 1, 1), (.isub, 1), (.ireturn, 1)]
theorem ocX8_allStreets_0 : chk (cX8_allStreets.data.toList.drop 0) tcX8_allStreets_0 = true := by decide +kernel
theorem dX8_allStreets_0 : decode cX8_allStreets 0 = .ok (.iconst 1, 1) := chk_nth ocX8_allStreets_0 (k := 0) rfl
theorem dX8_allStreets_1 : decode cX8_allStreets 1 = .ok (.aload_n 0, 1) := chk_nth ocX8_allStreets_0 (k := 1) rfl
theorem dX8_allStreets_2 : decode cX8_allStreets 2 = .ok (.getfield 35, 3) := chk_nth ocX8_allStreets_0 (k := 2) rfl
theorem dX8_allStreets_5 : decode cX8_allStreets 5 = .ok (.ishl, 1) := chk_nth ocX8_allStreets_0 (k := 3) rfl
theorem dX8_allStreets_6 : decode cX8_allStreets 6 = .ok (.iconst 1, 1) := chk_nth ocX8_allStreets_0 (k := 4) rfl
theorem dX8_allStreets_7 : decode cX8_allStreets 7 = .ok (.isub, 1) := chk_nth ocX8_allStreets_0 (k := 5) rfl
theorem dX8_allStreets_8 : decode cX8_allStreets 8 = .ok (.ireturn, 1) := chk_nth ocX8_allStreets_0 (k := 6) rfl
def tcX8_clear_0 : List (Instr × Nat) := [(.aload_n 0, 1), (.getfield 27, 3), (.invokevirtual 41, 3), (.aload_n 0, 1), (.iconst 1, 1), (.putfield 31, 3), (.aload_n 0, 1), (.iconst 0, 1), (.putfield 35, 3), (.aload_n 0, 1), (.iconst 0, 1), (.putfield 38, 3), (.aload_n 0, 1), (.iconst 0, 1), (.putfield 44, 3), (.aload_n 0, 1), (.iconst 0, 1), (.putfield 47, 3), (.aload_n 0, 1), (.iconst 0, 1), (.putfield 50, 3), (.aload_n 0, 1), (.iconst 0, 1), (.putfield 53, 3)]
theorem ocX8_clear_0 : chk (cX8_clear.data.toList.drop 0) tcX8_clear_0 = true := by decide +kernel
theorem dX8_clear_0 : decode cX8_clear 0 = .ok (.aload_n 0, 1) := chk_nth ocX8_clear_0 (k := 0) rfl
theorem dX8_clear_1 : decode cX8_clear 1 = .ok (.getfield 27, 3) := chk_nth ocX8_clear_0 (k := 1) rfl
theorem dX8_clear_4 : decode cX8_clear 4 = .ok (.invokevirtual 41, 3) := chk_nth ocX8_clear_0 (k := 2) rfl
theorem dX8_clear_7 : decode cX8_clear 7 = .ok (.aload_n 0, 1) := chk_nth ocX8_clear_0 (k := 3) rfl
theorem dX8_clear_8 : decode cX8_clear 8 = .ok (.iconst 1, 1) := chk_nth ocX8_clear_0 (k := 4) rfl
theorem dX8_clear_9 : decode cX8_clear 9 = .ok (.putfield 31, 3) := chk_nth ocX8_clear_0 (k := 5) rfl
theorem dX8_clear_12 : decode cX8_clear 12 = .ok (.aload_n 0, 1) := chk_nth ocX8_clear_0 (k := 6) rfl
theorem dX8_clear_13 : decode cX8_clear 13 = .ok (.iconst 0, 1) := chk_nth ocX8_clear_0 (k := 7) rfl
theorem dX8_clear_14 : decode cX8_clear 14 = .ok (.putfield 35, 3) := chk_nth ocX8_clear_0 (k := 8) rfl
theorem dX8_clear_17 : decode cX8_clear 17 = .ok (.aload_n 0, 1) := chk_nth ocX8_clear_0 (k := 9) rfl
theorem dX8_clear_18 : decode cX8_clear 18 = .ok (.iconst 0, 1) := chk_nth ocX8_clear_0 (k := 10) rfl
theorem dX8_clear_19 : decode cX8_clear 19 = .ok (.putfield 38, 3) := chk_nth ocX8_clear_0 (k := 11) rfl
theorem dX8_clear_22 : decode cX8_clear 22 = .ok (.aload_n 0, 1) := chk_nth ocX8_clear_0 (k := 12) rfl
theorem dX8_clear_23 : decode cX8_clear 23 = .ok (.iconst 0, 1) := chk_nth ocX8_clear_0 (k := 13) rfl
theorem dX8_clear_24 : decode cX8_clear 24 = .ok (.putfield 44, 3) := chk_nth ocX8_clear_0 (k := 14) rfl
theorem dX8_clear_27 : decode cX8_clear 27 = .ok (.aload_n 0, 1) := chk_nth ocX8_clear_0 (k := 15) rfl
theorem dX8_clear_28 : decode cX8_clear 28 = .ok (.iconst 0, 1) := chk_nth ocX8_clear_0 (k := 16) rfl
theorem dX8_clear_29 : decode cX8_clear 29 = .ok (.putfield 47, 3) := chk_nth ocX8_clear_0 (k := 17) rfl
theorem dX8_clear_32 : decode cX8_clear 32 = .ok (.aload_n 0, 1) := chk_nth ocX8_clear_0 (k := 18) rfl
theorem dX8_clear_33 : decode cX8_clear 33 = .ok (.iconst 0, 1) := chk_nth ocX8_clear_0 (k := 19) rfl
theorem dX8_clear_34 : decode cX8_clear 34 = .ok (.putfield 50, 3) := chk_nth ocX8_clear_0 (k := 20) rfl
theorem dX8_clear_37 : decode cX8_clear 37 = .ok (.aload_n 0, 1) := chk_nth ocX8_clear_0 (k := 21) rfl
theorem dX8_clear_38 : decode cX8_clear 38 = .ok (.iconst 0, 1) := chk_nth ocX8_clear_0 (k := 22) rfl
theorem dX8_clear_39 : decode cX8_clear 39 = .ok (.putfield 53, 3) := chk_nth ocX8_clear_0 (k := 23) rfl
def tcX8_clear_1 : List (Instr × Nat) := [(.aload_n 0, 1), (.iconst 0, 1), (.putfield 56, 3), (.aload_n 0, 1), (.iconst 0, 1), (.putfield 59, 3), (.return_, 1)]
theorem ocX8_clear_1 : chk (cX8_clear.data.toList.drop 42) tcX8_clear_1 = true := by decide +kernel
theorem dX8_clear_42 : decode cX8_clear 42 = .ok (.aload_n 0, 1) := chk_nth ocX8_clear_1 (k := 0) rfl
theorem dX8_clear_43 : decode cX8_clear 43 = .ok (.iconst 0, 1) := chk_nth ocX8_clear_1 (k := 1) rfl
theorem dX8_clear_44 : decode cX8_clear 44 = .ok (.putfield 56, 3) := chk_nth ocX8_clear_1 (k := 2) rfl
theorem dX8_clear_47 : decode cX8_clear 47 = .ok (.aload_n 0, 1) := chk_nth ocX8_clear_1 (k := 3) rfl
theorem dX8_clear_48 : decode cX8_clear 48 = .ok (.iconst 0, 1) := chk_nth ocX8_clear_1 (k := 4) rfl
theorem dX8_clear_49 : decode cX8_clear 49 = .ok (.putfield 59, 3) := chk_nth ocX8_clear_1 (k := 5) rfl
theorem dX8_clear_52 : decode cX8_clear 52 = .ok (.return_, 1) := chk_nth ocX8_clear_1 (k := 6) rfl
def tcX8_copyOf_0 : List (Instr × Nat) := [(.aload_n 0, 1), (.getfield 27, 3), (.aload_n 1, 1), (.getfield 27, 3), (.invokevirtual 62, 3), (.aload_n 1, 1), (.getfield 9, 3), (.iconst 0, 1), (.aload_n 0, 1), (.getfield 9, 3), (.iconst 0, 1), (.bipush 8, 2), (.invokestatic 66, 3), (.aload_n 1, 1), (.getfield 15, 3), (.iconst 0, 1), (.aload_n 0, 1), (.getfield 15, 3), (.iconst 0, 1), (.bipush 8, 2), (.invokestatic 66, 3), (.aload_n 1, 1), (.getfield 18, 3), (.iconst 0, 1)]
theorem ocX8_copyOf_0 : chk (cX8_copyOf.data.toList.drop 0) tcX8_copyOf_0 = true := by decide +kernel
theorem dX8_copyOf_0 : decode cX8_copyOf 0 = .ok (.aload_n 0, 1) := chk_nth ocX8_copyOf_0 (k := 0) rfl
theorem dX8_copyOf_1 : decode cX8_copyOf 1 = .ok (.getfield 27, 3) := chk_nth ocX8_copyOf_0 (k := 1) rfl
theorem dX8_copyOf_4 : decode cX8_copyOf 4 = .ok (.aload_n 1, 1) := chk_nth ocX8_copyOf_0 (k := 2) rfl
theorem dX8_copyOf_5 : decode cX8_copyOf 5 = .ok (.getfield 27, 3) := chk_nth ocX8_copyOf_0 (k := 3) rfl
theorem dX8_copyOf_8 : decode cX8_copyOf 8 = .ok (.invokevirtual 62, 3) := chk_nth ocX8_copyOf_0 (k := 4) rfl
theorem dX8_copyOf_11 : decode cX8_copyOf 11 = .ok (.aload_n 1, 1) := chk_nth ocX8_copyOf_0 (k := 5) rfl
theorem dX8_copyOf_12 : decode cX8_copyOf 12 = .ok (.getfield 9, 3) := chk_nth ocX8_copyOf_0 (k := 6) rfl
theorem dX8_copyOf_15 : decode cX8_copyOf 15 = .ok (.iconst 0, 1) := chk_nth ocX8_copyOf_0 (k := 7) rfl
theorem dX8_copyOf_16 : decode cX8_copyOf 16 = .ok (.aload_n 0, 1) := chk_nth ocX8_copyOf_0 (k := 8) rfl
theorem dX8_copyOf_17 : decode cX8_copyOf 17 = .ok (.getfield 9, 3) := chk_nth ocX8_copyOf_0 (k := 9) rfl
theorem dX8_copyOf_20 : decode cX8_copyOf 20 = .ok (.iconst 0, 1) := chk_nth ocX8_copyOf_0 (k := 10) rfl
theorem dX8_copyOf_21 : decode cX8_copyOf 21 = .ok (.bipush 8, 2) := chk_nth ocX8_copyOf_0 (k := 11) rfl
theorem dX8_copyOf_23 : decode cX8_copyOf 23 = .ok (.invokestatic 66, 3) := chk_nth ocX8_copyOf_0 (k := 12) rfl
theorem dX8_copyOf_26 : decode cX8_copyOf 26 = .ok (.aload_n 1, 1) := chk_nth ocX8_copyOf_0 (k := 13) rfl
theorem dX8_copyOf_27 : decode cX8_copyOf 27 = .ok (.getfield 15, 3) := chk_nth ocX8_copyOf_0 (k := 14) rfl
theorem dX8_copyOf_30 : decode cX8_copyOf 30 = .ok (.iconst 0, 1) := chk_nth ocX8_copyOf_0 (k := 15) rfl
theorem dX8_copyOf_31 : decode cX8_copyOf 31 = .ok (.aload_n 0, 1) := chk_nth ocX8_copyOf_0 (k := 16) rfl
theorem dX8_copyOf_32 : decode cX8_copyOf 32 = .ok (.getfield 15, 3) := chk_nth ocX8_copyOf_0 (k := 17) rfl
theorem dX8_copyOf_35 : decode cX8_copyOf 35 = .ok (.iconst 0, 1) := chk_nth ocX8_copyOf_0 (k := 18) rfl
theorem dX8_copyOf_36 : decode cX8_copyOf 36 = .ok (.bipush 8, 2) := chk_nth ocX8_copyOf_0 (k := 19) rfl
theorem dX8_copyOf_38 : decode cX8_copyOf 38 = .ok (.invokestatic 66, 3) := chk_nth ocX8_copyOf_0 (k := 20) rfl
theorem dX8_copyOf_41 : decode cX8_copyOf 41 = .ok (.aload_n 1, 1) := chk_nth ocX8_copyOf_0 (k := 21) rfl
theorem dX8_copyOf_42 : decode cX8_copyOf 42 = .ok (.getfield 18, 3) := chk_nth ocX8_copyOf_0 (k := 22) rfl
theorem dX8_copyOf_45 : decode cX8_copyOf 45 = .ok (.iconst 0, 1) := chk_nth ocX8_copyOf_0 (k := 23) rfl
def tcX8_copyOf_1 : List (Instr × Nat) := [(.aload_n 0, 1), (.getfield 18, 3), (.iconst 0, 1), (.bipush 8, 2), (.invokestatic 66, 3), (.aload_n 1, 1), (.getfield 21, 3), (.iconst 0, 1), (.aload_n 0, 1), (.getfield 21, 3), (.iconst 0, 1), (.aload_n 1, 1), (.getfield 47, 3), (.invokestatic 66, 3), (.aload_n 0, 1), (.aload_n 1, 1), (.getfield 31, 3), (.putfield 31, 3), (.aload_n 0, 1), (.aload_n 1, 1), (.getfield 35, 3), (.putfield 35, 3), (.aload_n 0, 1), (.aload_n 1, 1)]
theorem ocX8_copyOf_1 : chk (cX8_copyOf.data.toList.drop 46) tcX8_copyOf_1 = true := by decide +kernel
theorem dX8_copyOf_46 : decode cX8_copyOf 46 = .ok (.aload_n 0, 1) := chk_nth ocX8_copyOf_1 (k := 0) rfl
theorem dX8_copyOf_47 : decode cX8_copyOf 47 = .ok (.getfield 18, 3) := chk_nth ocX8_copyOf_1 (k := 1) rfl
theorem dX8_copyOf_50 : decode cX8_copyOf 50 = .ok (.iconst 0, 1) := chk_nth ocX8_copyOf_1 (k := 2) rfl
theorem dX8_copyOf_51 : decode cX8_copyOf 51 = .ok (.bipush 8, 2) := chk_nth ocX8_copyOf_1 (k := 3) rfl
theorem dX8_copyOf_53 : decode cX8_copyOf 53 = .ok (.invokestatic 66, 3) := chk_nth ocX8_copyOf_1 (k := 4) rfl
theorem dX8_copyOf_56 : decode cX8_copyOf 56 = .ok (.aload_n 1, 1) := chk_nth ocX8_copyOf_1 (k := 5) rfl
theorem dX8_copyOf_57 : decode cX8_copyOf 57 = .ok (.getfield 21, 3) := chk_nth ocX8_copyOf_1 (k := 6) rfl
theorem dX8_copyOf_60 : decode cX8_copyOf 60 = .ok (.iconst 0, 1) := chk_nth ocX8_copyOf_1 (k := 7) rfl
theorem dX8_copyOf_61 : decode cX8_copyOf 61 = .ok (.aload_n 0, 1) := chk_nth ocX8_copyOf_1 (k := 8) rfl
theorem dX8_copyOf_62 : decode cX8_copyOf 62 = .ok (.getfield 21, 3) := chk_nth ocX8_copyOf_1 (k := 9) rfl
theorem dX8_copyOf_65 : decode cX8_copyOf 65 = .ok (.iconst 0, 1) := chk_nth ocX8_copyOf_1 (k := 10) rfl
theorem dX8_copyOf_66 : decode cX8_copyOf 66 = .ok (.aload_n 1, 1) := chk_nth ocX8_copyOf_1 (k := 11) rfl
theorem dX8_copyOf_67 : decode cX8_copyOf 67 = .ok (.getfield 47, 3) := chk_nth ocX8_copyOf_1 (k := 12) rfl
theorem dX8_copyOf_70 : decode cX8_copyOf 70 = .ok (.invokestatic 66, 3) := chk_nth ocX8_copyOf_1 (k := 13) rfl
theorem dX8_copyOf_73 : decode cX8_copyOf 73 = .ok (.aload_n 0, 1) := chk_nth ocX8_copyOf_1 (k := 14) rfl
theorem dX8_copyOf_74 : decode cX8_copyOf 74 = .ok (.aload_n 1, 1) := chk_nth ocX8_copyOf_1 (k := 15) rfl
theorem dX8_copyOf_75 : decode cX8_copyOf 75 = .ok (.getfield 31, 3) := chk_nth ocX8_copyOf_1 (k := 16) rfl
theorem dX8_copyOf_78 : decode cX8_copyOf 78 = .ok (.putfield 31, 3) := chk_nth ocX8_copyOf_1 (k := 17) rfl
theorem dX8_copyOf_81 : decode cX8_copyOf 81 = .ok (.aload_n 0, 1) := chk_nth ocX8_copyOf_1 (k := 18) rfl
theorem dX8_copyOf_82 : decode cX8_copyOf 82 = .ok (.aload_n 1, 1) := chk_nth ocX8_copyOf_1 (k := 19) rfl
theorem dX8_copyOf_83 : decode cX8_copyOf 83 = .ok (.getfield 35, 3) := chk_nth ocX8_copyOf_1 (k := 20) rfl
theorem dX8_copyOf_86 : decode cX8_copyOf 86 = .ok (.putfield 35, 3) := chk_nth ocX8_copyOf_1 (k := 21) rfl
theorem dX8_copyOf_89 : decode cX8_copyOf 89 = .ok (.aload_n 0, 1) := chk_nth ocX8_copyOf_1 (k := 22) rfl
theorem dX8_copyOf_90 : decode cX8_copyOf 90 = .ok (.aload_n 1, 1) := chk_nth ocX8_copyOf_1 (k := 23) rfl
def tcX8_copyOf_2 : List (Instr × Nat) := [(.getfield 38, 3), (.putfield 38, 3), (.aload_n 0, 1), (.aload_n 1, 1), (.getfield 44, 3), (.putfield 44, 3), (.aload_n 0, 1), (.aload_n 1, 1), (.getfield 47, 3), (.putfield 47, 3), (.aload_n 0, 1), (.aload_n 1, 1), (.getfield 50, 3), (.putfield 50, 3), (.aload_n 0, 1), (.aload_n 1, 1), (.getfield 53, 3), (.putfield 53, 3), (.aload_n 0, 1), (.aload_n 1, 1), (.getfield 56, 3), (.putfield 56, 3), (.aload_n 0, 1), (.aload_n 1, 1)]
theorem ocX8_copyOf_2 : chk (cX8_copyOf.data.toList.drop 91) tcX8_copyOf_2 = true := by decide +kernel
theorem dX8_copyOf_91 : decode cX8_copyOf 91 = .ok (.getfield 38, 3) := chk_nth ocX8_copyOf_2 (k := 0) rfl
theorem dX8_copyOf_94 : decode cX8_copyOf 94 = .ok (.putfield 38, 3) := chk_nth ocX8_copyOf_2 (k := 1) rfl
theorem dX8_copyOf_97 : decode cX8_copyOf 97 = .ok (.aload_n 0, 1) := chk_nth ocX8_copyOf_2 (k := 2) rfl
theorem dX8_copyOf_98 : decode cX8_copyOf 98 = .ok (.aload_n 1, 1) := chk_nth ocX8_copyOf_2 (k := 3) rfl
theorem dX8_copyOf_99 : decode cX8_copyOf 99 = .ok (.getfield 44, 3) := chk_nth ocX8_copyOf_2 (k := 4) rfl
theorem dX8_copyOf_102 : decode cX8_copyOf 102 = .ok (.putfield 44, 3) := chk_nth ocX8_copyOf_2 (k := 5) rfl
theorem dX8_copyOf_105 : decode cX8_copyOf 105 = .ok (.aload_n 0, 1) := chk_nth ocX8_copyOf_2 (k := 6) rfl
theorem dX8_copyOf_106 : decode cX8_copyOf 106 = .ok (.aload_n 1, 1) := chk_nth ocX8_copyOf_2 (k := 7) rfl
theorem dX8_copyOf_107 : decode cX8_copyOf 107 = .ok (.getfield 47, 3) := chk_nth ocX8_copyOf_2 (k := 8) rfl
theorem dX8_copyOf_110 : decode cX8_copyOf 110 = .ok (.putfield 47, 3) := chk_nth ocX8_copyOf_2 (k := 9) rfl
theorem dX8_copyOf_113 : decode cX8_copyOf 113 = .ok (.aload_n 0, 1) := chk_nth ocX8_copyOf_2 (k := 10) rfl
theorem dX8_copyOf_114 : decode cX8_copyOf 114 = .ok (.aload_n 1, 1) := chk_nth ocX8_copyOf_2 (k := 11) rfl
theorem dX8_copyOf_115 : decode cX8_copyOf 115 = .ok (.getfield 50, 3) := chk_nth ocX8_copyOf_2 (k := 12) rfl
theorem dX8_copyOf_118 : decode cX8_copyOf 118 = .ok (.putfield 50, 3) := chk_nth ocX8_copyOf_2 (k := 13) rfl
theorem dX8_copyOf_121 : decode cX8_copyOf 121 = .ok (.aload_n 0, 1) := chk_nth ocX8_copyOf_2 (k := 14) rfl
theorem dX8_copyOf_122 : decode cX8_copyOf 122 = .ok (.aload_n 1, 1) := chk_nth ocX8_copyOf_2 (k := 15) rfl
theorem dX8_copyOf_123 : decode cX8_copyOf 123 = .ok (.getfield 53, 3) := chk_nth ocX8_copyOf_2 (k := 16) rfl
theorem dX8_copyOf_126 : decode cX8_copyOf 126 = .ok (.putfield 53, 3) := chk_nth ocX8_copyOf_2 (k := 17) rfl
theorem dX8_copyOf_129 : decode cX8_copyOf 129 = .ok (.aload_n 0, 1) := chk_nth ocX8_copyOf_2 (k := 18) rfl
theorem dX8_copyOf_130 : decode cX8_copyOf 130 = .ok (.aload_n 1, 1) := chk_nth ocX8_copyOf_2 (k := 19) rfl
theorem dX8_copyOf_131 : decode cX8_copyOf 131 = .ok (.getfield 56, 3) := chk_nth ocX8_copyOf_2 (k := 20) rfl
theorem dX8_copyOf_134 : decode cX8_copyOf 134 = .ok (.putfield 56, 3) := chk_nth ocX8_copyOf_2 (k := 21) rfl
theorem dX8_copyOf_137 : decode cX8_copyOf 137 = .ok (.aload_n 0, 1) := chk_nth ocX8_copyOf_2 (k := 22) rfl
theorem dX8_copyOf_138 : decode cX8_copyOf 138 = .ok (.aload_n 1, 1) := chk_nth ocX8_copyOf_2 (k := 23) rfl
def tcX8_copyOf_3 : List (Instr × Nat) := [(.getfield 59, 3), (.putfield 59, 3), (.return_, 1)]
theorem ocX8_copyOf_3 : chk (cX8_copyOf.data.toList.drop 139) tcX8_copyOf_3 = true := by decide +kernel
theorem dX8_copyOf_139 : decode cX8_copyOf 139 = .ok (.getfield 59, 3) := chk_nth ocX8_copyOf_3 (k := 0) rfl
theorem dX8_copyOf_142 : decode cX8_copyOf 142 = .ok (.putfield 59, 3) := chk_nth ocX8_copyOf_3 (k := 1) rfl
theorem dX8_copyOf_145 : decode cX8_copyOf 145 = .ok (.return_, 1) := chk_nth ocX8_copyOf_3 (k := 2) rfl
def tcX8_addStreet_0 : List (Instr × Nat) := [(.aload_n 0, 1), (.getfield 35, 3), (.bipush 8, 2), (.if_icmp .ge 55, 3), (.aload_n 0, 1), (.getfield 9, 3), (.aload_n 0, 1), (.getfield 35, 3), (.iload_n 1, 1), (.iastore, 1), (.aload_n 0, 1), (.getfield 15, 3), (.aload_n 0, 1), (.getfield 35, 3), (.iload_n 2, 1), (.iastore, 1), (.aload_n 0, 1), (.getfield 18, 3), (.aload_n 0, 1), (.getfield 35, 3), (.iconst 0, 1), (.iastore, 1), (.aload_n 0, 1), (.getfield 27, 3)]
theorem ocX8_addStreet_0 : chk (cX8_addStreet.data.toList.drop 0) tcX8_addStreet_0 = true := by decide +kernel
theorem dX8_addStreet_0 : decode cX8_addStreet 0 = .ok (.aload_n 0, 1) := chk_nth ocX8_addStreet_0 (k := 0) rfl
theorem dX8_addStreet_1 : decode cX8_addStreet 1 = .ok (.getfield 35, 3) := chk_nth ocX8_addStreet_0 (k := 1) rfl
theorem dX8_addStreet_4 : decode cX8_addStreet 4 = .ok (.bipush 8, 2) := chk_nth ocX8_addStreet_0 (k := 2) rfl
theorem dX8_addStreet_6 : decode cX8_addStreet 6 = .ok (.if_icmp .ge 55, 3) := chk_nth ocX8_addStreet_0 (k := 3) rfl
theorem dX8_addStreet_9 : decode cX8_addStreet 9 = .ok (.aload_n 0, 1) := chk_nth ocX8_addStreet_0 (k := 4) rfl
theorem dX8_addStreet_10 : decode cX8_addStreet 10 = .ok (.getfield 9, 3) := chk_nth ocX8_addStreet_0 (k := 5) rfl
theorem dX8_addStreet_13 : decode cX8_addStreet 13 = .ok (.aload_n 0, 1) := chk_nth ocX8_addStreet_0 (k := 6) rfl
theorem dX8_addStreet_14 : decode cX8_addStreet 14 = .ok (.getfield 35, 3) := chk_nth ocX8_addStreet_0 (k := 7) rfl
theorem dX8_addStreet_17 : decode cX8_addStreet 17 = .ok (.iload_n 1, 1) := chk_nth ocX8_addStreet_0 (k := 8) rfl
theorem dX8_addStreet_18 : decode cX8_addStreet 18 = .ok (.iastore, 1) := chk_nth ocX8_addStreet_0 (k := 9) rfl
theorem dX8_addStreet_19 : decode cX8_addStreet 19 = .ok (.aload_n 0, 1) := chk_nth ocX8_addStreet_0 (k := 10) rfl
theorem dX8_addStreet_20 : decode cX8_addStreet 20 = .ok (.getfield 15, 3) := chk_nth ocX8_addStreet_0 (k := 11) rfl
theorem dX8_addStreet_23 : decode cX8_addStreet 23 = .ok (.aload_n 0, 1) := chk_nth ocX8_addStreet_0 (k := 12) rfl
theorem dX8_addStreet_24 : decode cX8_addStreet 24 = .ok (.getfield 35, 3) := chk_nth ocX8_addStreet_0 (k := 13) rfl
theorem dX8_addStreet_27 : decode cX8_addStreet 27 = .ok (.iload_n 2, 1) := chk_nth ocX8_addStreet_0 (k := 14) rfl
theorem dX8_addStreet_28 : decode cX8_addStreet 28 = .ok (.iastore, 1) := chk_nth ocX8_addStreet_0 (k := 15) rfl
theorem dX8_addStreet_29 : decode cX8_addStreet 29 = .ok (.aload_n 0, 1) := chk_nth ocX8_addStreet_0 (k := 16) rfl
theorem dX8_addStreet_30 : decode cX8_addStreet 30 = .ok (.getfield 18, 3) := chk_nth ocX8_addStreet_0 (k := 17) rfl
theorem dX8_addStreet_33 : decode cX8_addStreet 33 = .ok (.aload_n 0, 1) := chk_nth ocX8_addStreet_0 (k := 18) rfl
theorem dX8_addStreet_34 : decode cX8_addStreet 34 = .ok (.getfield 35, 3) := chk_nth ocX8_addStreet_0 (k := 19) rfl
theorem dX8_addStreet_37 : decode cX8_addStreet 37 = .ok (.iconst 0, 1) := chk_nth ocX8_addStreet_0 (k := 20) rfl
theorem dX8_addStreet_38 : decode cX8_addStreet 38 = .ok (.iastore, 1) := chk_nth ocX8_addStreet_0 (k := 21) rfl
theorem dX8_addStreet_39 : decode cX8_addStreet 39 = .ok (.aload_n 0, 1) := chk_nth ocX8_addStreet_0 (k := 22) rfl
theorem dX8_addStreet_40 : decode cX8_addStreet 40 = .ok (.getfield 27, 3) := chk_nth ocX8_addStreet_0 (k := 23) rfl
def tcX8_addStreet_1 : List (Instr × Nat) := [(.aload_n 0, 1), (.getfield 35, 3), (.iconst 0, 1), (.invokevirtual 72, 3), (.aload_n 0, 1), (.dup, 1), (.getfield 35, 3), (.iconst 1, 1), (.iadd, 1), (.putfield 35, 3), (.return_, 1)]
theorem ocX8_addStreet_1 : chk (cX8_addStreet.data.toList.drop 43) tcX8_addStreet_1 = true := by decide +kernel
theorem dX8_addStreet_43 : decode cX8_addStreet 43 = .ok (.aload_n 0, 1) := chk_nth ocX8_addStreet_1 (k := 0) rfl
theorem dX8_addStreet_44 : decode cX8_addStreet 44 = .ok (.getfield 35, 3) := chk_nth ocX8_addStreet_1 (k := 1) rfl
theorem dX8_addStreet_47 : decode cX8_addStreet 47 = .ok (.iconst 0, 1) := chk_nth ocX8_addStreet_1 (k := 2) rfl
theorem dX8_addStreet_48 : decode cX8_addStreet 48 = .ok (.invokevirtual 72, 3) := chk_nth ocX8_addStreet_1 (k := 3) rfl
theorem dX8_addStreet_51 : decode cX8_addStreet 51 = .ok (.aload_n 0, 1) := chk_nth ocX8_addStreet_1 (k := 4) rfl
theorem dX8_addStreet_52 : decode cX8_addStreet 52 = .ok (.dup, 1) := chk_nth ocX8_addStreet_1 (k := 5) rfl
theorem dX8_addStreet_53 : decode cX8_addStreet 53 = .ok (.getfield 35, 3) := chk_nth ocX8_addStreet_1 (k := 6) rfl
theorem dX8_addStreet_56 : decode cX8_addStreet 56 = .ok (.iconst 1, 1) := chk_nth ocX8_addStreet_1 (k := 7) rfl
theorem dX8_addStreet_57 : decode cX8_addStreet 57 = .ok (.iadd, 1) := chk_nth ocX8_addStreet_1 (k := 8) rfl
theorem dX8_addStreet_58 : decode cX8_addStreet 58 = .ok (.putfield 35, 3) := chk_nth ocX8_addStreet_1 (k := 9) rfl
theorem dX8_addStreet_61 : decode cX8_addStreet 61 = .ok (.return_, 1) := chk_nth ocX8_addStreet_1 (k := 10) rfl
def tcX8_setYears_0 : List (Instr × Nat) := [(.aload_n 0, 1), (.getfield 35, 3), (.ifCond .le 24, 3), (.aload_n 0, 1), (.getfield 35, 3), (.bipush 8, 2), (.if_icmp .gt 15, 3), (.aload_n 0, 1), (.getfield 18, 3), (.aload_n 0, 1), (.getfield 35, 3), (.iconst 1, 1), (.isub, 1), (.iload_n 1, 1), (.iastore, 1), (.return_, 1)]
theorem ocX8_setYears_0 : chk (cX8_setYears.data.toList.drop 0) tcX8_setYears_0 = true := by decide +kernel
theorem dX8_setYears_0 : decode cX8_setYears 0 = .ok (.aload_n 0, 1) := chk_nth ocX8_setYears_0 (k := 0) rfl
theorem dX8_setYears_1 : decode cX8_setYears 1 = .ok (.getfield 35, 3) := chk_nth ocX8_setYears_0 (k := 1) rfl
theorem dX8_setYears_4 : decode cX8_setYears 4 = .ok (.ifCond .le 24, 3) := chk_nth ocX8_setYears_0 (k := 2) rfl
theorem dX8_setYears_7 : decode cX8_setYears 7 = .ok (.aload_n 0, 1) := chk_nth ocX8_setYears_0 (k := 3) rfl
theorem dX8_setYears_8 : decode cX8_setYears 8 = .ok (.getfield 35, 3) := chk_nth ocX8_setYears_0 (k := 4) rfl
theorem dX8_setYears_11 : decode cX8_setYears 11 = .ok (.bipush 8, 2) := chk_nth ocX8_setYears_0 (k := 5) rfl
theorem dX8_setYears_13 : decode cX8_setYears 13 = .ok (.if_icmp .gt 15, 3) := chk_nth ocX8_setYears_0 (k := 6) rfl
theorem dX8_setYears_16 : decode cX8_setYears 16 = .ok (.aload_n 0, 1) := chk_nth ocX8_setYears_0 (k := 7) rfl
theorem dX8_setYears_17 : decode cX8_setYears 17 = .ok (.getfield 18, 3) := chk_nth ocX8_setYears_0 (k := 8) rfl
theorem dX8_setYears_20 : decode cX8_setYears 20 = .ok (.aload_n 0, 1) := chk_nth ocX8_setYears_0 (k := 9) rfl
theorem dX8_setYears_21 : decode cX8_setYears 21 = .ok (.getfield 35, 3) := chk_nth ocX8_setYears_0 (k := 10) rfl
theorem dX8_setYears_24 : decode cX8_setYears 24 = .ok (.iconst 1, 1) := chk_nth ocX8_setYears_0 (k := 11) rfl
theorem dX8_setYears_25 : decode cX8_setYears 25 = .ok (.isub, 1) := chk_nth ocX8_setYears_0 (k := 12) rfl
theorem dX8_setYears_26 : decode cX8_setYears 26 = .ok (.iload_n 1, 1) := chk_nth ocX8_setYears_0 (k := 13) rfl
theorem dX8_setYears_27 : decode cX8_setYears 27 = .ok (.iastore, 1) := chk_nth ocX8_setYears_0 (k := 14) rfl
theorem dX8_setYears_28 : decode cX8_setYears 28 = .ok (.return_, 1) := chk_nth ocX8_setYears_0 (k := 15) rfl
def tcX8_addCode_0 : List (Instr × Nat) := [(.aload_n 0, 1), (.getfield 47, 3), (.sipush 900, 3), (.if_icmp .ge 23, 3), (.aload_n 0, 1), (.getfield 21, 3), (.aload_n 0, 1), (.getfield 47, 3), (.iload_n 1, 1), (.iastore, 1), (.aload_n 0, 1), (.dup, 1), (.getfield 47, 3), (.iconst 1, 1), (.iadd, 1), (.putfield 47, 3), (.return_, 1)]
theorem ocX8_addCode_0 : chk (cX8_addCode.data.toList.drop 0) tcX8_addCode_0 = true := by decide +kernel
theorem dX8_addCode_0 : decode cX8_addCode 0 = .ok (.aload_n 0, 1) := chk_nth ocX8_addCode_0 (k := 0) rfl
theorem dX8_addCode_1 : decode cX8_addCode 1 = .ok (.getfield 47, 3) := chk_nth ocX8_addCode_0 (k := 1) rfl
theorem dX8_addCode_4 : decode cX8_addCode 4 = .ok (.sipush 900, 3) := chk_nth ocX8_addCode_0 (k := 2) rfl
theorem dX8_addCode_7 : decode cX8_addCode 7 = .ok (.if_icmp .ge 23, 3) := chk_nth ocX8_addCode_0 (k := 3) rfl
theorem dX8_addCode_10 : decode cX8_addCode 10 = .ok (.aload_n 0, 1) := chk_nth ocX8_addCode_0 (k := 4) rfl
theorem dX8_addCode_11 : decode cX8_addCode 11 = .ok (.getfield 21, 3) := chk_nth ocX8_addCode_0 (k := 5) rfl
theorem dX8_addCode_14 : decode cX8_addCode 14 = .ok (.aload_n 0, 1) := chk_nth ocX8_addCode_0 (k := 6) rfl
theorem dX8_addCode_15 : decode cX8_addCode 15 = .ok (.getfield 47, 3) := chk_nth ocX8_addCode_0 (k := 7) rfl
theorem dX8_addCode_18 : decode cX8_addCode 18 = .ok (.iload_n 1, 1) := chk_nth ocX8_addCode_0 (k := 8) rfl
theorem dX8_addCode_19 : decode cX8_addCode 19 = .ok (.iastore, 1) := chk_nth ocX8_addCode_0 (k := 9) rfl
theorem dX8_addCode_20 : decode cX8_addCode 20 = .ok (.aload_n 0, 1) := chk_nth ocX8_addCode_0 (k := 10) rfl
theorem dX8_addCode_21 : decode cX8_addCode 21 = .ok (.dup, 1) := chk_nth ocX8_addCode_0 (k := 11) rfl
theorem dX8_addCode_22 : decode cX8_addCode 22 = .ok (.getfield 47, 3) := chk_nth ocX8_addCode_0 (k := 12) rfl
theorem dX8_addCode_25 : decode cX8_addCode 25 = .ok (.iconst 1, 1) := chk_nth ocX8_addCode_0 (k := 13) rfl
theorem dX8_addCode_26 : decode cX8_addCode 26 = .ok (.iadd, 1) := chk_nth ocX8_addCode_0 (k := 14) rfl
theorem dX8_addCode_27 : decode cX8_addCode 27 = .ok (.putfield 47, 3) := chk_nth ocX8_addCode_0 (k := 15) rfl
theorem dX8_addCode_30 : decode cX8_addCode 30 = .ok (.return_, 1) := chk_nth ocX8_addCode_0 (k := 16) rfl
def tcX9_init_0 : List (Instr × Nat) := [(.aload_n 0, 1), (.invokespecial 3, 3), (.aload_n 0, 1), (.bipush 40, 2), (.newarray .long, 2), (.putfield 9, 3), (.aload_n 0, 1), (.iconst (-1), 1), (.putfield 15, 3), (.return_, 1)]
theorem ocX9_init_0 : chk (cX9_init.data.toList.drop 0) tcX9_init_0 = true := by decide +kernel
theorem dX9_init_0 : decode cX9_init 0 = .ok (.aload_n 0, 1) := chk_nth ocX9_init_0 (k := 0) rfl
theorem dX9_init_1 : decode cX9_init 1 = .ok (.invokespecial 3, 3) := chk_nth ocX9_init_0 (k := 1) rfl
theorem dX9_init_4 : decode cX9_init 4 = .ok (.aload_n 0, 1) := chk_nth ocX9_init_0 (k := 2) rfl
theorem dX9_init_5 : decode cX9_init 5 = .ok (.bipush 40, 2) := chk_nth ocX9_init_0 (k := 3) rfl
theorem dX9_init_7 : decode cX9_init 7 = .ok (.newarray .long, 2) := chk_nth ocX9_init_0 (k := 4) rfl
theorem dX9_init_9 : decode cX9_init 9 = .ok (.putfield 9, 3) := chk_nth ocX9_init_0 (k := 5) rfl
theorem dX9_init_12 : decode cX9_init 12 = .ok (.aload_n 0, 1) := chk_nth ocX9_init_0 (k := 6) rfl
theorem dX9_init_13 : decode cX9_init 13 = .ok (.iconst (-1), 1) := chk_nth ocX9_init_0 (k := 7) rfl
theorem dX9_init_14 : decode cX9_init 14 = .ok (.putfield 15, 3) := chk_nth ocX9_init_0 (k := 8) rfl
theorem dX9_init_17 : decode cX9_init 17 = .ok (.return_, 1) := chk_nth ocX9_init_0 (k := 9) rfl
def tcX9_isMissing_0 : List (Instr × Nat) := [(.aload_n 0, 1), (.getfield 15, 3), (.iconst (-1), 1), (.if_icmp .ne 7, 3), (.iconst 1, 1), (.goto 4, 3), (.iconst 0, 1), (.ireturn, 1)]
theorem ocX9_isMissing_0 : chk (cX9_isMissing.data.toList.drop 0) tcX9_isMissing_0 = true := by decide +kernel
theorem dX9_isMissing_0 : decode cX9_isMissing 0 = .ok (.aload_n 0, 1) := chk_nth ocX9_isMissing_0 (k := 0) rfl
theorem dX9_isMissing_1 : decode cX9_isMissing 1 = .ok (.getfield 15, 3) := chk_nth ocX9_isMissing_0 (k := 1) rfl
theorem dX9_isMissing_4 : decode cX9_isMissing 4 = .ok (.iconst (-1), 1) := chk_nth ocX9_isMissing_0 (k := 2) rfl
theorem dX9_isMissing_5 : decode cX9_isMissing 5 = .ok (.if_icmp .ne 7, 3) := chk_nth ocX9_isMissing_0 (k := 3) rfl
theorem dX9_isMissing_8 : decode cX9_isMissing 8 = .ok (.iconst 1, 1) := chk_nth ocX9_isMissing_0 (k := 4) rfl
theorem dX9_isMissing_9 : decode cX9_isMissing 9 = .ok (.goto 4, 3) := chk_nth ocX9_isMissing_0 (k := 5) rfl
theorem dX9_isMissing_12 : decode cX9_isMissing 12 = .ok (.iconst 0, 1) := chk_nth ocX9_isMissing_0 (k := 6) rfl
theorem dX9_isMissing_13 : decode cX9_isMissing 13 = .ok (.ireturn, 1) := chk_nth ocX9_isMissing_0 (k := 7) rfl
def tcX9_hasPlace_0 : List (Instr × Nat) := [(.iload_n 1, 1), (.ifCond .lt 24, 3), (.iload_n 1, 1), (.aload_n 0, 1), (.getfield 15, 3), (.if_icmp .ge 16, 3), (.iload_n 1, 1), (.aload_n 0, 1), (.getfield 9, 3), (.arraylength, 1), (.if_icmp .ge 7, 3), (.iconst 1, 1), (.goto 4, 3), (.iconst 0, 1), (.ireturn, 1)]
theorem ocX9_hasPlace_0 : chk (cX9_hasPlace.data.toList.drop 0) tcX9_hasPlace_0 = true := by decide +kernel
theorem dX9_hasPlace_0 : decode cX9_hasPlace 0 = .ok (.iload_n 1, 1) := chk_nth ocX9_hasPlace_0 (k := 0) rfl
theorem dX9_hasPlace_1 : decode cX9_hasPlace 1 = .ok (.ifCond .lt 24, 3) := chk_nth ocX9_hasPlace_0 (k := 1) rfl
theorem dX9_hasPlace_4 : decode cX9_hasPlace 4 = .ok (.iload_n 1, 1) := chk_nth ocX9_hasPlace_0 (k := 2) rfl
theorem dX9_hasPlace_5 : decode cX9_hasPlace 5 = .ok (.aload_n 0, 1) := chk_nth ocX9_hasPlace_0 (k := 3) rfl
theorem dX9_hasPlace_6 : decode cX9_hasPlace 6 = .ok (.getfield 15, 3) := chk_nth ocX9_hasPlace_0 (k := 4) rfl
theorem dX9_hasPlace_9 : decode cX9_hasPlace 9 = .ok (.if_icmp .ge 16, 3) := chk_nth ocX9_hasPlace_0 (k := 5) rfl
theorem dX9_hasPlace_12 : decode cX9_hasPlace 12 = .ok (.iload_n 1, 1) := chk_nth ocX9_hasPlace_0 (k := 6) rfl
theorem dX9_hasPlace_13 : decode cX9_hasPlace 13 = .ok (.aload_n 0, 1) := chk_nth ocX9_hasPlace_0 (k := 7) rfl
theorem dX9_hasPlace_14 : decode cX9_hasPlace 14 = .ok (.getfield 9, 3) := chk_nth ocX9_hasPlace_0 (k := 8) rfl
theorem dX9_hasPlace_17 : decode cX9_hasPlace 17 = .ok (.arraylength, 1) := chk_nth ocX9_hasPlace_0 (k := 9) rfl
theorem dX9_hasPlace_18 : decode cX9_hasPlace 18 = .ok (.if_icmp .ge 7, 3) := chk_nth ocX9_hasPlace_0 (k := 10) rfl
theorem dX9_hasPlace_21 : decode cX9_hasPlace 21 = .ok (.iconst 1, 1) := chk_nth ocX9_hasPlace_0 (k := 11) rfl
theorem dX9_hasPlace_22 : decode cX9_hasPlace 22 = .ok (.goto 4, 3) := chk_nth ocX9_hasPlace_0 (k := 12) rfl
theorem dX9_hasPlace_25 : decode cX9_hasPlace 25 = .ok (.iconst 0, 1) := chk_nth ocX9_hasPlace_0 (k := 13) rfl
theorem dX9_hasPlace_26 : decode cX9_hasPlace 26 = .ok (.ireturn, 1) := chk_nth ocX9_hasPlace_0 (k := 14) rfl
def tcX9_begin_0 : List (Instr × Nat) := [(.aload_n 0, 1), (.getfield 9, 3), (.lconst 0, 1), (.invokestatic 19, 3), (.aload_n 0, 1), (.iload_n 1, 1), (.putfield 25, 3), (.aload_n 0, 1), (.iload_n 2, 1), (.putfield 15, 3), (.return_, 1)]
theorem ocX9_begin_0 : chk (cX9_begin.data.toList.drop 0) tcX9_begin_0 = true := by decide +kernel
theorem dX9_begin_0 : decode cX9_begin 0 = .ok (.aload_n 0, 1) := chk_nth ocX9_begin_0 (k := 0) rfl
theorem dX9_begin_1 : decode cX9_begin 1 = .ok (.getfield 9, 3) := chk_nth ocX9_begin_0 (k := 1) rfl
theorem dX9_begin_4 : decode cX9_begin 4 = .ok (.lconst 0, 1) := chk_nth ocX9_begin_0 (k := 2) rfl
theorem dX9_begin_5 : decode cX9_begin 5 = .ok (.invokestatic 19, 3) := chk_nth ocX9_begin_0 (k := 3) rfl
theorem dX9_begin_8 : decode cX9_begin 8 = .ok (.aload_n 0, 1) := chk_nth ocX9_begin_0 (k := 4) rfl
theorem dX9_begin_9 : decode cX9_begin 9 = .ok (.iload_n 1, 1) := chk_nth ocX9_begin_0 (k := 5) rfl
theorem dX9_begin_10 : decode cX9_begin 10 = .ok (.putfield 25, 3) := chk_nth ocX9_begin_0 (k := 6) rfl
theorem dX9_begin_13 : decode cX9_begin 13 = .ok (.aload_n 0, 1) := chk_nth ocX9_begin_0 (k := 7) rfl
theorem dX9_begin_14 : decode cX9_begin 14 = .ok (.iload_n 2, 1) := chk_nth ocX9_begin_0 (k := 8) rfl
theorem dX9_begin_15 : decode cX9_begin 15 = .ok (.putfield 15, 3) := chk_nth ocX9_begin_0 (k := 9) rfl
theorem dX9_begin_18 : decode cX9_begin 18 = .ok (.return_, 1) := chk_nth ocX9_begin_0 (k := 10) rfl
def tcX9_valueAt_0 : List (Instr × Nat) := [(.aload_n 0, 1), (.iload_n 1, 1), (.invokevirtual 28, 3), (.ifCond .eq 12, 3), (.aload_n 0, 1), (.getfield 9, 3), (.iload_n 1, 1), (.laload, 1), (.goto 4, 3), (.lconst 0, 1), (.lreturn, 1)]
theorem ocX9_valueAt_0 : chk (cX9_valueAt.data.toList.drop 0) tcX9_valueAt_0 = true := by decide +kernel
theorem dX9_valueAt_0 : decode cX9_valueAt 0 = .ok (.aload_n 0, 1) := chk_nth ocX9_valueAt_0 (k := 0) rfl
theorem dX9_valueAt_1 : decode cX9_valueAt 1 = .ok (.iload_n 1, 1) := chk_nth ocX9_valueAt_0 (k := 1) rfl
theorem dX9_valueAt_2 : decode cX9_valueAt 2 = .ok (.invokevirtual 28, 3) := chk_nth ocX9_valueAt_0 (k := 2) rfl
theorem dX9_valueAt_5 : decode cX9_valueAt 5 = .ok (.ifCond .eq 12, 3) := chk_nth ocX9_valueAt_0 (k := 3) rfl
theorem dX9_valueAt_8 : decode cX9_valueAt 8 = .ok (.aload_n 0, 1) := chk_nth ocX9_valueAt_0 (k := 4) rfl
theorem dX9_valueAt_9 : decode cX9_valueAt 9 = .ok (.getfield 9, 3) := chk_nth ocX9_valueAt_0 (k := 5) rfl
theorem dX9_valueAt_12 : decode cX9_valueAt 12 = .ok (.iload_n 1, 1) := chk_nth ocX9_valueAt_0 (k := 6) rfl
theorem dX9_valueAt_13 : decode cX9_valueAt 13 = .ok (.laload, 1) := chk_nth ocX9_valueAt_0 (k := 7) rfl
theorem dX9_valueAt_14 : decode cX9_valueAt 14 = .ok (.goto 4, 3) := chk_nth ocX9_valueAt_0 (k := 8) rfl
theorem dX9_valueAt_17 : decode cX9_valueAt 17 = .ok (.lconst 0, 1) := chk_nth ocX9_valueAt_0 (k := 9) rfl
theorem dX9_valueAt_18 : decode cX9_valueAt 18 = .ok (.lreturn, 1) := chk_nth ocX9_valueAt_0 (k := 10) rfl
def tcX9_set_0 : List (Instr × Nat) := [(.aload_n 0, 1), (.iload_n 1, 1), (.invokevirtual 28, 3), (.ifCond .eq 14, 3), (.aload_n 0, 1), (.getfield 9, 3), (.iload_n 1, 1), (.aload_n 0, 1), (.lload_n 2, 1), (.invokevirtual 32, 3), (.lastore, 1), (.return_, 1)]
theorem ocX9_set_0 : chk (cX9_set.data.toList.drop 0) tcX9_set_0 = true := by decide +kernel
theorem dX9_set_0 : decode cX9_set 0 = .ok (.aload_n 0, 1) := chk_nth ocX9_set_0 (k := 0) rfl
theorem dX9_set_1 : decode cX9_set 1 = .ok (.iload_n 1, 1) := chk_nth ocX9_set_0 (k := 1) rfl
theorem dX9_set_2 : decode cX9_set 2 = .ok (.invokevirtual 28, 3) := chk_nth ocX9_set_0 (k := 2) rfl
theorem dX9_set_5 : decode cX9_set 5 = .ok (.ifCond .eq 14, 3) := chk_nth ocX9_set_0 (k := 3) rfl
theorem dX9_set_8 : decode cX9_set 8 = .ok (.aload_n 0, 1) := chk_nth ocX9_set_0 (k := 4) rfl
theorem dX9_set_9 : decode cX9_set 9 = .ok (.getfield 9, 3) := chk_nth ocX9_set_0 (k := 5) rfl
theorem dX9_set_12 : decode cX9_set 12 = .ok (.iload_n 1, 1) := chk_nth ocX9_set_0 (k := 6) rfl
theorem dX9_set_13 : decode cX9_set 13 = .ok (.aload_n 0, 1) := chk_nth ocX9_set_0 (k := 7) rfl
theorem dX9_set_14 : decode cX9_set 14 = .ok (.lload_n 2, 1) := chk_nth ocX9_set_0 (k := 8) rfl
theorem dX9_set_15 : decode cX9_set 15 = .ok (.invokevirtual 32, 3) := chk_nth ocX9_set_0 (k := 9) rfl
theorem dX9_set_18 : decode cX9_set 18 = .ok (.lastore, 1) := chk_nth ocX9_set_0 (k := 10) rfl
theorem dX9_set_19 : decode cX9_set 19 = .ok (.return_, 1) := chk_nth ocX9_set_0 (k := 11) rfl
def tcX9_cut_0 : List (Instr × Nat) := [(.aload_n 0, 1), (.getfield 25, 3)]
theorem ocX9_cut_0 : chk (cX9_cut.data.toList.drop 0) tcX9_cut_0 = true := by decide +kernel
theorem dX9_cut_0 : decode cX9_cut 0 = .ok (.aload_n 0, 1) := chk_nth ocX9_cut_0 (k := 0) rfl
theorem dX9_cut_1 : decode cX9_cut 1 = .ok (.getfield 25, 3) := chk_nth ocX9_cut_0 (k := 1) rfl
theorem dX9_cut_4 : decode cX9_cut 4 = .ok (.tableswitch 42 0 2 #[28, 33, 38], 28) := by decide +kernel
def tcX9_cut_1 : List (Instr × Nat) := [(.lload_n 1, 1), (.l2i, 1), (.i2b, 1), (.i2l, 1), (.lreturn, 1), (.lload_n 1, 1), (.l2i, 1), (.i2s, 1), (.i2l, 1), (.lreturn, 1), (.lload_n 1, 1), (.l2i, 1), (.i2l, 1), (.lreturn, 1), (.lload_n 1, 1), (.lreturn, 1)]
theorem ocX9_cut_1 : chk (cX9_cut.data.toList.drop 32) tcX9_cut_1 = true := by decide +kernel
theorem dX9_cut_32 : decode cX9_cut 32 = .ok (.lload_n 1, 1) := chk_nth ocX9_cut_1 (k := 0) rfl
theorem dX9_cut_33 : decode cX9_cut 33 = .ok (.l2i, 1) := chk_nth ocX9_cut_1 (k := 1) rfl
theorem dX9_cut_34 : decode cX9_cut 34 = .ok (.i2b, 1) := chk_nth ocX9_cut_1 (k := 2) rfl
theorem dX9_cut_35 : decode cX9_cut 35 = .ok (.i2l, 1) := chk_nth ocX9_cut_1 (k := 3) rfl
theorem dX9_cut_36 : decode cX9_cut 36 = .ok (.lreturn, 1) := chk_nth ocX9_cut_1 (k := 4) rfl
theorem dX9_cut_37 : decode cX9_cut 37 = .ok (.lload_n 1, 1) := chk_nth ocX9_cut_1 (k := 5) rfl
theorem dX9_cut_38 : decode cX9_cut 38 = .ok (.l2i, 1) := chk_nth ocX9_cut_1 (k := 6) rfl
theorem dX9_cut_39 : decode cX9_cut 39 = .ok (.i2s, 1) := chk_nth ocX9_cut_1 (k := 7) rfl
theorem dX9_cut_40 : decode cX9_cut 40 = .ok (.i2l, 1) := chk_nth ocX9_cut_1 (k := 8) rfl
theorem dX9_cut_41 : decode cX9_cut 41 = .ok (.lreturn, 1) := chk_nth ocX9_cut_1 (k := 9) rfl
theorem dX9_cut_42 : decode cX9_cut 42 = .ok (.lload_n 1, 1) := chk_nth ocX9_cut_1 (k := 10) rfl
theorem dX9_cut_43 : decode cX9_cut 43 = .ok (.l2i, 1) := chk_nth ocX9_cut_1 (k := 11) rfl
theorem dX9_cut_44 : decode cX9_cut 44 = .ok (.i2l, 1) := chk_nth ocX9_cut_1 (k := 12) rfl
theorem dX9_cut_45 : decode cX9_cut 45 = .ok (.lreturn, 1) := chk_nth ocX9_cut_1 (k := 13) rfl
theorem dX9_cut_46 : decode cX9_cut 46 = .ok (.lload_n 1, 1) := chk_nth ocX9_cut_1 (k := 14) rfl
theorem dX9_cut_47 : decode cX9_cut 47 = .ok (.lreturn, 1) := chk_nth ocX9_cut_1 (k := 15) rfl
def tcX10_init_0 : List (Instr × Nat) := [(.aload_n 0, 1), (.invokespecial 3, 3), (.aload_n 0, 1), (.bipush 120, 2), (.newarray .int, 2), (.putfield 9, 3), (.aload_n 0, 1), (.bipush 120, 2), (.newarray .int, 2), (.putfield 15, 3), (.aload_n 0, 1), (.bipush 120, 2), (.newarray .int, 2), (.putfield 18, 3), (.aload_n 0, 1), (.bipush 120, 2), (.newarray .int, 2), (.putfield 21, 3), (.aload_n 0, 1), (.bipush 6, 2), (.newarray .int, 2), (.putfield 24, 3), (.aload_n 0, 1), (.bipush 120, 2)]
theorem ocX10_init_0 : chk (cX10_init.data.toList.drop 0) tcX10_init_0 = true := by decide +kernel
theorem dX10_init_0 : decode cX10_init 0 = .ok (.aload_n 0, 1) := chk_nth ocX10_init_0 (k := 0) rfl
theorem dX10_init_1 : decode cX10_init 1 = .ok (.invokespecial 3, 3) := chk_nth ocX10_init_0 (k := 1) rfl
theorem dX10_init_4 : decode cX10_init 4 = .ok (.aload_n 0, 1) := chk_nth ocX10_init_0 (k := 2) rfl
theorem dX10_init_5 : decode cX10_init 5 = .ok (.bipush 120, 2) := chk_nth ocX10_init_0 (k := 3) rfl
theorem dX10_init_7 : decode cX10_init 7 = .ok (.newarray .int, 2) := chk_nth ocX10_init_0 (k := 4) rfl
theorem dX10_init_9 : decode cX10_init 9 = .ok (.putfield 9, 3) := chk_nth ocX10_init_0 (k := 5) rfl
theorem dX10_init_12 : decode cX10_init 12 = .ok (.aload_n 0, 1) := chk_nth ocX10_init_0 (k := 6) rfl
theorem dX10_init_13 : decode cX10_init 13 = .ok (.bipush 120, 2) := chk_nth ocX10_init_0 (k := 7) rfl
theorem dX10_init_15 : decode cX10_init 15 = .ok (.newarray .int, 2) := chk_nth ocX10_init_0 (k := 8) rfl
theorem dX10_init_17 : decode cX10_init 17 = .ok (.putfield 15, 3) := chk_nth ocX10_init_0 (k := 9) rfl
theorem dX10_init_20 : decode cX10_init 20 = .ok (.aload_n 0, 1) := chk_nth ocX10_init_0 (k := 10) rfl
theorem dX10_init_21 : decode cX10_init 21 = .ok (.bipush 120, 2) := chk_nth ocX10_init_0 (k := 11) rfl
theorem dX10_init_23 : decode cX10_init 23 = .ok (.newarray .int, 2) := chk_nth ocX10_init_0 (k := 12) rfl
theorem dX10_init_25 : decode cX10_init 25 = .ok (.putfield 18, 3) := chk_nth ocX10_init_0 (k := 13) rfl
theorem dX10_init_28 : decode cX10_init 28 = .ok (.aload_n 0, 1) := chk_nth ocX10_init_0 (k := 14) rfl
theorem dX10_init_29 : decode cX10_init 29 = .ok (.bipush 120, 2) := chk_nth ocX10_init_0 (k := 15) rfl
theorem dX10_init_31 : decode cX10_init 31 = .ok (.newarray .int, 2) := chk_nth ocX10_init_0 (k := 16) rfl
theorem dX10_init_33 : decode cX10_init 33 = .ok (.putfield 21, 3) := chk_nth ocX10_init_0 (k := 17) rfl
theorem dX10_init_36 : decode cX10_init 36 = .ok (.aload_n 0, 1) := chk_nth ocX10_init_0 (k := 18) rfl
theorem dX10_init_37 : decode cX10_init 37 = .ok (.bipush 6, 2) := chk_nth ocX10_init_0 (k := 19) rfl
theorem dX10_init_39 : decode cX10_init 39 = .ok (.newarray .int, 2) := chk_nth ocX10_init_0 (k := 20) rfl
theorem dX10_init_41 : decode cX10_init 41 = .ok (.putfield 24, 3) := chk_nth ocX10_init_0 (k := 21) rfl
theorem dX10_init_44 : decode cX10_init 44 = .ok (.aload_n 0, 1) := chk_nth ocX10_init_0 (k := 22) rfl
theorem dX10_init_45 : decode cX10_init 45 = .ok (.bipush 120, 2) := chk_nth ocX10_init_0 (k := 23) rfl
def tcX10_init_1 : List (Instr × Nat) := [(.newarray .int, 2), (.putfield 27, 3), (.aload_n 0, 1), (.bipush 120, 2), (.newarray .int, 2), (.putfield 30, 3), (.aload_n 0, 1), (.aload_n 1, 1), (.putfield 33, 3), (.return_, 1)]
theorem ocX10_init_1 : chk (cX10_init.data.toList.drop 47) tcX10_init_1 = true := by decide +kernel
theorem dX10_init_47 : decode cX10_init 47 = .ok (.newarray .int, 2) := chk_nth ocX10_init_1 (k := 0) rfl
theorem dX10_init_49 : decode cX10_init 49 = .ok (.putfield 27, 3) := chk_nth ocX10_init_1 (k := 1) rfl
theorem dX10_init_52 : decode cX10_init 52 = .ok (.aload_n 0, 1) := chk_nth ocX10_init_1 (k := 2) rfl
theorem dX10_init_53 : decode cX10_init 53 = .ok (.bipush 120, 2) := chk_nth ocX10_init_1 (k := 3) rfl
theorem dX10_init_55 : decode cX10_init 55 = .ok (.newarray .int, 2) := chk_nth ocX10_init_1 (k := 4) rfl
theorem dX10_init_57 : decode cX10_init 57 = .ok (.putfield 30, 3) := chk_nth ocX10_init_1 (k := 5) rfl
theorem dX10_init_60 : decode cX10_init 60 = .ok (.aload_n 0, 1) := chk_nth ocX10_init_1 (k := 6) rfl
theorem dX10_init_61 : decode cX10_init 61 = .ok (.aload_n 1, 1) := chk_nth ocX10_init_1 (k := 7) rfl
theorem dX10_init_62 : decode cX10_init 62 = .ok (.putfield 33, 3) := chk_nth ocX10_init_1 (k := 8) rfl
theorem dX10_init_65 : decode cX10_init 65 = .ok (.return_, 1) := chk_nth ocX10_init_1 (k := 9) rfl
def tcX10_spread_0 : List (Instr × Nat) := [(.aload_n 0, 1), (.aload_n 3, 1), (.invokevirtual 37, 3), (.aload_n 0, 1), (.getfield 15, 3), (.iconst (-1), 1), (.invokestatic 41, 3), (.aload_n 0, 1), (.iconst 0, 1), (.putfield 47, 3), (.aload_n 0, 1), (.iconst (-1), 1), (.putfield 51, 3), (.iload_n 2, 1), (.invokestatic 54, 3), (.ifCond .ne 4, 3), (.return_, 1), (.aload_n 0, 1), (.getfield 15, 3), (.iload_n 2, 1), (.iconst 0, 1), (.iastore, 1), (.aload_n 0, 1), (.getfield 9, 3)]
theorem ocX10_spread_0 : chk (cX10_spread.data.toList.drop 0) tcX10_spread_0 = true := by decide +kernel
theorem dX10_spread_0 : decode cX10_spread 0 = .ok (.aload_n 0, 1) := chk_nth ocX10_spread_0 (k := 0) rfl
theorem dX10_spread_1 : decode cX10_spread 1 = .ok (.aload_n 3, 1) := chk_nth ocX10_spread_0 (k := 1) rfl
theorem dX10_spread_2 : decode cX10_spread 2 = .ok (.invokevirtual 37, 3) := chk_nth ocX10_spread_0 (k := 2) rfl
theorem dX10_spread_5 : decode cX10_spread 5 = .ok (.aload_n 0, 1) := chk_nth ocX10_spread_0 (k := 3) rfl
theorem dX10_spread_6 : decode cX10_spread 6 = .ok (.getfield 15, 3) := chk_nth ocX10_spread_0 (k := 4) rfl
theorem dX10_spread_9 : decode cX10_spread 9 = .ok (.iconst (-1), 1) := chk_nth ocX10_spread_0 (k := 5) rfl
theorem dX10_spread_10 : decode cX10_spread 10 = .ok (.invokestatic 41, 3) := chk_nth ocX10_spread_0 (k := 6) rfl
theorem dX10_spread_13 : decode cX10_spread 13 = .ok (.aload_n 0, 1) := chk_nth ocX10_spread_0 (k := 7) rfl
theorem dX10_spread_14 : decode cX10_spread 14 = .ok (.iconst 0, 1) := chk_nth ocX10_spread_0 (k := 8) rfl
theorem dX10_spread_15 : decode cX10_spread 15 = .ok (.putfield 47, 3) := chk_nth ocX10_spread_0 (k := 9) rfl
theorem dX10_spread_18 : decode cX10_spread 18 = .ok (.aload_n 0, 1) := chk_nth ocX10_spread_0 (k := 10) rfl
theorem dX10_spread_19 : decode cX10_spread 19 = .ok (.iconst (-1), 1) := chk_nth ocX10_spread_0 (k := 11) rfl
theorem dX10_spread_20 : decode cX10_spread 20 = .ok (.putfield 51, 3) := chk_nth ocX10_spread_0 (k := 12) rfl
theorem dX10_spread_23 : decode cX10_spread 23 = .ok (.iload_n 2, 1) := chk_nth ocX10_spread_0 (k := 13) rfl
theorem dX10_spread_24 : decode cX10_spread 24 = .ok (.invokestatic 54, 3) := chk_nth ocX10_spread_0 (k := 14) rfl
theorem dX10_spread_27 : decode cX10_spread 27 = .ok (.ifCond .ne 4, 3) := chk_nth ocX10_spread_0 (k := 15) rfl
theorem dX10_spread_30 : decode cX10_spread 30 = .ok (.return_, 1) := chk_nth ocX10_spread_0 (k := 16) rfl
theorem dX10_spread_31 : decode cX10_spread 31 = .ok (.aload_n 0, 1) := chk_nth ocX10_spread_0 (k := 17) rfl
theorem dX10_spread_32 : decode cX10_spread 32 = .ok (.getfield 15, 3) := chk_nth ocX10_spread_0 (k := 18) rfl
theorem dX10_spread_35 : decode cX10_spread 35 = .ok (.iload_n 2, 1) := chk_nth ocX10_spread_0 (k := 19) rfl
theorem dX10_spread_36 : decode cX10_spread 36 = .ok (.iconst 0, 1) := chk_nth ocX10_spread_0 (k := 20) rfl
theorem dX10_spread_37 : decode cX10_spread 37 = .ok (.iastore, 1) := chk_nth ocX10_spread_0 (k := 21) rfl
theorem dX10_spread_38 : decode cX10_spread 38 = .ok (.aload_n 0, 1) := chk_nth ocX10_spread_0 (k := 22) rfl
theorem dX10_spread_39 : decode cX10_spread 39 = .ok (.getfield 9, 3) := chk_nth ocX10_spread_0 (k := 23) rfl
def tcX10_spread_1 : List (Instr × Nat) := [(.iconst 0, 1), (.iload_n 2, 1), (.iastore, 1), (.aload_n 0, 1), (.iconst 1, 1), (.putfield 47, 3), (.iconst 0, 1), (.istore 4, 2), (.iload 4, 2), (.aload_n 0, 1), (.getfield 47, 3), (.if_icmp .ge 81, 3), (.iload 4, 2), (.bipush 120, 2), (.if_icmp .ge 74, 3), (.aload_n 0, 1), (.getfield 9, 3), (.iload 4, 2), (.iaload, 1), (.istore 5, 2), (.aload_n 0, 1), (.iload 5, 2), (.invokevirtual 58, 3), (.istore 6, 2)]
theorem ocX10_spread_1 : chk (cX10_spread.data.toList.drop 42) tcX10_spread_1 = true := by decide +kernel
theorem dX10_spread_42 : decode cX10_spread 42 = .ok (.iconst 0, 1) := chk_nth ocX10_spread_1 (k := 0) rfl
theorem dX10_spread_43 : decode cX10_spread 43 = .ok (.iload_n 2, 1) := chk_nth ocX10_spread_1 (k := 1) rfl
theorem dX10_spread_44 : decode cX10_spread 44 = .ok (.iastore, 1) := chk_nth ocX10_spread_1 (k := 2) rfl
theorem dX10_spread_45 : decode cX10_spread 45 = .ok (.aload_n 0, 1) := chk_nth ocX10_spread_1 (k := 3) rfl
theorem dX10_spread_46 : decode cX10_spread 46 = .ok (.iconst 1, 1) := chk_nth ocX10_spread_1 (k := 4) rfl
theorem dX10_spread_47 : decode cX10_spread 47 = .ok (.putfield 47, 3) := chk_nth ocX10_spread_1 (k := 5) rfl
theorem dX10_spread_50 : decode cX10_spread 50 = .ok (.iconst 0, 1) := chk_nth ocX10_spread_1 (k := 6) rfl
theorem dX10_spread_51 : decode cX10_spread 51 = .ok (.istore 4, 2) := chk_nth ocX10_spread_1 (k := 7) rfl
theorem dX10_spread_53 : decode cX10_spread 53 = .ok (.iload 4, 2) := chk_nth ocX10_spread_1 (k := 8) rfl
theorem dX10_spread_55 : decode cX10_spread 55 = .ok (.aload_n 0, 1) := chk_nth ocX10_spread_1 (k := 9) rfl
theorem dX10_spread_56 : decode cX10_spread 56 = .ok (.getfield 47, 3) := chk_nth ocX10_spread_1 (k := 10) rfl
theorem dX10_spread_59 : decode cX10_spread 59 = .ok (.if_icmp .ge 81, 3) := chk_nth ocX10_spread_1 (k := 11) rfl
theorem dX10_spread_62 : decode cX10_spread 62 = .ok (.iload 4, 2) := chk_nth ocX10_spread_1 (k := 12) rfl
theorem dX10_spread_64 : decode cX10_spread 64 = .ok (.bipush 120, 2) := chk_nth ocX10_spread_1 (k := 13) rfl
theorem dX10_spread_66 : decode cX10_spread 66 = .ok (.if_icmp .ge 74, 3) := chk_nth ocX10_spread_1 (k := 14) rfl
theorem dX10_spread_69 : decode cX10_spread 69 = .ok (.aload_n 0, 1) := chk_nth ocX10_spread_1 (k := 15) rfl
theorem dX10_spread_70 : decode cX10_spread 70 = .ok (.getfield 9, 3) := chk_nth ocX10_spread_1 (k := 16) rfl
theorem dX10_spread_73 : decode cX10_spread 73 = .ok (.iload 4, 2) := chk_nth ocX10_spread_1 (k := 17) rfl
theorem dX10_spread_75 : decode cX10_spread 75 = .ok (.iaload, 1) := chk_nth ocX10_spread_1 (k := 18) rfl
theorem dX10_spread_76 : decode cX10_spread 76 = .ok (.istore 5, 2) := chk_nth ocX10_spread_1 (k := 19) rfl
theorem dX10_spread_78 : decode cX10_spread 78 = .ok (.aload_n 0, 1) := chk_nth ocX10_spread_1 (k := 20) rfl
theorem dX10_spread_79 : decode cX10_spread 79 = .ok (.iload 5, 2) := chk_nth ocX10_spread_1 (k := 21) rfl
theorem dX10_spread_81 : decode cX10_spread 81 = .ok (.invokevirtual 58, 3) := chk_nth ocX10_spread_1 (k := 22) rfl
theorem dX10_spread_84 : decode cX10_spread 84 = .ok (.istore 6, 2) := chk_nth ocX10_spread_1 (k := 23) rfl
def tcX10_spread_2 : List (Instr × Nat) := [(.iconst 0, 1), (.istore 7, 2), (.iload 7, 2), (.bipush 8, 2), (.if_icmp .ge 41, 3), (.iload 6, 2), (.iload 7, 2), (.ishr, 1), (.iconst 1, 1), (.iand, 1), (.iconst 1, 1), (.if_icmp .ne 24, 3), (.aload_n 0, 1), (.aload_n 0, 1), (.getfield 33, 3), (.iload_n 1, 1), (.iload 7, 2), (.iload 5, 2), (.aload_n 3, 1), (.invokevirtual 62, 3), (.iload 5, 2), (.iload 7, 2), (.invokevirtual 68, 3), (.iinc 7 1, 3)]
theorem ocX10_spread_2 : chk (cX10_spread.data.toList.drop 86) tcX10_spread_2 = true := by decide +kernel
theorem dX10_spread_86 : decode cX10_spread 86 = .ok (.iconst 0, 1) := chk_nth ocX10_spread_2 (k := 0) rfl
theorem dX10_spread_87 : decode cX10_spread 87 = .ok (.istore 7, 2) := chk_nth ocX10_spread_2 (k := 1) rfl
theorem dX10_spread_89 : decode cX10_spread 89 = .ok (.iload 7, 2) := chk_nth ocX10_spread_2 (k := 2) rfl
theorem dX10_spread_91 : decode cX10_spread 91 = .ok (.bipush 8, 2) := chk_nth ocX10_spread_2 (k := 3) rfl
theorem dX10_spread_93 : decode cX10_spread 93 = .ok (.if_icmp .ge 41, 3) := chk_nth ocX10_spread_2 (k := 4) rfl
theorem dX10_spread_96 : decode cX10_spread 96 = .ok (.iload 6, 2) := chk_nth ocX10_spread_2 (k := 5) rfl
theorem dX10_spread_98 : decode cX10_spread 98 = .ok (.iload 7, 2) := chk_nth ocX10_spread_2 (k := 6) rfl
theorem dX10_spread_100 : decode cX10_spread 100 = .ok (.ishr, 1) := chk_nth ocX10_spread_2 (k := 7) rfl
theorem dX10_spread_101 : decode cX10_spread 101 = .ok (.iconst 1, 1) := chk_nth ocX10_spread_2 (k := 8) rfl
theorem dX10_spread_102 : decode cX10_spread 102 = .ok (.iand, 1) := chk_nth ocX10_spread_2 (k := 9) rfl
theorem dX10_spread_103 : decode cX10_spread 103 = .ok (.iconst 1, 1) := chk_nth ocX10_spread_2 (k := 10) rfl
theorem dX10_spread_104 : decode cX10_spread 104 = .ok (.if_icmp .ne 24, 3) := chk_nth ocX10_spread_2 (k := 11) rfl
theorem dX10_spread_107 : decode cX10_spread 107 = .ok (.aload_n 0, 1) := chk_nth ocX10_spread_2 (k := 12) rfl
theorem dX10_spread_108 : decode cX10_spread 108 = .ok (.aload_n 0, 1) := chk_nth ocX10_spread_2 (k := 13) rfl
theorem dX10_spread_109 : decode cX10_spread 109 = .ok (.getfield 33, 3) := chk_nth ocX10_spread_2 (k := 14) rfl
theorem dX10_spread_112 : decode cX10_spread 112 = .ok (.iload_n 1, 1) := chk_nth ocX10_spread_2 (k := 15) rfl
theorem dX10_spread_113 : decode cX10_spread 113 = .ok (.iload 7, 2) := chk_nth ocX10_spread_2 (k := 16) rfl
theorem dX10_spread_115 : decode cX10_spread 115 = .ok (.iload 5, 2) := chk_nth ocX10_spread_2 (k := 17) rfl
theorem dX10_spread_117 : decode cX10_spread 117 = .ok (.aload_n 3, 1) := chk_nth ocX10_spread_2 (k := 18) rfl
theorem dX10_spread_118 : decode cX10_spread 118 = .ok (.invokevirtual 62, 3) := chk_nth ocX10_spread_2 (k := 19) rfl
theorem dX10_spread_121 : decode cX10_spread 121 = .ok (.iload 5, 2) := chk_nth ocX10_spread_2 (k := 20) rfl
theorem dX10_spread_123 : decode cX10_spread 123 = .ok (.iload 7, 2) := chk_nth ocX10_spread_2 (k := 21) rfl
theorem dX10_spread_125 : decode cX10_spread 125 = .ok (.invokevirtual 68, 3) := chk_nth ocX10_spread_2 (k := 22) rfl
theorem dX10_spread_128 : decode cX10_spread 128 = .ok (.iinc 7 1, 3) := chk_nth ocX10_spread_2 (k := 23) rfl
def tcX10_spread_3 : List (Instr × Nat) := [(.goto (-42), 3), (.iinc 4 1, 3), (.goto (-84), 3), (.return_, 1)]
theorem ocX10_spread_3 : chk (cX10_spread.data.toList.drop 131) tcX10_spread_3 = true := by decide +kernel
theorem dX10_spread_131 : decode cX10_spread 131 = .ok (.goto (-42), 3) := chk_nth ocX10_spread_3 (k := 0) rfl
theorem dX10_spread_134 : decode cX10_spread 134 = .ok (.iinc 4 1, 3) := chk_nth ocX10_spread_3 (k := 1) rfl
theorem dX10_spread_137 : decode cX10_spread 137 = .ok (.goto (-84), 3) := chk_nth ocX10_spread_3 (k := 2) rfl
theorem dX10_spread_140 : decode cX10_spread 140 = .ok (.return_, 1) := chk_nth ocX10_spread_3 (k := 3) rfl
def tcX10_begin_0 : List (Instr × Nat) := [(.aload_n 0, 1), (.getfield 33, 3), (.aload_n 1, 1), (.getfield 72, 3), (.invokevirtual 77, 3), (.iconst 0, 1), (.istore_n 2, 1), (.iload_n 2, 1), (.aload_n 0, 1), (.getfield 24, 3), (.arraylength, 1), (.if_icmp .ge 24, 3), (.aload_n 0, 1), (.getfield 24, 3), (.iload_n 2, 1), (.aload_n 0, 1), (.getfield 33, 3), (.iload_n 2, 1), (.aload_n 1, 1), (.invokevirtual 81, 3), (.iastore, 1), (.iinc 2 1, 3), (.goto (-27), 3), (.return_, 1)]
theorem ocX10_begin_0 : chk (cX10_begin.data.toList.drop 0) tcX10_begin_0 = true := by decide +kernel
theorem dX10_begin_0 : decode cX10_begin 0 = .ok (.aload_n 0, 1) := chk_nth ocX10_begin_0 (k := 0) rfl
theorem dX10_begin_1 : decode cX10_begin 1 = .ok (.getfield 33, 3) := chk_nth ocX10_begin_0 (k := 1) rfl
theorem dX10_begin_4 : decode cX10_begin 4 = .ok (.aload_n 1, 1) := chk_nth ocX10_begin_0 (k := 2) rfl
theorem dX10_begin_5 : decode cX10_begin 5 = .ok (.getfield 72, 3) := chk_nth ocX10_begin_0 (k := 3) rfl
theorem dX10_begin_8 : decode cX10_begin 8 = .ok (.invokevirtual 77, 3) := chk_nth ocX10_begin_0 (k := 4) rfl
theorem dX10_begin_11 : decode cX10_begin 11 = .ok (.iconst 0, 1) := chk_nth ocX10_begin_0 (k := 5) rfl
theorem dX10_begin_12 : decode cX10_begin 12 = .ok (.istore_n 2, 1) := chk_nth ocX10_begin_0 (k := 6) rfl
theorem dX10_begin_13 : decode cX10_begin 13 = .ok (.iload_n 2, 1) := chk_nth ocX10_begin_0 (k := 7) rfl
theorem dX10_begin_14 : decode cX10_begin 14 = .ok (.aload_n 0, 1) := chk_nth ocX10_begin_0 (k := 8) rfl
theorem dX10_begin_15 : decode cX10_begin 15 = .ok (.getfield 24, 3) := chk_nth ocX10_begin_0 (k := 9) rfl
theorem dX10_begin_18 : decode cX10_begin 18 = .ok (.arraylength, 1) := chk_nth ocX10_begin_0 (k := 10) rfl
theorem dX10_begin_19 : decode cX10_begin 19 = .ok (.if_icmp .ge 24, 3) := chk_nth ocX10_begin_0 (k := 11) rfl
theorem dX10_begin_22 : decode cX10_begin 22 = .ok (.aload_n 0, 1) := chk_nth ocX10_begin_0 (k := 12) rfl
theorem dX10_begin_23 : decode cX10_begin 23 = .ok (.getfield 24, 3) := chk_nth ocX10_begin_0 (k := 13) rfl
theorem dX10_begin_26 : decode cX10_begin 26 = .ok (.iload_n 2, 1) := chk_nth ocX10_begin_0 (k := 14) rfl
theorem dX10_begin_27 : decode cX10_begin 27 = .ok (.aload_n 0, 1) := chk_nth ocX10_begin_0 (k := 15) rfl
theorem dX10_begin_28 : decode cX10_begin 28 = .ok (.getfield 33, 3) := chk_nth ocX10_begin_0 (k := 16) rfl
theorem dX10_begin_31 : decode cX10_begin 31 = .ok (.iload_n 2, 1) := chk_nth ocX10_begin_0 (k := 17) rfl
theorem dX10_begin_32 : decode cX10_begin 32 = .ok (.aload_n 1, 1) := chk_nth ocX10_begin_0 (k := 18) rfl
theorem dX10_begin_33 : decode cX10_begin 33 = .ok (.invokevirtual 81, 3) := chk_nth ocX10_begin_0 (k := 19) rfl
theorem dX10_begin_36 : decode cX10_begin 36 = .ok (.iastore, 1) := chk_nth ocX10_begin_0 (k := 20) rfl
theorem dX10_begin_37 : decode cX10_begin 37 = .ok (.iinc 2 1, 3) := chk_nth ocX10_begin_0 (k := 21) rfl
theorem dX10_begin_40 : decode cX10_begin 40 = .ok (.goto (-27), 3) := chk_nth ocX10_begin_0 (k := 22) rfl
theorem dX10_begin_43 : decode cX10_begin 43 = .ok (.return_, 1) := chk_nth ocX10_begin_0 (k := 23) rfl
def tcX10_streetsFrom_0 : List (Instr × Nat) := [(.iload_n 1, 1), (.invokestatic 54, 3), (.ifCond .eq 15, 3), (.aload_n 0, 1), (.getfield 24, 3), (.iload_n 1, 1), (.bipush 20, 2), (.idiv, 1), (.iaload, 1), (.goto 4, 3), (.iconst 0, 1), (.ireturn, 1)]
theorem ocX10_streetsFrom_0 : chk (cX10_streetsFrom.data.toList.drop 0) tcX10_streetsFrom_0 = true := by decide +kernel
theorem dX10_streetsFrom_0 : decode cX10_streetsFrom 0 = .ok (.iload_n 1, 1) := chk_nth ocX10_streetsFrom_0 (k := 0) rfl
theorem dX10_streetsFrom_1 : decode cX10_streetsFrom 1 = .ok (.invokestatic 54, 3) := chk_nth ocX10_streetsFrom_0 (k := 1) rfl
theorem dX10_streetsFrom_4 : decode cX10_streetsFrom 4 = .ok (.ifCond .eq 15, 3) := chk_nth ocX10_streetsFrom_0 (k := 2) rfl
theorem dX10_streetsFrom_7 : decode cX10_streetsFrom 7 = .ok (.aload_n 0, 1) := chk_nth ocX10_streetsFrom_0 (k := 3) rfl
theorem dX10_streetsFrom_8 : decode cX10_streetsFrom 8 = .ok (.getfield 24, 3) := chk_nth ocX10_streetsFrom_0 (k := 4) rfl
theorem dX10_streetsFrom_11 : decode cX10_streetsFrom 11 = .ok (.iload_n 1, 1) := chk_nth ocX10_streetsFrom_0 (k := 5) rfl
theorem dX10_streetsFrom_12 : decode cX10_streetsFrom 12 = .ok (.bipush 20, 2) := chk_nth ocX10_streetsFrom_0 (k := 6) rfl
theorem dX10_streetsFrom_14 : decode cX10_streetsFrom 14 = .ok (.idiv, 1) := chk_nth ocX10_streetsFrom_0 (k := 7) rfl
theorem dX10_streetsFrom_15 : decode cX10_streetsFrom 15 = .ok (.iaload, 1) := chk_nth ocX10_streetsFrom_0 (k := 8) rfl
theorem dX10_streetsFrom_16 : decode cX10_streetsFrom 16 = .ok (.goto 4, 3) := chk_nth ocX10_streetsFrom_0 (k := 9) rfl
theorem dX10_streetsFrom_19 : decode cX10_streetsFrom 19 = .ok (.iconst 0, 1) := chk_nth ocX10_streetsFrom_0 (k := 10) rfl
theorem dX10_streetsFrom_20 : decode cX10_streetsFrom 20 = .ok (.ireturn, 1) := chk_nth ocX10_streetsFrom_0 (k := 11) rfl
def tcX10_comeTo_0 : List (Instr × Nat) := [(.iload_n 1, 1), (.invokestatic 54, 3), (.ifCond .eq 10, 3), (.iload_n 2, 1), (.invokestatic 54, 3), (.ifCond .ne 4, 3), (.return_, 1), (.iload_n 1, 1), (.aload_n 0, 1), (.getfield 9, 3), (.iconst 0, 1), (.iaload, 1), (.if_icmp .ne 23, 3), (.aload_n 0, 1), (.getfield 51, 3), (.iconst (-1), 1), (.if_icmp .ne 15, 3), (.aload_n 0, 1), (.aload_n 0, 1), (.getfield 15, 3), (.iload_n 2, 1), (.iaload, 1), (.iconst 1, 1), (.iadd, 1)]
theorem ocX10_comeTo_0 : chk (cX10_comeTo.data.toList.drop 0) tcX10_comeTo_0 = true := by decide +kernel
theorem dX10_comeTo_0 : decode cX10_comeTo 0 = .ok (.iload_n 1, 1) := chk_nth ocX10_comeTo_0 (k := 0) rfl
theorem dX10_comeTo_1 : decode cX10_comeTo 1 = .ok (.invokestatic 54, 3) := chk_nth ocX10_comeTo_0 (k := 1) rfl
theorem dX10_comeTo_4 : decode cX10_comeTo 4 = .ok (.ifCond .eq 10, 3) := chk_nth ocX10_comeTo_0 (k := 2) rfl
theorem dX10_comeTo_7 : decode cX10_comeTo 7 = .ok (.iload_n 2, 1) := chk_nth ocX10_comeTo_0 (k := 3) rfl
theorem dX10_comeTo_8 : decode cX10_comeTo 8 = .ok (.invokestatic 54, 3) := chk_nth ocX10_comeTo_0 (k := 4) rfl
theorem dX10_comeTo_11 : decode cX10_comeTo 11 = .ok (.ifCond .ne 4, 3) := chk_nth ocX10_comeTo_0 (k := 5) rfl
theorem dX10_comeTo_14 : decode cX10_comeTo 14 = .ok (.return_, 1) := chk_nth ocX10_comeTo_0 (k := 6) rfl
theorem dX10_comeTo_15 : decode cX10_comeTo 15 = .ok (.iload_n 1, 1) := chk_nth ocX10_comeTo_0 (k := 7) rfl
theorem dX10_comeTo_16 : decode cX10_comeTo 16 = .ok (.aload_n 0, 1) := chk_nth ocX10_comeTo_0 (k := 8) rfl
theorem dX10_comeTo_17 : decode cX10_comeTo 17 = .ok (.getfield 9, 3) := chk_nth ocX10_comeTo_0 (k := 9) rfl
theorem dX10_comeTo_20 : decode cX10_comeTo 20 = .ok (.iconst 0, 1) := chk_nth ocX10_comeTo_0 (k := 10) rfl
theorem dX10_comeTo_21 : decode cX10_comeTo 21 = .ok (.iaload, 1) := chk_nth ocX10_comeTo_0 (k := 11) rfl
theorem dX10_comeTo_22 : decode cX10_comeTo 22 = .ok (.if_icmp .ne 23, 3) := chk_nth ocX10_comeTo_0 (k := 12) rfl
theorem dX10_comeTo_25 : decode cX10_comeTo 25 = .ok (.aload_n 0, 1) := chk_nth ocX10_comeTo_0 (k := 13) rfl
theorem dX10_comeTo_26 : decode cX10_comeTo 26 = .ok (.getfield 51, 3) := chk_nth ocX10_comeTo_0 (k := 14) rfl
theorem dX10_comeTo_29 : decode cX10_comeTo 29 = .ok (.iconst (-1), 1) := chk_nth ocX10_comeTo_0 (k := 15) rfl
theorem dX10_comeTo_30 : decode cX10_comeTo 30 = .ok (.if_icmp .ne 15, 3) := chk_nth ocX10_comeTo_0 (k := 16) rfl
theorem dX10_comeTo_33 : decode cX10_comeTo 33 = .ok (.aload_n 0, 1) := chk_nth ocX10_comeTo_0 (k := 17) rfl
theorem dX10_comeTo_34 : decode cX10_comeTo 34 = .ok (.aload_n 0, 1) := chk_nth ocX10_comeTo_0 (k := 18) rfl
theorem dX10_comeTo_35 : decode cX10_comeTo 35 = .ok (.getfield 15, 3) := chk_nth ocX10_comeTo_0 (k := 19) rfl
theorem dX10_comeTo_38 : decode cX10_comeTo 38 = .ok (.iload_n 2, 1) := chk_nth ocX10_comeTo_0 (k := 20) rfl
theorem dX10_comeTo_39 : decode cX10_comeTo 39 = .ok (.iaload, 1) := chk_nth ocX10_comeTo_0 (k := 21) rfl
theorem dX10_comeTo_40 : decode cX10_comeTo 40 = .ok (.iconst 1, 1) := chk_nth ocX10_comeTo_0 (k := 22) rfl
theorem dX10_comeTo_41 : decode cX10_comeTo 41 = .ok (.iadd, 1) := chk_nth ocX10_comeTo_0 (k := 23) rfl
def tcX10_comeTo_1 : List (Instr × Nat) := [(.putfield 51, 3), (.aload_n 0, 1), (.getfield 15, 3), (.iload_n 1, 1), (.iaload, 1), (.iconst (-1), 1), (.if_icmp .ne 60, 3), (.aload_n 0, 1), (.getfield 47, 3), (.bipush 120, 2), (.if_icmp .ge 51, 3), (.aload_n 0, 1), (.getfield 15, 3), (.iload_n 1, 1), (.aload_n 0, 1), (.getfield 15, 3), (.iload_n 2, 1), (.iaload, 1), (.iconst 1, 1), (.iadd, 1), (.iastore, 1), (.aload_n 0, 1), (.getfield 18, 3), (.iload_n 1, 1)]
theorem ocX10_comeTo_1 : chk (cX10_comeTo.data.toList.drop 42) tcX10_comeTo_1 = true := by decide +kernel
theorem dX10_comeTo_42 : decode cX10_comeTo 42 = .ok (.putfield 51, 3) := chk_nth ocX10_comeTo_1 (k := 0) rfl
theorem dX10_comeTo_45 : decode cX10_comeTo 45 = .ok (.aload_n 0, 1) := chk_nth ocX10_comeTo_1 (k := 1) rfl
theorem dX10_comeTo_46 : decode cX10_comeTo 46 = .ok (.getfield 15, 3) := chk_nth ocX10_comeTo_1 (k := 2) rfl
theorem dX10_comeTo_49 : decode cX10_comeTo 49 = .ok (.iload_n 1, 1) := chk_nth ocX10_comeTo_1 (k := 3) rfl
theorem dX10_comeTo_50 : decode cX10_comeTo 50 = .ok (.iaload, 1) := chk_nth ocX10_comeTo_1 (k := 4) rfl
theorem dX10_comeTo_51 : decode cX10_comeTo 51 = .ok (.iconst (-1), 1) := chk_nth ocX10_comeTo_1 (k := 5) rfl
theorem dX10_comeTo_52 : decode cX10_comeTo 52 = .ok (.if_icmp .ne 60, 3) := chk_nth ocX10_comeTo_1 (k := 6) rfl
theorem dX10_comeTo_55 : decode cX10_comeTo 55 = .ok (.aload_n 0, 1) := chk_nth ocX10_comeTo_1 (k := 7) rfl
theorem dX10_comeTo_56 : decode cX10_comeTo 56 = .ok (.getfield 47, 3) := chk_nth ocX10_comeTo_1 (k := 8) rfl
theorem dX10_comeTo_59 : decode cX10_comeTo 59 = .ok (.bipush 120, 2) := chk_nth ocX10_comeTo_1 (k := 9) rfl
theorem dX10_comeTo_61 : decode cX10_comeTo 61 = .ok (.if_icmp .ge 51, 3) := chk_nth ocX10_comeTo_1 (k := 10) rfl
theorem dX10_comeTo_64 : decode cX10_comeTo 64 = .ok (.aload_n 0, 1) := chk_nth ocX10_comeTo_1 (k := 11) rfl
theorem dX10_comeTo_65 : decode cX10_comeTo 65 = .ok (.getfield 15, 3) := chk_nth ocX10_comeTo_1 (k := 12) rfl
theorem dX10_comeTo_68 : decode cX10_comeTo 68 = .ok (.iload_n 1, 1) := chk_nth ocX10_comeTo_1 (k := 13) rfl
theorem dX10_comeTo_69 : decode cX10_comeTo 69 = .ok (.aload_n 0, 1) := chk_nth ocX10_comeTo_1 (k := 14) rfl
theorem dX10_comeTo_70 : decode cX10_comeTo 70 = .ok (.getfield 15, 3) := chk_nth ocX10_comeTo_1 (k := 15) rfl
theorem dX10_comeTo_73 : decode cX10_comeTo 73 = .ok (.iload_n 2, 1) := chk_nth ocX10_comeTo_1 (k := 16) rfl
theorem dX10_comeTo_74 : decode cX10_comeTo 74 = .ok (.iaload, 1) := chk_nth ocX10_comeTo_1 (k := 17) rfl
theorem dX10_comeTo_75 : decode cX10_comeTo 75 = .ok (.iconst 1, 1) := chk_nth ocX10_comeTo_1 (k := 18) rfl
theorem dX10_comeTo_76 : decode cX10_comeTo 76 = .ok (.iadd, 1) := chk_nth ocX10_comeTo_1 (k := 19) rfl
theorem dX10_comeTo_77 : decode cX10_comeTo 77 = .ok (.iastore, 1) := chk_nth ocX10_comeTo_1 (k := 20) rfl
theorem dX10_comeTo_78 : decode cX10_comeTo 78 = .ok (.aload_n 0, 1) := chk_nth ocX10_comeTo_1 (k := 21) rfl
theorem dX10_comeTo_79 : decode cX10_comeTo 79 = .ok (.getfield 18, 3) := chk_nth ocX10_comeTo_1 (k := 22) rfl
theorem dX10_comeTo_82 : decode cX10_comeTo 82 = .ok (.iload_n 1, 1) := chk_nth ocX10_comeTo_1 (k := 23) rfl
def tcX10_comeTo_2 : List (Instr × Nat) := [(.iload_n 2, 1), (.iastore, 1), (.aload_n 0, 1), (.getfield 21, 3), (.iload_n 1, 1), (.iload_n 3, 1), (.iastore, 1), (.aload_n 0, 1), (.getfield 9, 3), (.aload_n 0, 1), (.getfield 47, 3), (.iload_n 1, 1), (.iastore, 1), (.aload_n 0, 1), (.dup, 1), (.getfield 47, 3), (.iconst 1, 1), (.iadd, 1), (.putfield 47, 3), (.return_, 1)]
theorem ocX10_comeTo_2 : chk (cX10_comeTo.data.toList.drop 83) tcX10_comeTo_2 = true := by decide +kernel
theorem dX10_comeTo_83 : decode cX10_comeTo 83 = .ok (.iload_n 2, 1) := chk_nth ocX10_comeTo_2 (k := 0) rfl
theorem dX10_comeTo_84 : decode cX10_comeTo 84 = .ok (.iastore, 1) := chk_nth ocX10_comeTo_2 (k := 1) rfl
theorem dX10_comeTo_85 : decode cX10_comeTo 85 = .ok (.aload_n 0, 1) := chk_nth ocX10_comeTo_2 (k := 2) rfl
theorem dX10_comeTo_86 : decode cX10_comeTo 86 = .ok (.getfield 21, 3) := chk_nth ocX10_comeTo_2 (k := 3) rfl
theorem dX10_comeTo_89 : decode cX10_comeTo 89 = .ok (.iload_n 1, 1) := chk_nth ocX10_comeTo_2 (k := 4) rfl
theorem dX10_comeTo_90 : decode cX10_comeTo 90 = .ok (.iload_n 3, 1) := chk_nth ocX10_comeTo_2 (k := 5) rfl
theorem dX10_comeTo_91 : decode cX10_comeTo 91 = .ok (.iastore, 1) := chk_nth ocX10_comeTo_2 (k := 6) rfl
theorem dX10_comeTo_92 : decode cX10_comeTo 92 = .ok (.aload_n 0, 1) := chk_nth ocX10_comeTo_2 (k := 7) rfl
theorem dX10_comeTo_93 : decode cX10_comeTo 93 = .ok (.getfield 9, 3) := chk_nth ocX10_comeTo_2 (k := 8) rfl
theorem dX10_comeTo_96 : decode cX10_comeTo 96 = .ok (.aload_n 0, 1) := chk_nth ocX10_comeTo_2 (k := 9) rfl
theorem dX10_comeTo_97 : decode cX10_comeTo 97 = .ok (.getfield 47, 3) := chk_nth ocX10_comeTo_2 (k := 10) rfl
theorem dX10_comeTo_100 : decode cX10_comeTo 100 = .ok (.iload_n 1, 1) := chk_nth ocX10_comeTo_2 (k := 11) rfl
theorem dX10_comeTo_101 : decode cX10_comeTo 101 = .ok (.iastore, 1) := chk_nth ocX10_comeTo_2 (k := 12) rfl
theorem dX10_comeTo_102 : decode cX10_comeTo 102 = .ok (.aload_n 0, 1) := chk_nth ocX10_comeTo_2 (k := 13) rfl
theorem dX10_comeTo_103 : decode cX10_comeTo 103 = .ok (.dup, 1) := chk_nth ocX10_comeTo_2 (k := 14) rfl
theorem dX10_comeTo_104 : decode cX10_comeTo 104 = .ok (.getfield 47, 3) := chk_nth ocX10_comeTo_2 (k := 15) rfl
theorem dX10_comeTo_107 : decode cX10_comeTo 107 = .ok (.iconst 1, 1) := chk_nth ocX10_comeTo_2 (k := 16) rfl
theorem dX10_comeTo_108 : decode cX10_comeTo 108 = .ok (.iadd, 1) := chk_nth ocX10_comeTo_2 (k := 17) rfl
theorem dX10_comeTo_109 : decode cX10_comeTo 109 = .ok (.putfield 47, 3) := chk_nth ocX10_comeTo_2 (k := 18) rfl
theorem dX10_comeTo_112 : decode cX10_comeTo 112 = .ok (.return_, 1) := chk_nth ocX10_comeTo_2 (k := 19) rfl
def tcX10_spotAt_0 : List (Instr × Nat) := [(.iload_n 1, 1), (.ifCond .lt 26, 3), (.iload_n 1, 1), (.aload_n 0, 1), (.getfield 47, 3), (.if_icmp .ge 18, 3), (.iload_n 1, 1), (.bipush 120, 2), (.if_icmp .ge 12, 3), (.aload_n 0, 1), (.getfield 9, 3), (.iload_n 1, 1), (.iaload, 1), (.goto 4, 3), (.iconst (-1), 1), (.ireturn, 1)]
theorem ocX10_spotAt_0 : chk (cX10_spotAt.data.toList.drop 0) tcX10_spotAt_0 = true := by decide +kernel
theorem dX10_spotAt_0 : decode cX10_spotAt 0 = .ok (.iload_n 1, 1) := chk_nth ocX10_spotAt_0 (k := 0) rfl
theorem dX10_spotAt_1 : decode cX10_spotAt 1 = .ok (.ifCond .lt 26, 3) := chk_nth ocX10_spotAt_0 (k := 1) rfl
theorem dX10_spotAt_4 : decode cX10_spotAt 4 = .ok (.iload_n 1, 1) := chk_nth ocX10_spotAt_0 (k := 2) rfl
theorem dX10_spotAt_5 : decode cX10_spotAt 5 = .ok (.aload_n 0, 1) := chk_nth ocX10_spotAt_0 (k := 3) rfl
theorem dX10_spotAt_6 : decode cX10_spotAt 6 = .ok (.getfield 47, 3) := chk_nth ocX10_spotAt_0 (k := 4) rfl
theorem dX10_spotAt_9 : decode cX10_spotAt 9 = .ok (.if_icmp .ge 18, 3) := chk_nth ocX10_spotAt_0 (k := 5) rfl
theorem dX10_spotAt_12 : decode cX10_spotAt 12 = .ok (.iload_n 1, 1) := chk_nth ocX10_spotAt_0 (k := 6) rfl
theorem dX10_spotAt_13 : decode cX10_spotAt 13 = .ok (.bipush 120, 2) := chk_nth ocX10_spotAt_0 (k := 7) rfl
theorem dX10_spotAt_15 : decode cX10_spotAt 15 = .ok (.if_icmp .ge 12, 3) := chk_nth ocX10_spotAt_0 (k := 8) rfl
theorem dX10_spotAt_18 : decode cX10_spotAt 18 = .ok (.aload_n 0, 1) := chk_nth ocX10_spotAt_0 (k := 9) rfl
theorem dX10_spotAt_19 : decode cX10_spotAt 19 = .ok (.getfield 9, 3) := chk_nth ocX10_spotAt_0 (k := 10) rfl
theorem dX10_spotAt_22 : decode cX10_spotAt 22 = .ok (.iload_n 1, 1) := chk_nth ocX10_spotAt_0 (k := 11) rfl
theorem dX10_spotAt_23 : decode cX10_spotAt 23 = .ok (.iaload, 1) := chk_nth ocX10_spotAt_0 (k := 12) rfl
theorem dX10_spotAt_24 : decode cX10_spotAt 24 = .ok (.goto 4, 3) := chk_nth ocX10_spotAt_0 (k := 13) rfl
theorem dX10_spotAt_27 : decode cX10_spotAt 27 = .ok (.iconst (-1), 1) := chk_nth ocX10_spotAt_0 (k := 14) rfl
theorem dX10_spotAt_28 : decode cX10_spotAt 28 = .ok (.ireturn, 1) := chk_nth ocX10_spotAt_0 (k := 15) rfl
def tcX10_goingsTo_0 : List (Instr × Nat) := [(.iload_n 1, 1), (.invokestatic 54, 3), (.ifCond .eq 12, 3), (.aload_n 0, 1), (.getfield 15, 3), (.iload_n 1, 1), (.iaload, 1), (.goto 4, 3), (.iconst (-1), 1), (.ireturn, 1)]
theorem ocX10_goingsTo_0 : chk (cX10_goingsTo.data.toList.drop 0) tcX10_goingsTo_0 = true := by decide +kernel
theorem dX10_goingsTo_0 : decode cX10_goingsTo 0 = .ok (.iload_n 1, 1) := chk_nth ocX10_goingsTo_0 (k := 0) rfl
theorem dX10_goingsTo_1 : decode cX10_goingsTo 1 = .ok (.invokestatic 54, 3) := chk_nth ocX10_goingsTo_0 (k := 1) rfl
theorem dX10_goingsTo_4 : decode cX10_goingsTo 4 = .ok (.ifCond .eq 12, 3) := chk_nth ocX10_goingsTo_0 (k := 2) rfl
theorem dX10_goingsTo_7 : decode cX10_goingsTo 7 = .ok (.aload_n 0, 1) := chk_nth ocX10_goingsTo_0 (k := 3) rfl
theorem dX10_goingsTo_8 : decode cX10_goingsTo 8 = .ok (.getfield 15, 3) := chk_nth ocX10_goingsTo_0 (k := 4) rfl
theorem dX10_goingsTo_11 : decode cX10_goingsTo 11 = .ok (.iload_n 1, 1) := chk_nth ocX10_goingsTo_0 (k := 5) rfl
theorem dX10_goingsTo_12 : decode cX10_goingsTo 12 = .ok (.iaload, 1) := chk_nth ocX10_goingsTo_0 (k := 6) rfl
theorem dX10_goingsTo_13 : decode cX10_goingsTo 13 = .ok (.goto 4, 3) := chk_nth ocX10_goingsTo_0 (k := 7) rfl
theorem dX10_goingsTo_16 : decode cX10_goingsTo 16 = .ok (.iconst (-1), 1) := chk_nth ocX10_goingsTo_0 (k := 8) rfl
theorem dX10_goingsTo_17 : decode cX10_goingsTo 17 = .ok (.ireturn, 1) := chk_nth ocX10_goingsTo_0 (k := 9) rfl
def tcX10_firstAt_0 : List (Instr × Nat) := [(.iconst 0, 1), (.istore_n 3, 1), (.iload_n 3, 1), (.aload_n 0, 1), (.getfield 47, 3), (.if_icmp .ge 49, 3), (.iload_n 3, 1), (.bipush 120, 2), (.if_icmp .ge 43, 3), (.aload_n 0, 1), (.getfield 9, 3), (.iload_n 3, 1), (.iaload, 1), (.istore 4, 2), (.iload 4, 2), (.bipush 20, 2), (.idiv, 1), (.iload_n 1, 1), (.if_icmp .ne 20, 3), (.iload_n 2, 1), (.iconst (-1), 1), (.if_icmp .eq 12, 3), (.iload 4, 2), (.bipush 20, 2)]
theorem ocX10_firstAt_0 : chk (cX10_firstAt.data.toList.drop 0) tcX10_firstAt_0 = true := by decide +kernel
theorem dX10_firstAt_0 : decode cX10_firstAt 0 = .ok (.iconst 0, 1) := chk_nth ocX10_firstAt_0 (k := 0) rfl
theorem dX10_firstAt_1 : decode cX10_firstAt 1 = .ok (.istore_n 3, 1) := chk_nth ocX10_firstAt_0 (k := 1) rfl
theorem dX10_firstAt_2 : decode cX10_firstAt 2 = .ok (.iload_n 3, 1) := chk_nth ocX10_firstAt_0 (k := 2) rfl
theorem dX10_firstAt_3 : decode cX10_firstAt 3 = .ok (.aload_n 0, 1) := chk_nth ocX10_firstAt_0 (k := 3) rfl
theorem dX10_firstAt_4 : decode cX10_firstAt 4 = .ok (.getfield 47, 3) := chk_nth ocX10_firstAt_0 (k := 4) rfl
theorem dX10_firstAt_7 : decode cX10_firstAt 7 = .ok (.if_icmp .ge 49, 3) := chk_nth ocX10_firstAt_0 (k := 5) rfl
theorem dX10_firstAt_10 : decode cX10_firstAt 10 = .ok (.iload_n 3, 1) := chk_nth ocX10_firstAt_0 (k := 6) rfl
theorem dX10_firstAt_11 : decode cX10_firstAt 11 = .ok (.bipush 120, 2) := chk_nth ocX10_firstAt_0 (k := 7) rfl
theorem dX10_firstAt_13 : decode cX10_firstAt 13 = .ok (.if_icmp .ge 43, 3) := chk_nth ocX10_firstAt_0 (k := 8) rfl
theorem dX10_firstAt_16 : decode cX10_firstAt 16 = .ok (.aload_n 0, 1) := chk_nth ocX10_firstAt_0 (k := 9) rfl
theorem dX10_firstAt_17 : decode cX10_firstAt 17 = .ok (.getfield 9, 3) := chk_nth ocX10_firstAt_0 (k := 10) rfl
theorem dX10_firstAt_20 : decode cX10_firstAt 20 = .ok (.iload_n 3, 1) := chk_nth ocX10_firstAt_0 (k := 11) rfl
theorem dX10_firstAt_21 : decode cX10_firstAt 21 = .ok (.iaload, 1) := chk_nth ocX10_firstAt_0 (k := 12) rfl
theorem dX10_firstAt_22 : decode cX10_firstAt 22 = .ok (.istore 4, 2) := chk_nth ocX10_firstAt_0 (k := 13) rfl
theorem dX10_firstAt_24 : decode cX10_firstAt 24 = .ok (.iload 4, 2) := chk_nth ocX10_firstAt_0 (k := 14) rfl
theorem dX10_firstAt_26 : decode cX10_firstAt 26 = .ok (.bipush 20, 2) := chk_nth ocX10_firstAt_0 (k := 15) rfl
theorem dX10_firstAt_28 : decode cX10_firstAt 28 = .ok (.idiv, 1) := chk_nth ocX10_firstAt_0 (k := 16) rfl
theorem dX10_firstAt_29 : decode cX10_firstAt 29 = .ok (.iload_n 1, 1) := chk_nth ocX10_firstAt_0 (k := 17) rfl
theorem dX10_firstAt_30 : decode cX10_firstAt 30 = .ok (.if_icmp .ne 20, 3) := chk_nth ocX10_firstAt_0 (k := 18) rfl
theorem dX10_firstAt_33 : decode cX10_firstAt 33 = .ok (.iload_n 2, 1) := chk_nth ocX10_firstAt_0 (k := 19) rfl
theorem dX10_firstAt_34 : decode cX10_firstAt 34 = .ok (.iconst (-1), 1) := chk_nth ocX10_firstAt_0 (k := 20) rfl
theorem dX10_firstAt_35 : decode cX10_firstAt 35 = .ok (.if_icmp .eq 12, 3) := chk_nth ocX10_firstAt_0 (k := 21) rfl
theorem dX10_firstAt_38 : decode cX10_firstAt 38 = .ok (.iload 4, 2) := chk_nth ocX10_firstAt_0 (k := 22) rfl
theorem dX10_firstAt_40 : decode cX10_firstAt 40 = .ok (.bipush 20, 2) := chk_nth ocX10_firstAt_0 (k := 23) rfl
def tcX10_firstAt_1 : List (Instr × Nat) := [(.irem, 1), (.iload_n 2, 1), (.if_icmp .ne 6, 3), (.iload 4, 2), (.ireturn, 1), (.iinc 3 1, 3), (.goto (-51), 3), (.iconst (-1), 1), (.ireturn, 1)]
theorem ocX10_firstAt_1 : chk (cX10_firstAt.data.toList.drop 42) tcX10_firstAt_1 = true := by decide +kernel
theorem dX10_firstAt_42 : decode cX10_firstAt 42 = .ok (.irem, 1) := chk_nth ocX10_firstAt_1 (k := 0) rfl
theorem dX10_firstAt_43 : decode cX10_firstAt 43 = .ok (.iload_n 2, 1) := chk_nth ocX10_firstAt_1 (k := 1) rfl
theorem dX10_firstAt_44 : decode cX10_firstAt 44 = .ok (.if_icmp .ne 6, 3) := chk_nth ocX10_firstAt_1 (k := 2) rfl
theorem dX10_firstAt_47 : decode cX10_firstAt 47 = .ok (.iload 4, 2) := chk_nth ocX10_firstAt_1 (k := 3) rfl
theorem dX10_firstAt_49 : decode cX10_firstAt 49 = .ok (.ireturn, 1) := chk_nth ocX10_firstAt_1 (k := 4) rfl
theorem dX10_firstAt_50 : decode cX10_firstAt 50 = .ok (.iinc 3 1, 3) := chk_nth ocX10_firstAt_1 (k := 5) rfl
theorem dX10_firstAt_53 : decode cX10_firstAt 53 = .ok (.goto (-51), 3) := chk_nth ocX10_firstAt_1 (k := 6) rfl
theorem dX10_firstAt_56 : decode cX10_firstAt 56 = .ok (.iconst (-1), 1) := chk_nth ocX10_firstAt_1 (k := 7) rfl
theorem dX10_firstAt_57 : decode cX10_firstAt 57 = .ok (.ireturn, 1) := chk_nth ocX10_firstAt_1 (k := 8) rfl
def tcX10_streetOfWay_0 : List (Instr × Nat) := [(.aload_n 0, 1), (.iload_n 1, 1), (.invokevirtual 84, 3), (.istore_n 3, 1), (.iload_n 2, 1), (.ifCond .lt 8, 3), (.iload_n 2, 1), (.iload_n 3, 1), (.if_icmp .lt 5, 3), (.iconst (-1), 1), (.ireturn, 1), (.iload_n 1, 1), (.istore 4, 2), (.iload_n 3, 1), (.iconst 1, 1), (.isub, 1), (.istore 5, 2), (.iload 5, 2), (.iload_n 2, 1), (.if_icmp .le 28, 3), (.iload 4, 2), (.invokestatic 54, 3), (.ifCond .ne 5, 3), (.iconst (-1), 1)]
theorem ocX10_streetOfWay_0 : chk (cX10_streetOfWay.data.toList.drop 0) tcX10_streetOfWay_0 = true := by decide +kernel
theorem dX10_streetOfWay_0 : decode cX10_streetOfWay 0 = .ok (.aload_n 0, 1) := chk_nth ocX10_streetOfWay_0 (k := 0) rfl
theorem dX10_streetOfWay_1 : decode cX10_streetOfWay 1 = .ok (.iload_n 1, 1) := chk_nth ocX10_streetOfWay_0 (k := 1) rfl
theorem dX10_streetOfWay_2 : decode cX10_streetOfWay 2 = .ok (.invokevirtual 84, 3) := chk_nth ocX10_streetOfWay_0 (k := 2) rfl
theorem dX10_streetOfWay_5 : decode cX10_streetOfWay 5 = .ok (.istore_n 3, 1) := chk_nth ocX10_streetOfWay_0 (k := 3) rfl
theorem dX10_streetOfWay_6 : decode cX10_streetOfWay 6 = .ok (.iload_n 2, 1) := chk_nth ocX10_streetOfWay_0 (k := 4) rfl
theorem dX10_streetOfWay_7 : decode cX10_streetOfWay 7 = .ok (.ifCond .lt 8, 3) := chk_nth ocX10_streetOfWay_0 (k := 5) rfl
theorem dX10_streetOfWay_10 : decode cX10_streetOfWay 10 = .ok (.iload_n 2, 1) := chk_nth ocX10_streetOfWay_0 (k := 6) rfl
theorem dX10_streetOfWay_11 : decode cX10_streetOfWay 11 = .ok (.iload_n 3, 1) := chk_nth ocX10_streetOfWay_0 (k := 7) rfl
theorem dX10_streetOfWay_12 : decode cX10_streetOfWay 12 = .ok (.if_icmp .lt 5, 3) := chk_nth ocX10_streetOfWay_0 (k := 8) rfl
theorem dX10_streetOfWay_15 : decode cX10_streetOfWay 15 = .ok (.iconst (-1), 1) := chk_nth ocX10_streetOfWay_0 (k := 9) rfl
theorem dX10_streetOfWay_16 : decode cX10_streetOfWay 16 = .ok (.ireturn, 1) := chk_nth ocX10_streetOfWay_0 (k := 10) rfl
theorem dX10_streetOfWay_17 : decode cX10_streetOfWay 17 = .ok (.iload_n 1, 1) := chk_nth ocX10_streetOfWay_0 (k := 11) rfl
theorem dX10_streetOfWay_18 : decode cX10_streetOfWay 18 = .ok (.istore 4, 2) := chk_nth ocX10_streetOfWay_0 (k := 12) rfl
theorem dX10_streetOfWay_20 : decode cX10_streetOfWay 20 = .ok (.iload_n 3, 1) := chk_nth ocX10_streetOfWay_0 (k := 13) rfl
theorem dX10_streetOfWay_21 : decode cX10_streetOfWay 21 = .ok (.iconst 1, 1) := chk_nth ocX10_streetOfWay_0 (k := 14) rfl
theorem dX10_streetOfWay_22 : decode cX10_streetOfWay 22 = .ok (.isub, 1) := chk_nth ocX10_streetOfWay_0 (k := 15) rfl
theorem dX10_streetOfWay_23 : decode cX10_streetOfWay 23 = .ok (.istore 5, 2) := chk_nth ocX10_streetOfWay_0 (k := 16) rfl
theorem dX10_streetOfWay_25 : decode cX10_streetOfWay 25 = .ok (.iload 5, 2) := chk_nth ocX10_streetOfWay_0 (k := 17) rfl
theorem dX10_streetOfWay_27 : decode cX10_streetOfWay 27 = .ok (.iload_n 2, 1) := chk_nth ocX10_streetOfWay_0 (k := 18) rfl
theorem dX10_streetOfWay_28 : decode cX10_streetOfWay 28 = .ok (.if_icmp .le 28, 3) := chk_nth ocX10_streetOfWay_0 (k := 19) rfl
theorem dX10_streetOfWay_31 : decode cX10_streetOfWay 31 = .ok (.iload 4, 2) := chk_nth ocX10_streetOfWay_0 (k := 20) rfl
theorem dX10_streetOfWay_33 : decode cX10_streetOfWay 33 = .ok (.invokestatic 54, 3) := chk_nth ocX10_streetOfWay_0 (k := 21) rfl
theorem dX10_streetOfWay_36 : decode cX10_streetOfWay 36 = .ok (.ifCond .ne 5, 3) := chk_nth ocX10_streetOfWay_0 (k := 22) rfl
theorem dX10_streetOfWay_39 : decode cX10_streetOfWay 39 = .ok (.iconst (-1), 1) := chk_nth ocX10_streetOfWay_0 (k := 23) rfl
def tcX10_streetOfWay_1 : List (Instr × Nat) := [(.ireturn, 1), (.aload_n 0, 1), (.getfield 18, 3), (.iload 4, 2), (.iaload, 1), (.istore 4, 2), (.iinc 5 (-1), 3), (.goto (-28), 3), (.iload 4, 2), (.invokestatic 54, 3), (.ifCond .eq 13, 3), (.aload_n 0, 1), (.getfield 21, 3), (.iload 4, 2), (.iaload, 1), (.goto 4, 3), (.iconst (-1), 1), (.ireturn, 1)]
theorem ocX10_streetOfWay_1 : chk (cX10_streetOfWay.data.toList.drop 40) tcX10_streetOfWay_1 = true := by decide +kernel
theorem dX10_streetOfWay_40 : decode cX10_streetOfWay 40 = .ok (.ireturn, 1) := chk_nth ocX10_streetOfWay_1 (k := 0) rfl
theorem dX10_streetOfWay_41 : decode cX10_streetOfWay 41 = .ok (.aload_n 0, 1) := chk_nth ocX10_streetOfWay_1 (k := 1) rfl
theorem dX10_streetOfWay_42 : decode cX10_streetOfWay 42 = .ok (.getfield 18, 3) := chk_nth ocX10_streetOfWay_1 (k := 2) rfl
theorem dX10_streetOfWay_45 : decode cX10_streetOfWay 45 = .ok (.iload 4, 2) := chk_nth ocX10_streetOfWay_1 (k := 3) rfl
theorem dX10_streetOfWay_47 : decode cX10_streetOfWay 47 = .ok (.iaload, 1) := chk_nth ocX10_streetOfWay_1 (k := 4) rfl
theorem dX10_streetOfWay_48 : decode cX10_streetOfWay 48 = .ok (.istore 4, 2) := chk_nth ocX10_streetOfWay_1 (k := 5) rfl
theorem dX10_streetOfWay_50 : decode cX10_streetOfWay 50 = .ok (.iinc 5 (-1), 3) := chk_nth ocX10_streetOfWay_1 (k := 6) rfl
theorem dX10_streetOfWay_53 : decode cX10_streetOfWay 53 = .ok (.goto (-28), 3) := chk_nth ocX10_streetOfWay_1 (k := 7) rfl
theorem dX10_streetOfWay_56 : decode cX10_streetOfWay 56 = .ok (.iload 4, 2) := chk_nth ocX10_streetOfWay_1 (k := 8) rfl
theorem dX10_streetOfWay_58 : decode cX10_streetOfWay 58 = .ok (.invokestatic 54, 3) := chk_nth ocX10_streetOfWay_1 (k := 9) rfl
theorem dX10_streetOfWay_61 : decode cX10_streetOfWay 61 = .ok (.ifCond .eq 13, 3) := chk_nth ocX10_streetOfWay_1 (k := 10) rfl
theorem dX10_streetOfWay_64 : decode cX10_streetOfWay 64 = .ok (.aload_n 0, 1) := chk_nth ocX10_streetOfWay_1 (k := 11) rfl
theorem dX10_streetOfWay_65 : decode cX10_streetOfWay 65 = .ok (.getfield 21, 3) := chk_nth ocX10_streetOfWay_1 (k := 12) rfl
theorem dX10_streetOfWay_68 : decode cX10_streetOfWay 68 = .ok (.iload 4, 2) := chk_nth ocX10_streetOfWay_1 (k := 13) rfl
theorem dX10_streetOfWay_70 : decode cX10_streetOfWay 70 = .ok (.iaload, 1) := chk_nth ocX10_streetOfWay_1 (k := 14) rfl
theorem dX10_streetOfWay_71 : decode cX10_streetOfWay 71 = .ok (.goto 4, 3) := chk_nth ocX10_streetOfWay_1 (k := 15) rfl
theorem dX10_streetOfWay_74 : decode cX10_streetOfWay 74 = .ok (.iconst (-1), 1) := chk_nth ocX10_streetOfWay_1 (k := 16) rfl
theorem dX10_streetOfWay_75 : decode cX10_streetOfWay 75 = .ok (.ireturn, 1) := chk_nth ocX10_streetOfWay_1 (k := 17) rfl
def tcX10_hasRing_0 : List (Instr × Nat) := [(.aload_n 0, 1), (.aload_n 3, 1), (.invokevirtual 37, 3), (.aload_n 0, 1), (.getfield 27, 3), (.iconst 0, 1), (.invokestatic 41, 3), (.aload_n 0, 1), (.iconst 0, 1), (.putfield 47, 3), (.aload_n 0, 1), (.iload_n 2, 1), (.invokevirtual 87, 3), (.iconst 0, 1), (.istore 4, 2), (.iload 4, 2), (.sipush 1080, 3), (.if_icmp .ge 142, 3), (.aload_n 0, 1), (.getfield 47, 3), (.ifCond .le 135, 3), (.aload_n 0, 1), (.getfield 47, 3), (.bipush 120, 2)]
theorem ocX10_hasRing_0 : chk (cX10_hasRing.data.toList.drop 0) tcX10_hasRing_0 = true := by decide +kernel
theorem dX10_hasRing_0 : decode cX10_hasRing 0 = .ok (.aload_n 0, 1) := chk_nth ocX10_hasRing_0 (k := 0) rfl
theorem dX10_hasRing_1 : decode cX10_hasRing 1 = .ok (.aload_n 3, 1) := chk_nth ocX10_hasRing_0 (k := 1) rfl
theorem dX10_hasRing_2 : decode cX10_hasRing 2 = .ok (.invokevirtual 37, 3) := chk_nth ocX10_hasRing_0 (k := 2) rfl
theorem dX10_hasRing_5 : decode cX10_hasRing 5 = .ok (.aload_n 0, 1) := chk_nth ocX10_hasRing_0 (k := 3) rfl
theorem dX10_hasRing_6 : decode cX10_hasRing 6 = .ok (.getfield 27, 3) := chk_nth ocX10_hasRing_0 (k := 4) rfl
theorem dX10_hasRing_9 : decode cX10_hasRing 9 = .ok (.iconst 0, 1) := chk_nth ocX10_hasRing_0 (k := 5) rfl
theorem dX10_hasRing_10 : decode cX10_hasRing 10 = .ok (.invokestatic 41, 3) := chk_nth ocX10_hasRing_0 (k := 6) rfl
theorem dX10_hasRing_13 : decode cX10_hasRing 13 = .ok (.aload_n 0, 1) := chk_nth ocX10_hasRing_0 (k := 7) rfl
theorem dX10_hasRing_14 : decode cX10_hasRing 14 = .ok (.iconst 0, 1) := chk_nth ocX10_hasRing_0 (k := 8) rfl
theorem dX10_hasRing_15 : decode cX10_hasRing 15 = .ok (.putfield 47, 3) := chk_nth ocX10_hasRing_0 (k := 9) rfl
theorem dX10_hasRing_18 : decode cX10_hasRing 18 = .ok (.aload_n 0, 1) := chk_nth ocX10_hasRing_0 (k := 10) rfl
theorem dX10_hasRing_19 : decode cX10_hasRing 19 = .ok (.iload_n 2, 1) := chk_nth ocX10_hasRing_0 (k := 11) rfl
theorem dX10_hasRing_20 : decode cX10_hasRing 20 = .ok (.invokevirtual 87, 3) := chk_nth ocX10_hasRing_0 (k := 12) rfl
theorem dX10_hasRing_23 : decode cX10_hasRing 23 = .ok (.iconst 0, 1) := chk_nth ocX10_hasRing_0 (k := 13) rfl
theorem dX10_hasRing_24 : decode cX10_hasRing 24 = .ok (.istore 4, 2) := chk_nth ocX10_hasRing_0 (k := 14) rfl
theorem dX10_hasRing_26 : decode cX10_hasRing 26 = .ok (.iload 4, 2) := chk_nth ocX10_hasRing_0 (k := 15) rfl
theorem dX10_hasRing_28 : decode cX10_hasRing 28 = .ok (.sipush 1080, 3) := chk_nth ocX10_hasRing_0 (k := 16) rfl
theorem dX10_hasRing_31 : decode cX10_hasRing 31 = .ok (.if_icmp .ge 142, 3) := chk_nth ocX10_hasRing_0 (k := 17) rfl
theorem dX10_hasRing_34 : decode cX10_hasRing 34 = .ok (.aload_n 0, 1) := chk_nth ocX10_hasRing_0 (k := 18) rfl
theorem dX10_hasRing_35 : decode cX10_hasRing 35 = .ok (.getfield 47, 3) := chk_nth ocX10_hasRing_0 (k := 19) rfl
theorem dX10_hasRing_38 : decode cX10_hasRing 38 = .ok (.ifCond .le 135, 3) := chk_nth ocX10_hasRing_0 (k := 20) rfl
theorem dX10_hasRing_41 : decode cX10_hasRing 41 = .ok (.aload_n 0, 1) := chk_nth ocX10_hasRing_0 (k := 21) rfl
theorem dX10_hasRing_42 : decode cX10_hasRing 42 = .ok (.getfield 47, 3) := chk_nth ocX10_hasRing_0 (k := 22) rfl
theorem dX10_hasRing_45 : decode cX10_hasRing 45 = .ok (.bipush 120, 2) := chk_nth ocX10_hasRing_0 (k := 23) rfl
def tcX10_hasRing_1 : List (Instr × Nat) := [(.if_icmp .gt 126, 3), (.aload_n 0, 1), (.getfield 9, 3), (.aload_n 0, 1), (.getfield 47, 3), (.iconst 1, 1), (.isub, 1), (.iaload, 1), (.istore 5, 2), (.iload 5, 2), (.invokestatic 54, 3), (.ifCond .ne 5, 3), (.iconst 0, 1), (.ireturn, 1), (.aload_n 0, 1), (.getfield 30, 3), (.iload 5, 2), (.iaload, 1), (.istore 6, 2), (.iload 6, 2), (.ifCond .ne 24, 3), (.aload_n 0, 1), (.getfield 27, 3), (.iload 5, 2)]
theorem ocX10_hasRing_1 : chk (cX10_hasRing.data.toList.drop 47) tcX10_hasRing_1 = true := by decide +kernel
theorem dX10_hasRing_47 : decode cX10_hasRing 47 = .ok (.if_icmp .gt 126, 3) := chk_nth ocX10_hasRing_1 (k := 0) rfl
theorem dX10_hasRing_50 : decode cX10_hasRing 50 = .ok (.aload_n 0, 1) := chk_nth ocX10_hasRing_1 (k := 1) rfl
theorem dX10_hasRing_51 : decode cX10_hasRing 51 = .ok (.getfield 9, 3) := chk_nth ocX10_hasRing_1 (k := 2) rfl
theorem dX10_hasRing_54 : decode cX10_hasRing 54 = .ok (.aload_n 0, 1) := chk_nth ocX10_hasRing_1 (k := 3) rfl
theorem dX10_hasRing_55 : decode cX10_hasRing 55 = .ok (.getfield 47, 3) := chk_nth ocX10_hasRing_1 (k := 4) rfl
theorem dX10_hasRing_58 : decode cX10_hasRing 58 = .ok (.iconst 1, 1) := chk_nth ocX10_hasRing_1 (k := 5) rfl
theorem dX10_hasRing_59 : decode cX10_hasRing 59 = .ok (.isub, 1) := chk_nth ocX10_hasRing_1 (k := 6) rfl
theorem dX10_hasRing_60 : decode cX10_hasRing 60 = .ok (.iaload, 1) := chk_nth ocX10_hasRing_1 (k := 7) rfl
theorem dX10_hasRing_61 : decode cX10_hasRing 61 = .ok (.istore 5, 2) := chk_nth ocX10_hasRing_1 (k := 8) rfl
theorem dX10_hasRing_63 : decode cX10_hasRing 63 = .ok (.iload 5, 2) := chk_nth ocX10_hasRing_1 (k := 9) rfl
theorem dX10_hasRing_65 : decode cX10_hasRing 65 = .ok (.invokestatic 54, 3) := chk_nth ocX10_hasRing_1 (k := 10) rfl
theorem dX10_hasRing_68 : decode cX10_hasRing 68 = .ok (.ifCond .ne 5, 3) := chk_nth ocX10_hasRing_1 (k := 11) rfl
theorem dX10_hasRing_71 : decode cX10_hasRing 71 = .ok (.iconst 0, 1) := chk_nth ocX10_hasRing_1 (k := 12) rfl
theorem dX10_hasRing_72 : decode cX10_hasRing 72 = .ok (.ireturn, 1) := chk_nth ocX10_hasRing_1 (k := 13) rfl
theorem dX10_hasRing_73 : decode cX10_hasRing 73 = .ok (.aload_n 0, 1) := chk_nth ocX10_hasRing_1 (k := 14) rfl
theorem dX10_hasRing_74 : decode cX10_hasRing 74 = .ok (.getfield 30, 3) := chk_nth ocX10_hasRing_1 (k := 15) rfl
theorem dX10_hasRing_77 : decode cX10_hasRing 77 = .ok (.iload 5, 2) := chk_nth ocX10_hasRing_1 (k := 16) rfl
theorem dX10_hasRing_79 : decode cX10_hasRing 79 = .ok (.iaload, 1) := chk_nth ocX10_hasRing_1 (k := 17) rfl
theorem dX10_hasRing_80 : decode cX10_hasRing 80 = .ok (.istore 6, 2) := chk_nth ocX10_hasRing_1 (k := 18) rfl
theorem dX10_hasRing_82 : decode cX10_hasRing 82 = .ok (.iload 6, 2) := chk_nth ocX10_hasRing_1 (k := 19) rfl
theorem dX10_hasRing_84 : decode cX10_hasRing 84 = .ok (.ifCond .ne 24, 3) := chk_nth ocX10_hasRing_1 (k := 20) rfl
theorem dX10_hasRing_87 : decode cX10_hasRing 87 = .ok (.aload_n 0, 1) := chk_nth ocX10_hasRing_1 (k := 21) rfl
theorem dX10_hasRing_88 : decode cX10_hasRing 88 = .ok (.getfield 27, 3) := chk_nth ocX10_hasRing_1 (k := 22) rfl
theorem dX10_hasRing_91 : decode cX10_hasRing 91 = .ok (.iload 5, 2) := chk_nth ocX10_hasRing_1 (k := 23) rfl
def tcX10_hasRing_2 : List (Instr × Nat) := [(.iconst 2, 1), (.iastore, 1), (.aload_n 0, 1), (.dup, 1), (.getfield 47, 3), (.iconst 1, 1), (.isub, 1), (.putfield 47, 3), (.goto 62, 3), (.aload_n 0, 1), (.getfield 30, 3), (.iload 5, 2), (.iload 6, 2), (.iload 6, 2), (.iconst 1, 1), (.isub, 1), (.iand, 1), (.iastore, 1), (.aload_n 0, 1), (.getfield 33, 3), (.iload_n 1, 1), (.iload 6, 2), (.invokestatic 90, 3), (.iload 5, 2)]
theorem ocX10_hasRing_2 : chk (cX10_hasRing.data.toList.drop 93) tcX10_hasRing_2 = true := by decide +kernel
theorem dX10_hasRing_93 : decode cX10_hasRing 93 = .ok (.iconst 2, 1) := chk_nth ocX10_hasRing_2 (k := 0) rfl
theorem dX10_hasRing_94 : decode cX10_hasRing 94 = .ok (.iastore, 1) := chk_nth ocX10_hasRing_2 (k := 1) rfl
theorem dX10_hasRing_95 : decode cX10_hasRing 95 = .ok (.aload_n 0, 1) := chk_nth ocX10_hasRing_2 (k := 2) rfl
theorem dX10_hasRing_96 : decode cX10_hasRing 96 = .ok (.dup, 1) := chk_nth ocX10_hasRing_2 (k := 3) rfl
theorem dX10_hasRing_97 : decode cX10_hasRing 97 = .ok (.getfield 47, 3) := chk_nth ocX10_hasRing_2 (k := 4) rfl
theorem dX10_hasRing_100 : decode cX10_hasRing 100 = .ok (.iconst 1, 1) := chk_nth ocX10_hasRing_2 (k := 5) rfl
theorem dX10_hasRing_101 : decode cX10_hasRing 101 = .ok (.isub, 1) := chk_nth ocX10_hasRing_2 (k := 6) rfl
theorem dX10_hasRing_102 : decode cX10_hasRing 102 = .ok (.putfield 47, 3) := chk_nth ocX10_hasRing_2 (k := 7) rfl
theorem dX10_hasRing_105 : decode cX10_hasRing 105 = .ok (.goto 62, 3) := chk_nth ocX10_hasRing_2 (k := 8) rfl
theorem dX10_hasRing_108 : decode cX10_hasRing 108 = .ok (.aload_n 0, 1) := chk_nth ocX10_hasRing_2 (k := 9) rfl
theorem dX10_hasRing_109 : decode cX10_hasRing 109 = .ok (.getfield 30, 3) := chk_nth ocX10_hasRing_2 (k := 10) rfl
theorem dX10_hasRing_112 : decode cX10_hasRing 112 = .ok (.iload 5, 2) := chk_nth ocX10_hasRing_2 (k := 11) rfl
theorem dX10_hasRing_114 : decode cX10_hasRing 114 = .ok (.iload 6, 2) := chk_nth ocX10_hasRing_2 (k := 12) rfl
theorem dX10_hasRing_116 : decode cX10_hasRing 116 = .ok (.iload 6, 2) := chk_nth ocX10_hasRing_2 (k := 13) rfl
theorem dX10_hasRing_118 : decode cX10_hasRing 118 = .ok (.iconst 1, 1) := chk_nth ocX10_hasRing_2 (k := 14) rfl
theorem dX10_hasRing_119 : decode cX10_hasRing 119 = .ok (.isub, 1) := chk_nth ocX10_hasRing_2 (k := 15) rfl
theorem dX10_hasRing_120 : decode cX10_hasRing 120 = .ok (.iand, 1) := chk_nth ocX10_hasRing_2 (k := 16) rfl
theorem dX10_hasRing_121 : decode cX10_hasRing 121 = .ok (.iastore, 1) := chk_nth ocX10_hasRing_2 (k := 17) rfl
theorem dX10_hasRing_122 : decode cX10_hasRing 122 = .ok (.aload_n 0, 1) := chk_nth ocX10_hasRing_2 (k := 18) rfl
theorem dX10_hasRing_123 : decode cX10_hasRing 123 = .ok (.getfield 33, 3) := chk_nth ocX10_hasRing_2 (k := 19) rfl
theorem dX10_hasRing_126 : decode cX10_hasRing 126 = .ok (.iload_n 1, 1) := chk_nth ocX10_hasRing_2 (k := 20) rfl
theorem dX10_hasRing_127 : decode cX10_hasRing 127 = .ok (.iload 6, 2) := chk_nth ocX10_hasRing_2 (k := 21) rfl
theorem dX10_hasRing_129 : decode cX10_hasRing 129 = .ok (.invokestatic 90, 3) := chk_nth ocX10_hasRing_2 (k := 22) rfl
theorem dX10_hasRing_132 : decode cX10_hasRing 132 = .ok (.iload 5, 2) := chk_nth ocX10_hasRing_2 (k := 23) rfl
def tcX10_hasRing_3 : List (Instr × Nat) := [(.aload_n 3, 1), (.invokevirtual 62, 3), (.istore 7, 2), (.iload 7, 2), (.invokestatic 54, 3), (.ifCond .eq 16, 3), (.aload_n 0, 1), (.getfield 27, 3), (.iload 7, 2), (.iaload, 1), (.iconst 1, 1), (.if_icmp .ne 5, 3), (.iconst 1, 1), (.ireturn, 1), (.aload_n 0, 1), (.iload 7, 2), (.invokevirtual 87, 3), (.iinc 4 1, 3), (.goto (-144), 3), (.iconst 0, 1), (.ireturn, 1)]
theorem ocX10_hasRing_3 : chk (cX10_hasRing.data.toList.drop 134) tcX10_hasRing_3 = true := by decide +kernel
theorem dX10_hasRing_134 : decode cX10_hasRing 134 = .ok (.aload_n 3, 1) := chk_nth ocX10_hasRing_3 (k := 0) rfl
theorem dX10_hasRing_135 : decode cX10_hasRing 135 = .ok (.invokevirtual 62, 3) := chk_nth ocX10_hasRing_3 (k := 1) rfl
theorem dX10_hasRing_138 : decode cX10_hasRing 138 = .ok (.istore 7, 2) := chk_nth ocX10_hasRing_3 (k := 2) rfl
theorem dX10_hasRing_140 : decode cX10_hasRing 140 = .ok (.iload 7, 2) := chk_nth ocX10_hasRing_3 (k := 3) rfl
theorem dX10_hasRing_142 : decode cX10_hasRing 142 = .ok (.invokestatic 54, 3) := chk_nth ocX10_hasRing_3 (k := 4) rfl
theorem dX10_hasRing_145 : decode cX10_hasRing 145 = .ok (.ifCond .eq 16, 3) := chk_nth ocX10_hasRing_3 (k := 5) rfl
theorem dX10_hasRing_148 : decode cX10_hasRing 148 = .ok (.aload_n 0, 1) := chk_nth ocX10_hasRing_3 (k := 6) rfl
theorem dX10_hasRing_149 : decode cX10_hasRing 149 = .ok (.getfield 27, 3) := chk_nth ocX10_hasRing_3 (k := 7) rfl
theorem dX10_hasRing_152 : decode cX10_hasRing 152 = .ok (.iload 7, 2) := chk_nth ocX10_hasRing_3 (k := 8) rfl
theorem dX10_hasRing_154 : decode cX10_hasRing 154 = .ok (.iaload, 1) := chk_nth ocX10_hasRing_3 (k := 9) rfl
theorem dX10_hasRing_155 : decode cX10_hasRing 155 = .ok (.iconst 1, 1) := chk_nth ocX10_hasRing_3 (k := 10) rfl
theorem dX10_hasRing_156 : decode cX10_hasRing 156 = .ok (.if_icmp .ne 5, 3) := chk_nth ocX10_hasRing_3 (k := 11) rfl
theorem dX10_hasRing_159 : decode cX10_hasRing 159 = .ok (.iconst 1, 1) := chk_nth ocX10_hasRing_3 (k := 12) rfl
theorem dX10_hasRing_160 : decode cX10_hasRing 160 = .ok (.ireturn, 1) := chk_nth ocX10_hasRing_3 (k := 13) rfl
theorem dX10_hasRing_161 : decode cX10_hasRing 161 = .ok (.aload_n 0, 1) := chk_nth ocX10_hasRing_3 (k := 14) rfl
theorem dX10_hasRing_162 : decode cX10_hasRing 162 = .ok (.iload 7, 2) := chk_nth ocX10_hasRing_3 (k := 15) rfl
theorem dX10_hasRing_164 : decode cX10_hasRing 164 = .ok (.invokevirtual 87, 3) := chk_nth ocX10_hasRing_3 (k := 16) rfl
theorem dX10_hasRing_167 : decode cX10_hasRing 167 = .ok (.iinc 4 1, 3) := chk_nth ocX10_hasRing_3 (k := 17) rfl
theorem dX10_hasRing_170 : decode cX10_hasRing 170 = .ok (.goto (-144), 3) := chk_nth ocX10_hasRing_3 (k := 18) rfl
theorem dX10_hasRing_173 : decode cX10_hasRing 173 = .ok (.iconst 0, 1) := chk_nth ocX10_hasRing_3 (k := 19) rfl
theorem dX10_hasRing_174 : decode cX10_hasRing 174 = .ok (.ireturn, 1) := chk_nth ocX10_hasRing_3 (k := 20) rfl
def tcX10_open_0 : List (Instr × Nat) := [(.iload_n 1, 1), (.invokestatic 54, 3), (.ifCond .eq 59, 3), (.aload_n 0, 1), (.getfield 27, 3), (.iload_n 1, 1), (.iaload, 1), (.ifCond .ne 50, 3), (.aload_n 0, 1), (.getfield 47, 3), (.bipush 120, 2), (.if_icmp .ge 41, 3), (.aload_n 0, 1), (.getfield 27, 3), (.iload_n 1, 1), (.iconst 1, 1), (.iastore, 1), (.aload_n 0, 1), (.getfield 30, 3), (.iload_n 1, 1), (.aload_n 0, 1), (.iload_n 1, 1), (.invokevirtual 58, 3), (.iastore, 1)]
theorem ocX10_open_0 : chk (cX10_open.data.toList.drop 0) tcX10_open_0 = true := by decide +kernel
theorem dX10_open_0 : decode cX10_open 0 = .ok (.iload_n 1, 1) := chk_nth ocX10_open_0 (k := 0) rfl
theorem dX10_open_1 : decode cX10_open 1 = .ok (.invokestatic 54, 3) := chk_nth ocX10_open_0 (k := 1) rfl
theorem dX10_open_4 : decode cX10_open 4 = .ok (.ifCond .eq 59, 3) := chk_nth ocX10_open_0 (k := 2) rfl
theorem dX10_open_7 : decode cX10_open 7 = .ok (.aload_n 0, 1) := chk_nth ocX10_open_0 (k := 3) rfl
theorem dX10_open_8 : decode cX10_open 8 = .ok (.getfield 27, 3) := chk_nth ocX10_open_0 (k := 4) rfl
theorem dX10_open_11 : decode cX10_open 11 = .ok (.iload_n 1, 1) := chk_nth ocX10_open_0 (k := 5) rfl
theorem dX10_open_12 : decode cX10_open 12 = .ok (.iaload, 1) := chk_nth ocX10_open_0 (k := 6) rfl
theorem dX10_open_13 : decode cX10_open 13 = .ok (.ifCond .ne 50, 3) := chk_nth ocX10_open_0 (k := 7) rfl
theorem dX10_open_16 : decode cX10_open 16 = .ok (.aload_n 0, 1) := chk_nth ocX10_open_0 (k := 8) rfl
theorem dX10_open_17 : decode cX10_open 17 = .ok (.getfield 47, 3) := chk_nth ocX10_open_0 (k := 9) rfl
theorem dX10_open_20 : decode cX10_open 20 = .ok (.bipush 120, 2) := chk_nth ocX10_open_0 (k := 10) rfl
theorem dX10_open_22 : decode cX10_open 22 = .ok (.if_icmp .ge 41, 3) := chk_nth ocX10_open_0 (k := 11) rfl
theorem dX10_open_25 : decode cX10_open 25 = .ok (.aload_n 0, 1) := chk_nth ocX10_open_0 (k := 12) rfl
theorem dX10_open_26 : decode cX10_open 26 = .ok (.getfield 27, 3) := chk_nth ocX10_open_0 (k := 13) rfl
theorem dX10_open_29 : decode cX10_open 29 = .ok (.iload_n 1, 1) := chk_nth ocX10_open_0 (k := 14) rfl
theorem dX10_open_30 : decode cX10_open 30 = .ok (.iconst 1, 1) := chk_nth ocX10_open_0 (k := 15) rfl
theorem dX10_open_31 : decode cX10_open 31 = .ok (.iastore, 1) := chk_nth ocX10_open_0 (k := 16) rfl
theorem dX10_open_32 : decode cX10_open 32 = .ok (.aload_n 0, 1) := chk_nth ocX10_open_0 (k := 17) rfl
theorem dX10_open_33 : decode cX10_open 33 = .ok (.getfield 30, 3) := chk_nth ocX10_open_0 (k := 18) rfl
theorem dX10_open_36 : decode cX10_open 36 = .ok (.iload_n 1, 1) := chk_nth ocX10_open_0 (k := 19) rfl
theorem dX10_open_37 : decode cX10_open 37 = .ok (.aload_n 0, 1) := chk_nth ocX10_open_0 (k := 20) rfl
theorem dX10_open_38 : decode cX10_open 38 = .ok (.iload_n 1, 1) := chk_nth ocX10_open_0 (k := 21) rfl
theorem dX10_open_39 : decode cX10_open 39 = .ok (.invokevirtual 58, 3) := chk_nth ocX10_open_0 (k := 22) rfl
theorem dX10_open_42 : decode cX10_open 42 = .ok (.iastore, 1) := chk_nth ocX10_open_0 (k := 23) rfl
def tcX10_open_1 : List (Instr × Nat) := [(.aload_n 0, 1), (.getfield 9, 3), (.aload_n 0, 1), (.getfield 47, 3), (.iload_n 1, 1), (.iastore, 1), (.aload_n 0, 1), (.dup, 1), (.getfield 47, 3), (.iconst 1, 1), (.iadd, 1), (.putfield 47, 3), (.return_, 1)]
theorem ocX10_open_1 : chk (cX10_open.data.toList.drop 43) tcX10_open_1 = true := by decide +kernel
theorem dX10_open_43 : decode cX10_open 43 = .ok (.aload_n 0, 1) := chk_nth ocX10_open_1 (k := 0) rfl
theorem dX10_open_44 : decode cX10_open 44 = .ok (.getfield 9, 3) := chk_nth ocX10_open_1 (k := 1) rfl
theorem dX10_open_47 : decode cX10_open 47 = .ok (.aload_n 0, 1) := chk_nth ocX10_open_1 (k := 2) rfl
theorem dX10_open_48 : decode cX10_open 48 = .ok (.getfield 47, 3) := chk_nth ocX10_open_1 (k := 3) rfl
theorem dX10_open_51 : decode cX10_open 51 = .ok (.iload_n 1, 1) := chk_nth ocX10_open_1 (k := 4) rfl
theorem dX10_open_52 : decode cX10_open 52 = .ok (.iastore, 1) := chk_nth ocX10_open_1 (k := 5) rfl
theorem dX10_open_53 : decode cX10_open 53 = .ok (.aload_n 0, 1) := chk_nth ocX10_open_1 (k := 6) rfl
theorem dX10_open_54 : decode cX10_open 54 = .ok (.dup, 1) := chk_nth ocX10_open_1 (k := 7) rfl
theorem dX10_open_55 : decode cX10_open 55 = .ok (.getfield 47, 3) := chk_nth ocX10_open_1 (k := 8) rfl
theorem dX10_open_58 : decode cX10_open 58 = .ok (.iconst 1, 1) := chk_nth ocX10_open_1 (k := 9) rfl
theorem dX10_open_59 : decode cX10_open 59 = .ok (.iadd, 1) := chk_nth ocX10_open_1 (k := 10) rfl
theorem dX10_open_60 : decode cX10_open 60 = .ok (.putfield 47, 3) := chk_nth ocX10_open_1 (k := 11) rfl
theorem dX10_open_63 : decode cX10_open 63 = .ok (.return_, 1) := chk_nth ocX10_open_1 (k := 12) rfl
def tcX11_init_0 : List (Instr × Nat) := [(.aload_n 0, 1), (.invokespecial 3, 3), (.aload_n 0, 1), (.new 9, 3), (.dup, 1), (.invokespecial 11, 3), (.putfield 12, 3), (.aload_n 0, 1), (.aload_n 0, 1), (.getfield 12, 3), (.getfield 16, 3), (.putfield 20, 3), (.aload_n 0, 1), (.new 23, 3), (.dup, 1), (.invokespecial 25, 3), (.putfield 26, 3), (.aload_n 0, 1), (.new 23, 3), (.dup, 1), (.invokespecial 25, 3), (.putfield 29, 3), (.aload_n 0, 1), (.new 32, 3)]
theorem ocX11_init_0 : chk (cX11_init.data.toList.drop 0) tcX11_init_0 = true := by decide +kernel
theorem dX11_init_0 : decode cX11_init 0 = .ok (.aload_n 0, 1) := chk_nth ocX11_init_0 (k := 0) rfl
theorem dX11_init_1 : decode cX11_init 1 = .ok (.invokespecial 3, 3) := chk_nth ocX11_init_0 (k := 1) rfl
theorem dX11_init_4 : decode cX11_init 4 = .ok (.aload_n 0, 1) := chk_nth ocX11_init_0 (k := 2) rfl
theorem dX11_init_5 : decode cX11_init 5 = .ok (.new 9, 3) := chk_nth ocX11_init_0 (k := 3) rfl
theorem dX11_init_8 : decode cX11_init 8 = .ok (.dup, 1) := chk_nth ocX11_init_0 (k := 4) rfl
theorem dX11_init_9 : decode cX11_init 9 = .ok (.invokespecial 11, 3) := chk_nth ocX11_init_0 (k := 5) rfl
theorem dX11_init_12 : decode cX11_init 12 = .ok (.putfield 12, 3) := chk_nth ocX11_init_0 (k := 6) rfl
theorem dX11_init_15 : decode cX11_init 15 = .ok (.aload_n 0, 1) := chk_nth ocX11_init_0 (k := 7) rfl
theorem dX11_init_16 : decode cX11_init 16 = .ok (.aload_n 0, 1) := chk_nth ocX11_init_0 (k := 8) rfl
theorem dX11_init_17 : decode cX11_init 17 = .ok (.getfield 12, 3) := chk_nth ocX11_init_0 (k := 9) rfl
theorem dX11_init_20 : decode cX11_init 20 = .ok (.getfield 16, 3) := chk_nth ocX11_init_0 (k := 10) rfl
theorem dX11_init_23 : decode cX11_init 23 = .ok (.putfield 20, 3) := chk_nth ocX11_init_0 (k := 11) rfl
theorem dX11_init_26 : decode cX11_init 26 = .ok (.aload_n 0, 1) := chk_nth ocX11_init_0 (k := 12) rfl
theorem dX11_init_27 : decode cX11_init 27 = .ok (.new 23, 3) := chk_nth ocX11_init_0 (k := 13) rfl
theorem dX11_init_30 : decode cX11_init 30 = .ok (.dup, 1) := chk_nth ocX11_init_0 (k := 14) rfl
theorem dX11_init_31 : decode cX11_init 31 = .ok (.invokespecial 25, 3) := chk_nth ocX11_init_0 (k := 15) rfl
theorem dX11_init_34 : decode cX11_init 34 = .ok (.putfield 26, 3) := chk_nth ocX11_init_0 (k := 16) rfl
theorem dX11_init_37 : decode cX11_init 37 = .ok (.aload_n 0, 1) := chk_nth ocX11_init_0 (k := 17) rfl
theorem dX11_init_38 : decode cX11_init 38 = .ok (.new 23, 3) := chk_nth ocX11_init_0 (k := 18) rfl
theorem dX11_init_41 : decode cX11_init 41 = .ok (.dup, 1) := chk_nth ocX11_init_0 (k := 19) rfl
theorem dX11_init_42 : decode cX11_init 42 = .ok (.invokespecial 25, 3) := chk_nth ocX11_init_0 (k := 20) rfl
theorem dX11_init_45 : decode cX11_init 45 = .ok (.putfield 29, 3) := chk_nth ocX11_init_0 (k := 21) rfl
theorem dX11_init_48 : decode cX11_init 48 = .ok (.aload_n 0, 1) := chk_nth ocX11_init_0 (k := 22) rfl
theorem dX11_init_49 : decode cX11_init 49 = .ok (.new 32, 3) := chk_nth ocX11_init_0 (k := 23) rfl
def tcX11_init_1 : List (Instr × Nat) := [(.dup, 1), (.invokespecial 34, 3), (.putfield 35, 3), (.aload_n 0, 1), (.new 39, 3), (.dup, 1), (.aload_n 0, 1), (.getfield 12, 3), (.invokespecial 41, 3), (.putfield 44, 3), (.aload_n 0, 1), (.new 48, 3), (.dup, 1), (.aload_n 0, 1), (.getfield 12, 3), (.aload_n 0, 1), (.getfield 44, 3), (.invokespecial 50, 3), (.putfield 53, 3), (.aload_n 0, 1), (.new 57, 3), (.dup, 1), (.aload_n 0, 1), (.getfield 44, 3)]
theorem ocX11_init_1 : chk (cX11_init.data.toList.drop 52) tcX11_init_1 = true := by decide +kernel
theorem dX11_init_52 : decode cX11_init 52 = .ok (.dup, 1) := chk_nth ocX11_init_1 (k := 0) rfl
theorem dX11_init_53 : decode cX11_init 53 = .ok (.invokespecial 34, 3) := chk_nth ocX11_init_1 (k := 1) rfl
theorem dX11_init_56 : decode cX11_init 56 = .ok (.putfield 35, 3) := chk_nth ocX11_init_1 (k := 2) rfl
theorem dX11_init_59 : decode cX11_init 59 = .ok (.aload_n 0, 1) := chk_nth ocX11_init_1 (k := 3) rfl
theorem dX11_init_60 : decode cX11_init 60 = .ok (.new 39, 3) := chk_nth ocX11_init_1 (k := 4) rfl
theorem dX11_init_63 : decode cX11_init 63 = .ok (.dup, 1) := chk_nth ocX11_init_1 (k := 5) rfl
theorem dX11_init_64 : decode cX11_init 64 = .ok (.aload_n 0, 1) := chk_nth ocX11_init_1 (k := 6) rfl
theorem dX11_init_65 : decode cX11_init 65 = .ok (.getfield 12, 3) := chk_nth ocX11_init_1 (k := 7) rfl
theorem dX11_init_68 : decode cX11_init 68 = .ok (.invokespecial 41, 3) := chk_nth ocX11_init_1 (k := 8) rfl
theorem dX11_init_71 : decode cX11_init 71 = .ok (.putfield 44, 3) := chk_nth ocX11_init_1 (k := 9) rfl
theorem dX11_init_74 : decode cX11_init 74 = .ok (.aload_n 0, 1) := chk_nth ocX11_init_1 (k := 10) rfl
theorem dX11_init_75 : decode cX11_init 75 = .ok (.new 48, 3) := chk_nth ocX11_init_1 (k := 11) rfl
theorem dX11_init_78 : decode cX11_init 78 = .ok (.dup, 1) := chk_nth ocX11_init_1 (k := 12) rfl
theorem dX11_init_79 : decode cX11_init 79 = .ok (.aload_n 0, 1) := chk_nth ocX11_init_1 (k := 13) rfl
theorem dX11_init_80 : decode cX11_init 80 = .ok (.getfield 12, 3) := chk_nth ocX11_init_1 (k := 14) rfl
theorem dX11_init_83 : decode cX11_init 83 = .ok (.aload_n 0, 1) := chk_nth ocX11_init_1 (k := 15) rfl
theorem dX11_init_84 : decode cX11_init 84 = .ok (.getfield 44, 3) := chk_nth ocX11_init_1 (k := 16) rfl
theorem dX11_init_87 : decode cX11_init 87 = .ok (.invokespecial 50, 3) := chk_nth ocX11_init_1 (k := 17) rfl
theorem dX11_init_90 : decode cX11_init 90 = .ok (.putfield 53, 3) := chk_nth ocX11_init_1 (k := 18) rfl
theorem dX11_init_93 : decode cX11_init 93 = .ok (.aload_n 0, 1) := chk_nth ocX11_init_1 (k := 19) rfl
theorem dX11_init_94 : decode cX11_init 94 = .ok (.new 57, 3) := chk_nth ocX11_init_1 (k := 20) rfl
theorem dX11_init_97 : decode cX11_init 97 = .ok (.dup, 1) := chk_nth ocX11_init_1 (k := 21) rfl
theorem dX11_init_98 : decode cX11_init 98 = .ok (.aload_n 0, 1) := chk_nth ocX11_init_1 (k := 22) rfl
theorem dX11_init_99 : decode cX11_init 99 = .ok (.getfield 44, 3) := chk_nth ocX11_init_1 (k := 23) rfl
def tcX11_init_2 : List (Instr × Nat) := [(.invokespecial 59, 3), (.putfield 62, 3), (.aload_n 0, 1), (.new 57, 3), (.dup, 1), (.aload_n 0, 1), (.getfield 44, 3), (.invokespecial 59, 3), (.putfield 66, 3), (.aload_n 0, 1), (.new 69, 3), (.dup, 1), (.aload_n 0, 1), (.getfield 44, 3), (.invokespecial 71, 3), (.putfield 72, 3), (.aload_n 0, 1), (.new 76, 3), (.dup, 1), (.aload_n 0, 1), (.getfield 44, 3), (.invokespecial 78, 3), (.putfield 79, 3), (.aload_n 0, 1)]
theorem ocX11_init_2 : chk (cX11_init.data.toList.drop 102) tcX11_init_2 = true := by decide +kernel
theorem dX11_init_102 : decode cX11_init 102 = .ok (.invokespecial 59, 3) := chk_nth ocX11_init_2 (k := 0) rfl
theorem dX11_init_105 : decode cX11_init 105 = .ok (.putfield 62, 3) := chk_nth ocX11_init_2 (k := 1) rfl
theorem dX11_init_108 : decode cX11_init 108 = .ok (.aload_n 0, 1) := chk_nth ocX11_init_2 (k := 2) rfl
theorem dX11_init_109 : decode cX11_init 109 = .ok (.new 57, 3) := chk_nth ocX11_init_2 (k := 3) rfl
theorem dX11_init_112 : decode cX11_init 112 = .ok (.dup, 1) := chk_nth ocX11_init_2 (k := 4) rfl
theorem dX11_init_113 : decode cX11_init 113 = .ok (.aload_n 0, 1) := chk_nth ocX11_init_2 (k := 5) rfl
theorem dX11_init_114 : decode cX11_init 114 = .ok (.getfield 44, 3) := chk_nth ocX11_init_2 (k := 6) rfl
theorem dX11_init_117 : decode cX11_init 117 = .ok (.invokespecial 59, 3) := chk_nth ocX11_init_2 (k := 7) rfl
theorem dX11_init_120 : decode cX11_init 120 = .ok (.putfield 66, 3) := chk_nth ocX11_init_2 (k := 8) rfl
theorem dX11_init_123 : decode cX11_init 123 = .ok (.aload_n 0, 1) := chk_nth ocX11_init_2 (k := 9) rfl
theorem dX11_init_124 : decode cX11_init 124 = .ok (.new 69, 3) := chk_nth ocX11_init_2 (k := 10) rfl
theorem dX11_init_127 : decode cX11_init 127 = .ok (.dup, 1) := chk_nth ocX11_init_2 (k := 11) rfl
theorem dX11_init_128 : decode cX11_init 128 = .ok (.aload_n 0, 1) := chk_nth ocX11_init_2 (k := 12) rfl
theorem dX11_init_129 : decode cX11_init 129 = .ok (.getfield 44, 3) := chk_nth ocX11_init_2 (k := 13) rfl
theorem dX11_init_132 : decode cX11_init 132 = .ok (.invokespecial 71, 3) := chk_nth ocX11_init_2 (k := 14) rfl
theorem dX11_init_135 : decode cX11_init 135 = .ok (.putfield 72, 3) := chk_nth ocX11_init_2 (k := 15) rfl
theorem dX11_init_138 : decode cX11_init 138 = .ok (.aload_n 0, 1) := chk_nth ocX11_init_2 (k := 16) rfl
theorem dX11_init_139 : decode cX11_init 139 = .ok (.new 76, 3) := chk_nth ocX11_init_2 (k := 17) rfl
theorem dX11_init_142 : decode cX11_init 142 = .ok (.dup, 1) := chk_nth ocX11_init_2 (k := 18) rfl
theorem dX11_init_143 : decode cX11_init 143 = .ok (.aload_n 0, 1) := chk_nth ocX11_init_2 (k := 19) rfl
theorem dX11_init_144 : decode cX11_init 144 = .ok (.getfield 44, 3) := chk_nth ocX11_init_2 (k := 20) rfl
theorem dX11_init_147 : decode cX11_init 147 = .ok (.invokespecial 78, 3) := chk_nth ocX11_init_2 (k := 21) rfl
theorem dX11_init_150 : decode cX11_init 150 = .ok (.putfield 79, 3) := chk_nth ocX11_init_2 (k := 22) rfl
theorem dX11_init_153 : decode cX11_init 153 = .ok (.aload_n 0, 1) := chk_nth ocX11_init_2 (k := 23) rfl
def tcX11_init_3 : List (Instr × Nat) := [(.new 83, 3), (.dup, 1), (.invokespecial 85, 3), (.putfield 86, 3), (.aload_n 0, 1), (.iconst 4, 1), (.anewarray 90, 3), (.putfield 92, 3), (.aload_n 0, 1), (.iconst 2, 1), (.anewarray 9, 3), (.putfield 96, 3), (.aload_n 0, 1), (.bipush 20, 2), (.newarray .int, 2), (.putfield 100, 3), (.iconst 0, 1), (.istore_n 1, 1), (.iload_n 1, 1), (.aload_n 0, 1), (.getfield 92, 3), (.arraylength, 1), (.if_icmp .ge 22, 3), (.aload_n 0, 1)]
theorem ocX11_init_3 : chk (cX11_init.data.toList.drop 154) tcX11_init_3 = true := by decide +kernel
theorem dX11_init_154 : decode cX11_init 154 = .ok (.new 83, 3) := chk_nth ocX11_init_3 (k := 0) rfl
theorem dX11_init_157 : decode cX11_init 157 = .ok (.dup, 1) := chk_nth ocX11_init_3 (k := 1) rfl
theorem dX11_init_158 : decode cX11_init 158 = .ok (.invokespecial 85, 3) := chk_nth ocX11_init_3 (k := 2) rfl
theorem dX11_init_161 : decode cX11_init 161 = .ok (.putfield 86, 3) := chk_nth ocX11_init_3 (k := 3) rfl
theorem dX11_init_164 : decode cX11_init 164 = .ok (.aload_n 0, 1) := chk_nth ocX11_init_3 (k := 4) rfl
theorem dX11_init_165 : decode cX11_init 165 = .ok (.iconst 4, 1) := chk_nth ocX11_init_3 (k := 5) rfl
theorem dX11_init_166 : decode cX11_init 166 = .ok (.anewarray 90, 3) := chk_nth ocX11_init_3 (k := 6) rfl
theorem dX11_init_169 : decode cX11_init 169 = .ok (.putfield 92, 3) := chk_nth ocX11_init_3 (k := 7) rfl
theorem dX11_init_172 : decode cX11_init 172 = .ok (.aload_n 0, 1) := chk_nth ocX11_init_3 (k := 8) rfl
theorem dX11_init_173 : decode cX11_init 173 = .ok (.iconst 2, 1) := chk_nth ocX11_init_3 (k := 9) rfl
theorem dX11_init_174 : decode cX11_init 174 = .ok (.anewarray 9, 3) := chk_nth ocX11_init_3 (k := 10) rfl
theorem dX11_init_177 : decode cX11_init 177 = .ok (.putfield 96, 3) := chk_nth ocX11_init_3 (k := 11) rfl
theorem dX11_init_180 : decode cX11_init 180 = .ok (.aload_n 0, 1) := chk_nth ocX11_init_3 (k := 12) rfl
theorem dX11_init_181 : decode cX11_init 181 = .ok (.bipush 20, 2) := chk_nth ocX11_init_3 (k := 13) rfl
theorem dX11_init_183 : decode cX11_init 183 = .ok (.newarray .int, 2) := chk_nth ocX11_init_3 (k := 14) rfl
theorem dX11_init_185 : decode cX11_init 185 = .ok (.putfield 100, 3) := chk_nth ocX11_init_3 (k := 15) rfl
theorem dX11_init_188 : decode cX11_init 188 = .ok (.iconst 0, 1) := chk_nth ocX11_init_3 (k := 16) rfl
theorem dX11_init_189 : decode cX11_init 189 = .ok (.istore_n 1, 1) := chk_nth ocX11_init_3 (k := 17) rfl
theorem dX11_init_190 : decode cX11_init 190 = .ok (.iload_n 1, 1) := chk_nth ocX11_init_3 (k := 18) rfl
theorem dX11_init_191 : decode cX11_init 191 = .ok (.aload_n 0, 1) := chk_nth ocX11_init_3 (k := 19) rfl
theorem dX11_init_192 : decode cX11_init 192 = .ok (.getfield 92, 3) := chk_nth ocX11_init_3 (k := 20) rfl
theorem dX11_init_195 : decode cX11_init 195 = .ok (.arraylength, 1) := chk_nth ocX11_init_3 (k := 21) rfl
theorem dX11_init_196 : decode cX11_init 196 = .ok (.if_icmp .ge 22, 3) := chk_nth ocX11_init_3 (k := 22) rfl
theorem dX11_init_199 : decode cX11_init 199 = .ok (.aload_n 0, 1) := chk_nth ocX11_init_3 (k := 23) rfl
def tcX11_init_4 : List (Instr × Nat) := [(.getfield 92, 3), (.iload_n 1, 1), (.new 90, 3), (.dup, 1), (.invokespecial 104, 3), (.aastore, 1), (.iinc 1 1, 3), (.goto (-25), 3), (.iconst 0, 1), (.istore_n 1, 1), (.iload_n 1, 1), (.aload_n 0, 1), (.getfield 96, 3), (.arraylength, 1), (.if_icmp .ge 22, 3), (.aload_n 0, 1), (.getfield 96, 3), (.iload_n 1, 1), (.new 9, 3), (.dup, 1), (.invokespecial 11, 3), (.aastore, 1), (.iinc 1 1, 3), (.goto (-25), 3)]
theorem ocX11_init_4 : chk (cX11_init.data.toList.drop 200) tcX11_init_4 = true := by decide +kernel
theorem dX11_init_200 : decode cX11_init 200 = .ok (.getfield 92, 3) := chk_nth ocX11_init_4 (k := 0) rfl
theorem dX11_init_203 : decode cX11_init 203 = .ok (.iload_n 1, 1) := chk_nth ocX11_init_4 (k := 1) rfl
theorem dX11_init_204 : decode cX11_init 204 = .ok (.new 90, 3) := chk_nth ocX11_init_4 (k := 2) rfl
theorem dX11_init_207 : decode cX11_init 207 = .ok (.dup, 1) := chk_nth ocX11_init_4 (k := 3) rfl
theorem dX11_init_208 : decode cX11_init 208 = .ok (.invokespecial 104, 3) := chk_nth ocX11_init_4 (k := 4) rfl
theorem dX11_init_211 : decode cX11_init 211 = .ok (.aastore, 1) := chk_nth ocX11_init_4 (k := 5) rfl
theorem dX11_init_212 : decode cX11_init 212 = .ok (.iinc 1 1, 3) := chk_nth ocX11_init_4 (k := 6) rfl
theorem dX11_init_215 : decode cX11_init 215 = .ok (.goto (-25), 3) := chk_nth ocX11_init_4 (k := 7) rfl
theorem dX11_init_218 : decode cX11_init 218 = .ok (.iconst 0, 1) := chk_nth ocX11_init_4 (k := 8) rfl
theorem dX11_init_219 : decode cX11_init 219 = .ok (.istore_n 1, 1) := chk_nth ocX11_init_4 (k := 9) rfl
theorem dX11_init_220 : decode cX11_init 220 = .ok (.iload_n 1, 1) := chk_nth ocX11_init_4 (k := 10) rfl
theorem dX11_init_221 : decode cX11_init 221 = .ok (.aload_n 0, 1) := chk_nth ocX11_init_4 (k := 11) rfl
theorem dX11_init_222 : decode cX11_init 222 = .ok (.getfield 96, 3) := chk_nth ocX11_init_4 (k := 12) rfl
theorem dX11_init_225 : decode cX11_init 225 = .ok (.arraylength, 1) := chk_nth ocX11_init_4 (k := 13) rfl
theorem dX11_init_226 : decode cX11_init 226 = .ok (.if_icmp .ge 22, 3) := chk_nth ocX11_init_4 (k := 14) rfl
theorem dX11_init_229 : decode cX11_init 229 = .ok (.aload_n 0, 1) := chk_nth ocX11_init_4 (k := 15) rfl
theorem dX11_init_230 : decode cX11_init 230 = .ok (.getfield 96, 3) := chk_nth ocX11_init_4 (k := 16) rfl
theorem dX11_init_233 : decode cX11_init 233 = .ok (.iload_n 1, 1) := chk_nth ocX11_init_4 (k := 17) rfl
theorem dX11_init_234 : decode cX11_init 234 = .ok (.new 9, 3) := chk_nth ocX11_init_4 (k := 18) rfl
theorem dX11_init_237 : decode cX11_init 237 = .ok (.dup, 1) := chk_nth ocX11_init_4 (k := 19) rfl
theorem dX11_init_238 : decode cX11_init 238 = .ok (.invokespecial 11, 3) := chk_nth ocX11_init_4 (k := 20) rfl
theorem dX11_init_241 : decode cX11_init 241 = .ok (.aastore, 1) := chk_nth ocX11_init_4 (k := 21) rfl
theorem dX11_init_242 : decode cX11_init 242 = .ok (.iinc 1 1, 3) := chk_nth ocX11_init_4 (k := 22) rfl
theorem dX11_init_245 : decode cX11_init 245 = .ok (.goto (-25), 3) := chk_nth ocX11_init_4 (k := 23) rfl
def tcX11_init_5 : List (Instr × Nat) := [(.return_, 1)]
theorem ocX11_init_5 : chk (cX11_init.data.toList.drop 248) tcX11_init_5 = true := by decide +kernel
theorem dX11_init_248 : decode cX11_init 248 = .ok (.return_, 1) := chk_nth ocX11_init_5 (k := 0) rfl
def tcX11_feed_0 : List (Instr × Nat) := [(.aload_n 0, 1), (.getfield 35, 3), (.getfield 105, 3), (.sipush 880, 3), (.if_icmp .le 6, 3), (.bipush (-5), 2), (.ireturn, 1), (.aload_n 0, 1), (.getfield 35, 3), (.iload_n 1, 1), (.invokevirtual 109, 3), (.aload_n 0, 1), (.getfield 35, 3), (.iload_n 2, 1), (.invokevirtual 109, 3), (.aload_n 0, 1), (.getfield 35, 3), (.iload_n 3, 1), (.invokevirtual 109, 3), (.aload_n 0, 1), (.getfield 35, 3), (.iload 4, 2), (.invokevirtual 109, 3), (.aload_n 0, 1)]
theorem ocX11_feed_0 : chk (cX11_feed.data.toList.drop 0) tcX11_feed_0 = true := by decide +kernel
theorem dX11_feed_0 : decode cX11_feed 0 = .ok (.aload_n 0, 1) := chk_nth ocX11_feed_0 (k := 0) rfl
theorem dX11_feed_1 : decode cX11_feed 1 = .ok (.getfield 35, 3) := chk_nth ocX11_feed_0 (k := 1) rfl
theorem dX11_feed_4 : decode cX11_feed 4 = .ok (.getfield 105, 3) := chk_nth ocX11_feed_0 (k := 2) rfl
theorem dX11_feed_7 : decode cX11_feed 7 = .ok (.sipush 880, 3) := chk_nth ocX11_feed_0 (k := 3) rfl
theorem dX11_feed_10 : decode cX11_feed 10 = .ok (.if_icmp .le 6, 3) := chk_nth ocX11_feed_0 (k := 4) rfl
theorem dX11_feed_13 : decode cX11_feed 13 = .ok (.bipush (-5), 2) := chk_nth ocX11_feed_0 (k := 5) rfl
theorem dX11_feed_15 : decode cX11_feed 15 = .ok (.ireturn, 1) := chk_nth ocX11_feed_0 (k := 6) rfl
theorem dX11_feed_16 : decode cX11_feed 16 = .ok (.aload_n 0, 1) := chk_nth ocX11_feed_0 (k := 7) rfl
theorem dX11_feed_17 : decode cX11_feed 17 = .ok (.getfield 35, 3) := chk_nth ocX11_feed_0 (k := 8) rfl
theorem dX11_feed_20 : decode cX11_feed 20 = .ok (.iload_n 1, 1) := chk_nth ocX11_feed_0 (k := 9) rfl
theorem dX11_feed_21 : decode cX11_feed 21 = .ok (.invokevirtual 109, 3) := chk_nth ocX11_feed_0 (k := 10) rfl
theorem dX11_feed_24 : decode cX11_feed 24 = .ok (.aload_n 0, 1) := chk_nth ocX11_feed_0 (k := 11) rfl
theorem dX11_feed_25 : decode cX11_feed 25 = .ok (.getfield 35, 3) := chk_nth ocX11_feed_0 (k := 12) rfl
theorem dX11_feed_28 : decode cX11_feed 28 = .ok (.iload_n 2, 1) := chk_nth ocX11_feed_0 (k := 13) rfl
theorem dX11_feed_29 : decode cX11_feed 29 = .ok (.invokevirtual 109, 3) := chk_nth ocX11_feed_0 (k := 14) rfl
theorem dX11_feed_32 : decode cX11_feed 32 = .ok (.aload_n 0, 1) := chk_nth ocX11_feed_0 (k := 15) rfl
theorem dX11_feed_33 : decode cX11_feed 33 = .ok (.getfield 35, 3) := chk_nth ocX11_feed_0 (k := 16) rfl
theorem dX11_feed_36 : decode cX11_feed 36 = .ok (.iload_n 3, 1) := chk_nth ocX11_feed_0 (k := 17) rfl
theorem dX11_feed_37 : decode cX11_feed 37 = .ok (.invokevirtual 109, 3) := chk_nth ocX11_feed_0 (k := 18) rfl
theorem dX11_feed_40 : decode cX11_feed 40 = .ok (.aload_n 0, 1) := chk_nth ocX11_feed_0 (k := 19) rfl
theorem dX11_feed_41 : decode cX11_feed 41 = .ok (.getfield 35, 3) := chk_nth ocX11_feed_0 (k := 20) rfl
theorem dX11_feed_44 : decode cX11_feed 44 = .ok (.iload 4, 2) := chk_nth ocX11_feed_0 (k := 21) rfl
theorem dX11_feed_46 : decode cX11_feed 46 = .ok (.invokevirtual 109, 3) := chk_nth ocX11_feed_0 (k := 22) rfl
theorem dX11_feed_49 : decode cX11_feed 49 = .ok (.aload_n 0, 1) := chk_nth ocX11_feed_0 (k := 23) rfl
def tcX11_feed_1 : List (Instr × Nat) := [(.getfield 35, 3), (.iload 5, 2), (.invokevirtual 109, 3), (.aload_n 0, 1), (.getfield 35, 3), (.getfield 105, 3), (.ireturn, 1)]
theorem ocX11_feed_1 : chk (cX11_feed.data.toList.drop 50) tcX11_feed_1 = true := by decide +kernel
theorem dX11_feed_50 : decode cX11_feed 50 = .ok (.getfield 35, 3) := chk_nth ocX11_feed_1 (k := 0) rfl
theorem dX11_feed_53 : decode cX11_feed 53 = .ok (.iload 5, 2) := chk_nth ocX11_feed_1 (k := 1) rfl
theorem dX11_feed_55 : decode cX11_feed 55 = .ok (.invokevirtual 109, 3) := chk_nth ocX11_feed_1 (k := 2) rfl
theorem dX11_feed_58 : decode cX11_feed 58 = .ok (.aload_n 0, 1) := chk_nth ocX11_feed_1 (k := 3) rfl
theorem dX11_feed_59 : decode cX11_feed 59 = .ok (.getfield 35, 3) := chk_nth ocX11_feed_1 (k := 4) rfl
theorem dX11_feed_62 : decode cX11_feed 62 = .ok (.getfield 105, 3) := chk_nth ocX11_feed_1 (k := 5) rfl
theorem dX11_feed_65 : decode cX11_feed 65 = .ok (.ireturn, 1) := chk_nth ocX11_feed_1 (k := 6) rfl
def tcX11_town_0 : List (Instr × Nat) := [(.iload_n 1, 1), (.ifCond .lt 14, 3), (.iload_n 1, 1), (.aload_n 0, 1), (.getfield 35, 3), (.getfield 105, 3), (.if_icmp .le 6, 3), (.bipush (-3), 2), (.ireturn, 1), (.aload_n 0, 1), (.getfield 35, 3), (.iload_n 1, 1), (.invokevirtual 113, 3), (.aload_n 0, 1), (.getfield 35, 3), (.getfield 116, 3), (.ifCond .eq 14, 3), (.bipush (-30), 2), (.aload_n 0, 1), (.getfield 35, 3), (.getfield 116, 3), (.isub, 1), (.ireturn, 1), (.aload_n 0, 1)]
theorem ocX11_town_0 : chk (cX11_town.data.toList.drop 0) tcX11_town_0 = true := by decide +kernel
theorem dX11_town_0 : decode cX11_town 0 = .ok (.iload_n 1, 1) := chk_nth ocX11_town_0 (k := 0) rfl
theorem dX11_town_1 : decode cX11_town 1 = .ok (.ifCond .lt 14, 3) := chk_nth ocX11_town_0 (k := 1) rfl
theorem dX11_town_4 : decode cX11_town 4 = .ok (.iload_n 1, 1) := chk_nth ocX11_town_0 (k := 2) rfl
theorem dX11_town_5 : decode cX11_town 5 = .ok (.aload_n 0, 1) := chk_nth ocX11_town_0 (k := 3) rfl
theorem dX11_town_6 : decode cX11_town 6 = .ok (.getfield 35, 3) := chk_nth ocX11_town_0 (k := 4) rfl
theorem dX11_town_9 : decode cX11_town 9 = .ok (.getfield 105, 3) := chk_nth ocX11_town_0 (k := 5) rfl
theorem dX11_town_12 : decode cX11_town 12 = .ok (.if_icmp .le 6, 3) := chk_nth ocX11_town_0 (k := 6) rfl
theorem dX11_town_15 : decode cX11_town 15 = .ok (.bipush (-3), 2) := chk_nth ocX11_town_0 (k := 7) rfl
theorem dX11_town_17 : decode cX11_town 17 = .ok (.ireturn, 1) := chk_nth ocX11_town_0 (k := 8) rfl
theorem dX11_town_18 : decode cX11_town 18 = .ok (.aload_n 0, 1) := chk_nth ocX11_town_0 (k := 9) rfl
theorem dX11_town_19 : decode cX11_town 19 = .ok (.getfield 35, 3) := chk_nth ocX11_town_0 (k := 10) rfl
theorem dX11_town_22 : decode cX11_town 22 = .ok (.iload_n 1, 1) := chk_nth ocX11_town_0 (k := 11) rfl
theorem dX11_town_23 : decode cX11_town 23 = .ok (.invokevirtual 113, 3) := chk_nth ocX11_town_0 (k := 12) rfl
theorem dX11_town_26 : decode cX11_town 26 = .ok (.aload_n 0, 1) := chk_nth ocX11_town_0 (k := 13) rfl
theorem dX11_town_27 : decode cX11_town 27 = .ok (.getfield 35, 3) := chk_nth ocX11_town_0 (k := 14) rfl
theorem dX11_town_30 : decode cX11_town 30 = .ok (.getfield 116, 3) := chk_nth ocX11_town_0 (k := 15) rfl
theorem dX11_town_33 : decode cX11_town 33 = .ok (.ifCond .eq 14, 3) := chk_nth ocX11_town_0 (k := 16) rfl
theorem dX11_town_36 : decode cX11_town 36 = .ok (.bipush (-30), 2) := chk_nth ocX11_town_0 (k := 17) rfl
theorem dX11_town_38 : decode cX11_town 38 = .ok (.aload_n 0, 1) := chk_nth ocX11_town_0 (k := 18) rfl
theorem dX11_town_39 : decode cX11_town 39 = .ok (.getfield 35, 3) := chk_nth ocX11_town_0 (k := 19) rfl
theorem dX11_town_42 : decode cX11_town 42 = .ok (.getfield 116, 3) := chk_nth ocX11_town_0 (k := 20) rfl
theorem dX11_town_45 : decode cX11_town 45 = .ok (.isub, 1) := chk_nth ocX11_town_0 (k := 21) rfl
theorem dX11_town_46 : decode cX11_town 46 = .ok (.ireturn, 1) := chk_nth ocX11_town_0 (k := 22) rfl
theorem dX11_town_47 : decode cX11_town 47 = .ok (.aload_n 0, 1) := chk_nth ocX11_town_0 (k := 23) rfl
def tcX11_town_1 : List (Instr × Nat) := [(.aload_n 0, 1), (.getfield 35, 3), (.getfield 119, 3), (.invokevirtual 122, 3), (.aload_n 0, 1), (.getfield 12, 3), (.getfield 125, 3), (.ireturn, 1)]
theorem ocX11_town_1 : chk (cX11_town.data.toList.drop 48) tcX11_town_1 = true := by decide +kernel
theorem dX11_town_48 : decode cX11_town 48 = .ok (.aload_n 0, 1) := chk_nth ocX11_town_1 (k := 0) rfl
theorem dX11_town_49 : decode cX11_town 49 = .ok (.getfield 35, 3) := chk_nth ocX11_town_1 (k := 1) rfl
theorem dX11_town_52 : decode cX11_town 52 = .ok (.getfield 119, 3) := chk_nth ocX11_town_1 (k := 2) rfl
theorem dX11_town_55 : decode cX11_town 55 = .ok (.invokevirtual 122, 3) := chk_nth ocX11_town_1 (k := 3) rfl
theorem dX11_town_58 : decode cX11_town 58 = .ok (.aload_n 0, 1) := chk_nth ocX11_town_1 (k := 4) rfl
theorem dX11_town_59 : decode cX11_town 59 = .ok (.getfield 12, 3) := chk_nth ocX11_town_1 (k := 5) rfl
theorem dX11_town_62 : decode cX11_town 62 = .ok (.getfield 125, 3) := chk_nth ocX11_town_1 (k := 6) rfl
theorem dX11_town_65 : decode cX11_town 65 = .ok (.ireturn, 1) := chk_nth ocX11_town_1 (k := 7) rfl
def tcX11_fault_0 : List (Instr × Nat) := [(.iload_n 1, 1), (.ifCond .ne 11, 3), (.aload_n 0, 1), (.getfield 35, 3), (.getfield 116, 3), (.ireturn, 1), (.iload_n 1, 1), (.iconst 1, 1), (.if_icmp .ne 13, 3), (.aload_n 0, 1), (.getfield 35, 3), (.getfield 128, 3), (.goto 4, 3), (.iconst (-1), 1), (.ireturn, 1)]
theorem ocX11_fault_0 : chk (cX11_fault.data.toList.drop 0) tcX11_fault_0 = true := by decide +kernel
theorem dX11_fault_0 : decode cX11_fault 0 = .ok (.iload_n 1, 1) := chk_nth ocX11_fault_0 (k := 0) rfl
theorem dX11_fault_1 : decode cX11_fault 1 = .ok (.ifCond .ne 11, 3) := chk_nth ocX11_fault_0 (k := 1) rfl
theorem dX11_fault_4 : decode cX11_fault 4 = .ok (.aload_n 0, 1) := chk_nth ocX11_fault_0 (k := 2) rfl
theorem dX11_fault_5 : decode cX11_fault 5 = .ok (.getfield 35, 3) := chk_nth ocX11_fault_0 (k := 3) rfl
theorem dX11_fault_8 : decode cX11_fault 8 = .ok (.getfield 116, 3) := chk_nth ocX11_fault_0 (k := 4) rfl
theorem dX11_fault_11 : decode cX11_fault 11 = .ok (.ireturn, 1) := chk_nth ocX11_fault_0 (k := 5) rfl
theorem dX11_fault_12 : decode cX11_fault 12 = .ok (.iload_n 1, 1) := chk_nth ocX11_fault_0 (k := 6) rfl
theorem dX11_fault_13 : decode cX11_fault 13 = .ok (.iconst 1, 1) := chk_nth ocX11_fault_0 (k := 7) rfl
theorem dX11_fault_14 : decode cX11_fault 14 = .ok (.if_icmp .ne 13, 3) := chk_nth ocX11_fault_0 (k := 8) rfl
theorem dX11_fault_17 : decode cX11_fault 17 = .ok (.aload_n 0, 1) := chk_nth ocX11_fault_0 (k := 9) rfl
theorem dX11_fault_18 : decode cX11_fault 18 = .ok (.getfield 35, 3) := chk_nth ocX11_fault_0 (k := 10) rfl
theorem dX11_fault_21 : decode cX11_fault 21 = .ok (.getfield 128, 3) := chk_nth ocX11_fault_0 (k := 11) rfl
theorem dX11_fault_24 : decode cX11_fault 24 = .ok (.goto 4, 3) := chk_nth ocX11_fault_0 (k := 12) rfl
theorem dX11_fault_27 : decode cX11_fault 27 = .ok (.iconst (-1), 1) := chk_nth ocX11_fault_0 (k := 13) rfl
theorem dX11_fault_28 : decode cX11_fault 28 = .ok (.ireturn, 1) := chk_nth ocX11_fault_0 (k := 14) rfl
def tcX11_street_0 : List (Instr × Nat) := [(.aload_n 0, 1), (.getfield 12, 3), (.iload_n 1, 1), (.invokevirtual 131, 3), (.ifCond .ne 6, 3), (.bipush (-2), 2), (.ireturn, 1), (.iload_n 2, 1)]
theorem ocX11_street_0 : chk (cX11_street.data.toList.drop 0) tcX11_street_0 = true := by decide +kernel
theorem dX11_street_0 : decode cX11_street 0 = .ok (.aload_n 0, 1) := chk_nth ocX11_street_0 (k := 0) rfl
theorem dX11_street_1 : decode cX11_street 1 = .ok (.getfield 12, 3) := chk_nth ocX11_street_0 (k := 1) rfl
theorem dX11_street_4 : decode cX11_street 4 = .ok (.iload_n 1, 1) := chk_nth ocX11_street_0 (k := 2) rfl
theorem dX11_street_5 : decode cX11_street 5 = .ok (.invokevirtual 131, 3) := chk_nth ocX11_street_0 (k := 3) rfl
theorem dX11_street_8 : decode cX11_street 8 = .ok (.ifCond .ne 6, 3) := chk_nth ocX11_street_0 (k := 4) rfl
theorem dX11_street_11 : decode cX11_street 11 = .ok (.bipush (-2), 2) := chk_nth ocX11_street_0 (k := 5) rfl
theorem dX11_street_13 : decode cX11_street 13 = .ok (.ireturn, 1) := chk_nth ocX11_street_0 (k := 6) rfl
theorem dX11_street_14 : decode cX11_street 14 = .ok (.iload_n 2, 1) := chk_nth ocX11_street_0 (k := 7) rfl
theorem dX11_street_15 : decode cX11_street 15 = .ok (.tableswitch 71 0 3 #[29, 39, 49, 58], 29) := by decide +kernel
def tcX11_street_1 : List (Instr × Nat) := [(.aload_n 0, 1), (.getfield 12, 3), (.getfield 135, 3), (.iload_n 1, 1), (.iaload, 1), (.ireturn, 1), (.aload_n 0, 1), (.getfield 12, 3), (.getfield 138, 3), (.iload_n 1, 1), (.iaload, 1), (.ireturn, 1), (.aload_n 0, 1), (.getfield 20, 3), (.iload_n 1, 1), (.invokevirtual 141, 3), (.ireturn, 1), (.bipush 50, 2), (.aload_n 0, 1), (.getfield 12, 3), (.getfield 145, 3), (.iload_n 1, 1), (.iaload, 1), (.iadd, 1)]
theorem ocX11_street_1 : chk (cX11_street.data.toList.drop 44) tcX11_street_1 = true := by decide +kernel
theorem dX11_street_44 : decode cX11_street 44 = .ok (.aload_n 0, 1) := chk_nth ocX11_street_1 (k := 0) rfl
theorem dX11_street_45 : decode cX11_street 45 = .ok (.getfield 12, 3) := chk_nth ocX11_street_1 (k := 1) rfl
theorem dX11_street_48 : decode cX11_street 48 = .ok (.getfield 135, 3) := chk_nth ocX11_street_1 (k := 2) rfl
theorem dX11_street_51 : decode cX11_street 51 = .ok (.iload_n 1, 1) := chk_nth ocX11_street_1 (k := 3) rfl
theorem dX11_street_52 : decode cX11_street 52 = .ok (.iaload, 1) := chk_nth ocX11_street_1 (k := 4) rfl
theorem dX11_street_53 : decode cX11_street 53 = .ok (.ireturn, 1) := chk_nth ocX11_street_1 (k := 5) rfl
theorem dX11_street_54 : decode cX11_street 54 = .ok (.aload_n 0, 1) := chk_nth ocX11_street_1 (k := 6) rfl
theorem dX11_street_55 : decode cX11_street 55 = .ok (.getfield 12, 3) := chk_nth ocX11_street_1 (k := 7) rfl
theorem dX11_street_58 : decode cX11_street 58 = .ok (.getfield 138, 3) := chk_nth ocX11_street_1 (k := 8) rfl
theorem dX11_street_61 : decode cX11_street 61 = .ok (.iload_n 1, 1) := chk_nth ocX11_street_1 (k := 9) rfl
theorem dX11_street_62 : decode cX11_street 62 = .ok (.iaload, 1) := chk_nth ocX11_street_1 (k := 10) rfl
theorem dX11_street_63 : decode cX11_street 63 = .ok (.ireturn, 1) := chk_nth ocX11_street_1 (k := 11) rfl
theorem dX11_street_64 : decode cX11_street 64 = .ok (.aload_n 0, 1) := chk_nth ocX11_street_1 (k := 12) rfl
theorem dX11_street_65 : decode cX11_street 65 = .ok (.getfield 20, 3) := chk_nth ocX11_street_1 (k := 13) rfl
theorem dX11_street_68 : decode cX11_street 68 = .ok (.iload_n 1, 1) := chk_nth ocX11_street_1 (k := 14) rfl
theorem dX11_street_69 : decode cX11_street 69 = .ok (.invokevirtual 141, 3) := chk_nth ocX11_street_1 (k := 15) rfl
theorem dX11_street_72 : decode cX11_street 72 = .ok (.ireturn, 1) := chk_nth ocX11_street_1 (k := 16) rfl
theorem dX11_street_73 : decode cX11_street 73 = .ok (.bipush 50, 2) := chk_nth ocX11_street_1 (k := 17) rfl
theorem dX11_street_75 : decode cX11_street 75 = .ok (.aload_n 0, 1) := chk_nth ocX11_street_1 (k := 18) rfl
theorem dX11_street_76 : decode cX11_street 76 = .ok (.getfield 12, 3) := chk_nth ocX11_street_1 (k := 19) rfl
theorem dX11_street_79 : decode cX11_street 79 = .ok (.getfield 145, 3) := chk_nth ocX11_street_1 (k := 20) rfl
theorem dX11_street_82 : decode cX11_street 82 = .ok (.iload_n 1, 1) := chk_nth ocX11_street_1 (k := 21) rfl
theorem dX11_street_83 : decode cX11_street 83 = .ok (.iaload, 1) := chk_nth ocX11_street_1 (k := 22) rfl
theorem dX11_street_84 : decode cX11_street 84 = .ok (.iadd, 1) := chk_nth ocX11_street_1 (k := 23) rfl
def tcX11_street_2 : List (Instr × Nat) := [(.ireturn, 1), (.bipush (-2), 2), (.ireturn, 1)]
theorem ocX11_street_2 : chk (cX11_street.data.toList.drop 85) tcX11_street_2 = true := by decide +kernel
theorem dX11_street_85 : decode cX11_street 85 = .ok (.ireturn, 1) := chk_nth ocX11_street_2 (k := 0) rfl
theorem dX11_street_86 : decode cX11_street 86 = .ok (.bipush (-2), 2) := chk_nth ocX11_street_2 (k := 1) rfl
theorem dX11_street_88 : decode cX11_street 88 = .ok (.ireturn, 1) := chk_nth ocX11_street_2 (k := 2) rfl
def tcX11_goer_0 : List (Instr × Nat) := [(.aload_n 0, 1), (.getfield 12, 3), (.iload_n 1, 1), (.invokevirtual 148, 3), (.ifCond .ne 6, 3), (.bipush (-2), 2), (.ireturn, 1), (.iload_n 2, 1)]
theorem ocX11_goer_0 : chk (cX11_goer.data.toList.drop 0) tcX11_goer_0 = true := by decide +kernel
theorem dX11_goer_0 : decode cX11_goer 0 = .ok (.aload_n 0, 1) := chk_nth ocX11_goer_0 (k := 0) rfl
theorem dX11_goer_1 : decode cX11_goer 1 = .ok (.getfield 12, 3) := chk_nth ocX11_goer_0 (k := 1) rfl
theorem dX11_goer_4 : decode cX11_goer 4 = .ok (.iload_n 1, 1) := chk_nth ocX11_goer_0 (k := 2) rfl
theorem dX11_goer_5 : decode cX11_goer 5 = .ok (.invokevirtual 148, 3) := chk_nth ocX11_goer_0 (k := 3) rfl
theorem dX11_goer_8 : decode cX11_goer 8 = .ok (.ifCond .ne 6, 3) := chk_nth ocX11_goer_0 (k := 4) rfl
theorem dX11_goer_11 : decode cX11_goer 11 = .ok (.bipush (-2), 2) := chk_nth ocX11_goer_0 (k := 5) rfl
theorem dX11_goer_13 : decode cX11_goer 13 = .ok (.ireturn, 1) := chk_nth ocX11_goer_0 (k := 6) rfl
theorem dX11_goer_14 : decode cX11_goer 14 = .ok (.iload_n 2, 1) := chk_nth ocX11_goer_0 (k := 7) rfl
theorem dX11_goer_15 : decode cX11_goer 15 = .ok (.tableswitch 49 0 2 #[25, 34, 43], 25) := by decide +kernel
def tcX11_goer_1 : List (Instr × Nat) := [(.aload_n 0, 1), (.getfield 20, 3), (.iload_n 1, 1), (.invokevirtual 151, 3), (.ireturn, 1), (.aload_n 0, 1), (.getfield 20, 3), (.iload_n 1, 1), (.invokevirtual 154, 3), (.ireturn, 1), (.aload_n 0, 1), (.iload_n 1, 1), (.invokevirtual 157, 3), (.ireturn, 1), (.bipush (-2), 2), (.ireturn, 1)]
theorem ocX11_goer_1 : chk (cX11_goer.data.toList.drop 40) tcX11_goer_1 = true := by decide +kernel
theorem dX11_goer_40 : decode cX11_goer 40 = .ok (.aload_n 0, 1) := chk_nth ocX11_goer_1 (k := 0) rfl
theorem dX11_goer_41 : decode cX11_goer 41 = .ok (.getfield 20, 3) := chk_nth ocX11_goer_1 (k := 1) rfl
theorem dX11_goer_44 : decode cX11_goer 44 = .ok (.iload_n 1, 1) := chk_nth ocX11_goer_1 (k := 2) rfl
theorem dX11_goer_45 : decode cX11_goer 45 = .ok (.invokevirtual 151, 3) := chk_nth ocX11_goer_1 (k := 3) rfl
theorem dX11_goer_48 : decode cX11_goer 48 = .ok (.ireturn, 1) := chk_nth ocX11_goer_1 (k := 4) rfl
theorem dX11_goer_49 : decode cX11_goer 49 = .ok (.aload_n 0, 1) := chk_nth ocX11_goer_1 (k := 5) rfl
theorem dX11_goer_50 : decode cX11_goer 50 = .ok (.getfield 20, 3) := chk_nth ocX11_goer_1 (k := 6) rfl
theorem dX11_goer_53 : decode cX11_goer 53 = .ok (.iload_n 1, 1) := chk_nth ocX11_goer_1 (k := 7) rfl
theorem dX11_goer_54 : decode cX11_goer 54 = .ok (.invokevirtual 154, 3) := chk_nth ocX11_goer_1 (k := 8) rfl
theorem dX11_goer_57 : decode cX11_goer 57 = .ok (.ireturn, 1) := chk_nth ocX11_goer_1 (k := 9) rfl
theorem dX11_goer_58 : decode cX11_goer 58 = .ok (.aload_n 0, 1) := chk_nth ocX11_goer_1 (k := 10) rfl
theorem dX11_goer_59 : decode cX11_goer 59 = .ok (.iload_n 1, 1) := chk_nth ocX11_goer_1 (k := 11) rfl
theorem dX11_goer_60 : decode cX11_goer 60 = .ok (.invokevirtual 157, 3) := chk_nth ocX11_goer_1 (k := 12) rfl
theorem dX11_goer_63 : decode cX11_goer 63 = .ok (.ireturn, 1) := chk_nth ocX11_goer_1 (k := 13) rfl
theorem dX11_goer_64 : decode cX11_goer 64 = .ok (.bipush (-2), 2) := chk_nth ocX11_goer_1 (k := 14) rfl
theorem dX11_goer_66 : decode cX11_goer 66 = .ok (.ireturn, 1) := chk_nth ocX11_goer_1 (k := 15) rfl
def tcX11_streetsOpenTo_0 : List (Instr × Nat) := [(.iconst 0, 1), (.istore_n 2, 1), (.iconst 0, 1), (.istore_n 3, 1), (.iload_n 3, 1), (.aload_n 0, 1), (.getfield 12, 3), (.getfield 160, 3), (.if_icmp .ge 39, 3), (.aload_n 0, 1), (.getfield 44, 3), (.iload_n 1, 1), (.iload_n 3, 1), (.aload_n 0, 1), (.getfield 20, 3), (.iload_n 1, 1), (.invokevirtual 163, 3), (.aload_n 0, 1), (.getfield 20, 3), (.invokevirtual 166, 3), (.ifCond .lt 9, 3), (.iload_n 2, 1), (.iconst 1, 1), (.iload_n 3, 1)]
theorem ocX11_streetsOpenTo_0 : chk (cX11_streetsOpenTo.data.toList.drop 0) tcX11_streetsOpenTo_0 = true := by decide +kernel
theorem dX11_streetsOpenTo_0 : decode cX11_streetsOpenTo 0 = .ok (.iconst 0, 1) := chk_nth ocX11_streetsOpenTo_0 (k := 0) rfl
theorem dX11_streetsOpenTo_1 : decode cX11_streetsOpenTo 1 = .ok (.istore_n 2, 1) := chk_nth ocX11_streetsOpenTo_0 (k := 1) rfl
theorem dX11_streetsOpenTo_2 : decode cX11_streetsOpenTo 2 = .ok (.iconst 0, 1) := chk_nth ocX11_streetsOpenTo_0 (k := 2) rfl
theorem dX11_streetsOpenTo_3 : decode cX11_streetsOpenTo 3 = .ok (.istore_n 3, 1) := chk_nth ocX11_streetsOpenTo_0 (k := 3) rfl
theorem dX11_streetsOpenTo_4 : decode cX11_streetsOpenTo 4 = .ok (.iload_n 3, 1) := chk_nth ocX11_streetsOpenTo_0 (k := 4) rfl
theorem dX11_streetsOpenTo_5 : decode cX11_streetsOpenTo 5 = .ok (.aload_n 0, 1) := chk_nth ocX11_streetsOpenTo_0 (k := 5) rfl
theorem dX11_streetsOpenTo_6 : decode cX11_streetsOpenTo 6 = .ok (.getfield 12, 3) := chk_nth ocX11_streetsOpenTo_0 (k := 6) rfl
theorem dX11_streetsOpenTo_9 : decode cX11_streetsOpenTo 9 = .ok (.getfield 160, 3) := chk_nth ocX11_streetsOpenTo_0 (k := 7) rfl
theorem dX11_streetsOpenTo_12 : decode cX11_streetsOpenTo 12 = .ok (.if_icmp .ge 39, 3) := chk_nth ocX11_streetsOpenTo_0 (k := 8) rfl
theorem dX11_streetsOpenTo_15 : decode cX11_streetsOpenTo 15 = .ok (.aload_n 0, 1) := chk_nth ocX11_streetsOpenTo_0 (k := 9) rfl
theorem dX11_streetsOpenTo_16 : decode cX11_streetsOpenTo 16 = .ok (.getfield 44, 3) := chk_nth ocX11_streetsOpenTo_0 (k := 10) rfl
theorem dX11_streetsOpenTo_19 : decode cX11_streetsOpenTo 19 = .ok (.iload_n 1, 1) := chk_nth ocX11_streetsOpenTo_0 (k := 11) rfl
theorem dX11_streetsOpenTo_20 : decode cX11_streetsOpenTo 20 = .ok (.iload_n 3, 1) := chk_nth ocX11_streetsOpenTo_0 (k := 12) rfl
theorem dX11_streetsOpenTo_21 : decode cX11_streetsOpenTo 21 = .ok (.aload_n 0, 1) := chk_nth ocX11_streetsOpenTo_0 (k := 13) rfl
theorem dX11_streetsOpenTo_22 : decode cX11_streetsOpenTo 22 = .ok (.getfield 20, 3) := chk_nth ocX11_streetsOpenTo_0 (k := 14) rfl
theorem dX11_streetsOpenTo_25 : decode cX11_streetsOpenTo 25 = .ok (.iload_n 1, 1) := chk_nth ocX11_streetsOpenTo_0 (k := 15) rfl
theorem dX11_streetsOpenTo_26 : decode cX11_streetsOpenTo 26 = .ok (.invokevirtual 163, 3) := chk_nth ocX11_streetsOpenTo_0 (k := 16) rfl
theorem dX11_streetsOpenTo_29 : decode cX11_streetsOpenTo 29 = .ok (.aload_n 0, 1) := chk_nth ocX11_streetsOpenTo_0 (k := 17) rfl
theorem dX11_streetsOpenTo_30 : decode cX11_streetsOpenTo 30 = .ok (.getfield 20, 3) := chk_nth ocX11_streetsOpenTo_0 (k := 18) rfl
theorem dX11_streetsOpenTo_33 : decode cX11_streetsOpenTo 33 = .ok (.invokevirtual 166, 3) := chk_nth ocX11_streetsOpenTo_0 (k := 19) rfl
theorem dX11_streetsOpenTo_36 : decode cX11_streetsOpenTo 36 = .ok (.ifCond .lt 9, 3) := chk_nth ocX11_streetsOpenTo_0 (k := 20) rfl
theorem dX11_streetsOpenTo_39 : decode cX11_streetsOpenTo 39 = .ok (.iload_n 2, 1) := chk_nth ocX11_streetsOpenTo_0 (k := 21) rfl
theorem dX11_streetsOpenTo_40 : decode cX11_streetsOpenTo 40 = .ok (.iconst 1, 1) := chk_nth ocX11_streetsOpenTo_0 (k := 22) rfl
theorem dX11_streetsOpenTo_41 : decode cX11_streetsOpenTo 41 = .ok (.iload_n 3, 1) := chk_nth ocX11_streetsOpenTo_0 (k := 23) rfl
def tcX11_streetsOpenTo_1 : List (Instr × Nat) := [(.ishl, 1), (.ior, 1), (.istore_n 2, 1), (.iinc 3 1, 3), (.goto (-44), 3), (.iload_n 2, 1), (.ireturn, 1)]
theorem ocX11_streetsOpenTo_1 : chk (cX11_streetsOpenTo.data.toList.drop 42) tcX11_streetsOpenTo_1 = true := by decide +kernel
theorem dX11_streetsOpenTo_42 : decode cX11_streetsOpenTo 42 = .ok (.ishl, 1) := chk_nth ocX11_streetsOpenTo_1 (k := 0) rfl
theorem dX11_streetsOpenTo_43 : decode cX11_streetsOpenTo 43 = .ok (.ior, 1) := chk_nth ocX11_streetsOpenTo_1 (k := 1) rfl
theorem dX11_streetsOpenTo_44 : decode cX11_streetsOpenTo 44 = .ok (.istore_n 2, 1) := chk_nth ocX11_streetsOpenTo_1 (k := 2) rfl
theorem dX11_streetsOpenTo_45 : decode cX11_streetsOpenTo 45 = .ok (.iinc 3 1, 3) := chk_nth ocX11_streetsOpenTo_1 (k := 3) rfl
theorem dX11_streetsOpenTo_48 : decode cX11_streetsOpenTo 48 = .ok (.goto (-44), 3) := chk_nth ocX11_streetsOpenTo_1 (k := 4) rfl
theorem dX11_streetsOpenTo_51 : decode cX11_streetsOpenTo 51 = .ok (.iload_n 2, 1) := chk_nth ocX11_streetsOpenTo_1 (k := 5) rfl
theorem dX11_streetsOpenTo_52 : decode cX11_streetsOpenTo 52 = .ok (.ireturn, 1) := chk_nth ocX11_streetsOpenTo_1 (k := 6) rfl
def tcX11_why_0 : List (Instr × Nat) := [(.aload_n 0, 1), (.getfield 44, 3), (.iload_n 1, 1), (.iload_n 2, 1), (.aload_n 0, 1), (.getfield 20, 3), (.iload_n 1, 1), (.invokevirtual 163, 3), (.aload_n 0, 1), (.getfield 20, 3), (.invokevirtual 166, 3), (.istore_n 3, 1), (.iload_n 3, 1), (.ifCond .ge 8, 3), (.iload_n 3, 1), (.ineg, 1), (.goto 4, 3), (.iconst 0, 1), (.ireturn, 1)]
theorem ocX11_why_0 : chk (cX11_why.data.toList.drop 0) tcX11_why_0 = true := by decide +kernel
theorem dX11_why_0 : decode cX11_why 0 = .ok (.aload_n 0, 1) := chk_nth ocX11_why_0 (k := 0) rfl
theorem dX11_why_1 : decode cX11_why 1 = .ok (.getfield 44, 3) := chk_nth ocX11_why_0 (k := 1) rfl
theorem dX11_why_4 : decode cX11_why 4 = .ok (.iload_n 1, 1) := chk_nth ocX11_why_0 (k := 2) rfl
theorem dX11_why_5 : decode cX11_why 5 = .ok (.iload_n 2, 1) := chk_nth ocX11_why_0 (k := 3) rfl
theorem dX11_why_6 : decode cX11_why 6 = .ok (.aload_n 0, 1) := chk_nth ocX11_why_0 (k := 4) rfl
theorem dX11_why_7 : decode cX11_why 7 = .ok (.getfield 20, 3) := chk_nth ocX11_why_0 (k := 5) rfl
theorem dX11_why_10 : decode cX11_why 10 = .ok (.iload_n 1, 1) := chk_nth ocX11_why_0 (k := 6) rfl
theorem dX11_why_11 : decode cX11_why 11 = .ok (.invokevirtual 163, 3) := chk_nth ocX11_why_0 (k := 7) rfl
theorem dX11_why_14 : decode cX11_why 14 = .ok (.aload_n 0, 1) := chk_nth ocX11_why_0 (k := 8) rfl
theorem dX11_why_15 : decode cX11_why 15 = .ok (.getfield 20, 3) := chk_nth ocX11_why_0 (k := 9) rfl
theorem dX11_why_18 : decode cX11_why 18 = .ok (.invokevirtual 166, 3) := chk_nth ocX11_why_0 (k := 10) rfl
theorem dX11_why_21 : decode cX11_why 21 = .ok (.istore_n 3, 1) := chk_nth ocX11_why_0 (k := 11) rfl
theorem dX11_why_22 : decode cX11_why 22 = .ok (.iload_n 3, 1) := chk_nth ocX11_why_0 (k := 12) rfl
theorem dX11_why_23 : decode cX11_why 23 = .ok (.ifCond .ge 8, 3) := chk_nth ocX11_why_0 (k := 13) rfl
theorem dX11_why_26 : decode cX11_why 26 = .ok (.iload_n 3, 1) := chk_nth ocX11_why_0 (k := 14) rfl
theorem dX11_why_27 : decode cX11_why 27 = .ok (.ineg, 1) := chk_nth ocX11_why_0 (k := 15) rfl
theorem dX11_why_28 : decode cX11_why 28 = .ok (.goto 4, 3) := chk_nth ocX11_why_0 (k := 16) rfl
theorem dX11_why_31 : decode cX11_why 31 = .ok (.iconst 0, 1) := chk_nth ocX11_why_0 (k := 17) rfl
theorem dX11_why_32 : decode cX11_why 32 = .ok (.ireturn, 1) := chk_nth ocX11_why_0 (k := 18) rfl
def tcX11_by_0 : List (Instr × Nat) := [(.iload_n 3, 1), (.ifCond .lt 8, 3), (.iload_n 3, 1), (.iconst 1, 1), (.if_icmp .le 6, 3), (.bipush (-2), 2), (.ireturn, 1), (.aload_n 0, 1), (.getfield 44, 3), (.iload_n 1, 1), (.iload_n 2, 1), (.aload_n 0, 1), (.getfield 20, 3), (.iload_n 1, 1), (.invokevirtual 163, 3), (.aload_n 0, 1), (.getfield 20, 3), (.invokevirtual 166, 3), (.istore 4, 2), (.iload 4, 2), (.ifCond .ge 6, 3), (.bipush (-5), 2), (.ireturn, 1), (.iload_n 3, 1)]
theorem ocX11_by_0 : chk (cX11_by.data.toList.drop 0) tcX11_by_0 = true := by decide +kernel
theorem dX11_by_0 : decode cX11_by 0 = .ok (.iload_n 3, 1) := chk_nth ocX11_by_0 (k := 0) rfl
theorem dX11_by_1 : decode cX11_by 1 = .ok (.ifCond .lt 8, 3) := chk_nth ocX11_by_0 (k := 1) rfl
theorem dX11_by_4 : decode cX11_by 4 = .ok (.iload_n 3, 1) := chk_nth ocX11_by_0 (k := 2) rfl
theorem dX11_by_5 : decode cX11_by 5 = .ok (.iconst 1, 1) := chk_nth ocX11_by_0 (k := 3) rfl
theorem dX11_by_6 : decode cX11_by 6 = .ok (.if_icmp .le 6, 3) := chk_nth ocX11_by_0 (k := 4) rfl
theorem dX11_by_9 : decode cX11_by 9 = .ok (.bipush (-2), 2) := chk_nth ocX11_by_0 (k := 5) rfl
theorem dX11_by_11 : decode cX11_by 11 = .ok (.ireturn, 1) := chk_nth ocX11_by_0 (k := 6) rfl
theorem dX11_by_12 : decode cX11_by 12 = .ok (.aload_n 0, 1) := chk_nth ocX11_by_0 (k := 7) rfl
theorem dX11_by_13 : decode cX11_by 13 = .ok (.getfield 44, 3) := chk_nth ocX11_by_0 (k := 8) rfl
theorem dX11_by_16 : decode cX11_by 16 = .ok (.iload_n 1, 1) := chk_nth ocX11_by_0 (k := 9) rfl
theorem dX11_by_17 : decode cX11_by 17 = .ok (.iload_n 2, 1) := chk_nth ocX11_by_0 (k := 10) rfl
theorem dX11_by_18 : decode cX11_by 18 = .ok (.aload_n 0, 1) := chk_nth ocX11_by_0 (k := 11) rfl
theorem dX11_by_19 : decode cX11_by 19 = .ok (.getfield 20, 3) := chk_nth ocX11_by_0 (k := 12) rfl
theorem dX11_by_22 : decode cX11_by 22 = .ok (.iload_n 1, 1) := chk_nth ocX11_by_0 (k := 13) rfl
theorem dX11_by_23 : decode cX11_by 23 = .ok (.invokevirtual 163, 3) := chk_nth ocX11_by_0 (k := 14) rfl
theorem dX11_by_26 : decode cX11_by 26 = .ok (.aload_n 0, 1) := chk_nth ocX11_by_0 (k := 15) rfl
theorem dX11_by_27 : decode cX11_by 27 = .ok (.getfield 20, 3) := chk_nth ocX11_by_0 (k := 16) rfl
theorem dX11_by_30 : decode cX11_by 30 = .ok (.invokevirtual 166, 3) := chk_nth ocX11_by_0 (k := 17) rfl
theorem dX11_by_33 : decode cX11_by 33 = .ok (.istore 4, 2) := chk_nth ocX11_by_0 (k := 18) rfl
theorem dX11_by_35 : decode cX11_by 35 = .ok (.iload 4, 2) := chk_nth ocX11_by_0 (k := 19) rfl
theorem dX11_by_37 : decode cX11_by 37 = .ok (.ifCond .ge 6, 3) := chk_nth ocX11_by_0 (k := 20) rfl
theorem dX11_by_40 : decode cX11_by 40 = .ok (.bipush (-5), 2) := chk_nth ocX11_by_0 (k := 21) rfl
theorem dX11_by_42 : decode cX11_by 42 = .ok (.ireturn, 1) := chk_nth ocX11_by_0 (k := 22) rfl
theorem dX11_by_43 : decode cX11_by 43 = .ok (.iload_n 3, 1) := chk_nth ocX11_by_0 (k := 23) rfl
def tcX11_by_1 : List (Instr × Nat) := [(.ifCond .ne 11, 3), (.iload 4, 2), (.bipush 20, 2), (.idiv, 1), (.goto 8, 3), (.iload 4, 2), (.bipush 20, 2), (.irem, 1), (.ireturn, 1)]
theorem ocX11_by_1 : chk (cX11_by.data.toList.drop 44) tcX11_by_1 = true := by decide +kernel
theorem dX11_by_44 : decode cX11_by 44 = .ok (.ifCond .ne 11, 3) := chk_nth ocX11_by_1 (k := 0) rfl
theorem dX11_by_47 : decode cX11_by 47 = .ok (.iload 4, 2) := chk_nth ocX11_by_1 (k := 1) rfl
theorem dX11_by_49 : decode cX11_by 49 = .ok (.bipush 20, 2) := chk_nth ocX11_by_1 (k := 2) rfl
theorem dX11_by_51 : decode cX11_by 51 = .ok (.idiv, 1) := chk_nth ocX11_by_1 (k := 3) rfl
theorem dX11_by_52 : decode cX11_by 52 = .ok (.goto 8, 3) := chk_nth ocX11_by_1 (k := 4) rfl
theorem dX11_by_55 : decode cX11_by 55 = .ok (.iload 4, 2) := chk_nth ocX11_by_1 (k := 5) rfl
theorem dX11_by_57 : decode cX11_by 57 = .ok (.bipush 20, 2) := chk_nth ocX11_by_1 (k := 6) rfl
theorem dX11_by_59 : decode cX11_by 59 = .ok (.irem, 1) := chk_nth ocX11_by_1 (k := 7) rfl
theorem dX11_by_60 : decode cX11_by 60 = .ok (.ireturn, 1) := chk_nth ocX11_by_1 (k := 8) rfl
def tcX11_go_0 : List (Instr × Nat) := [(.aload_n 0, 1), (.getfield 26, 3), (.aload_n 0, 1), (.getfield 20, 3), (.invokevirtual 170, 3), (.aload_n 0, 1), (.getfield 53, 3), (.iload_n 1, 1), (.iload_n 2, 1), (.aload_n 0, 1), (.getfield 20, 3), (.invokevirtual 174, 3), (.istore_n 3, 1), (.iload_n 3, 1), (.ifCond .ne 18, 3), (.aload_n 0, 1), (.aload_n 0, 1), (.getfield 20, 3), (.iload_n 1, 1), (.invokevirtual 154, 3), (.invokevirtual 178, 3), (.goto 7, 3), (.bipush (-10), 2), (.iload_n 3, 1)]
theorem ocX11_go_0 : chk (cX11_go.data.toList.drop 0) tcX11_go_0 = true := by decide +kernel
theorem dX11_go_0 : decode cX11_go 0 = .ok (.aload_n 0, 1) := chk_nth ocX11_go_0 (k := 0) rfl
theorem dX11_go_1 : decode cX11_go 1 = .ok (.getfield 26, 3) := chk_nth ocX11_go_0 (k := 1) rfl
theorem dX11_go_4 : decode cX11_go 4 = .ok (.aload_n 0, 1) := chk_nth ocX11_go_0 (k := 2) rfl
theorem dX11_go_5 : decode cX11_go 5 = .ok (.getfield 20, 3) := chk_nth ocX11_go_0 (k := 3) rfl
theorem dX11_go_8 : decode cX11_go 8 = .ok (.invokevirtual 170, 3) := chk_nth ocX11_go_0 (k := 4) rfl
theorem dX11_go_11 : decode cX11_go 11 = .ok (.aload_n 0, 1) := chk_nth ocX11_go_0 (k := 5) rfl
theorem dX11_go_12 : decode cX11_go 12 = .ok (.getfield 53, 3) := chk_nth ocX11_go_0 (k := 6) rfl
theorem dX11_go_15 : decode cX11_go 15 = .ok (.iload_n 1, 1) := chk_nth ocX11_go_0 (k := 7) rfl
theorem dX11_go_16 : decode cX11_go 16 = .ok (.iload_n 2, 1) := chk_nth ocX11_go_0 (k := 8) rfl
theorem dX11_go_17 : decode cX11_go 17 = .ok (.aload_n 0, 1) := chk_nth ocX11_go_0 (k := 9) rfl
theorem dX11_go_18 : decode cX11_go 18 = .ok (.getfield 20, 3) := chk_nth ocX11_go_0 (k := 10) rfl
theorem dX11_go_21 : decode cX11_go 21 = .ok (.invokevirtual 174, 3) := chk_nth ocX11_go_0 (k := 11) rfl
theorem dX11_go_24 : decode cX11_go 24 = .ok (.istore_n 3, 1) := chk_nth ocX11_go_0 (k := 12) rfl
theorem dX11_go_25 : decode cX11_go 25 = .ok (.iload_n 3, 1) := chk_nth ocX11_go_0 (k := 13) rfl
theorem dX11_go_26 : decode cX11_go 26 = .ok (.ifCond .ne 18, 3) := chk_nth ocX11_go_0 (k := 14) rfl
theorem dX11_go_29 : decode cX11_go 29 = .ok (.aload_n 0, 1) := chk_nth ocX11_go_0 (k := 15) rfl
theorem dX11_go_30 : decode cX11_go 30 = .ok (.aload_n 0, 1) := chk_nth ocX11_go_0 (k := 16) rfl
theorem dX11_go_31 : decode cX11_go 31 = .ok (.getfield 20, 3) := chk_nth ocX11_go_0 (k := 17) rfl
theorem dX11_go_34 : decode cX11_go 34 = .ok (.iload_n 1, 1) := chk_nth ocX11_go_0 (k := 18) rfl
theorem dX11_go_35 : decode cX11_go 35 = .ok (.invokevirtual 154, 3) := chk_nth ocX11_go_0 (k := 19) rfl
theorem dX11_go_38 : decode cX11_go 38 = .ok (.invokevirtual 178, 3) := chk_nth ocX11_go_0 (k := 20) rfl
theorem dX11_go_41 : decode cX11_go 41 = .ok (.goto 7, 3) := chk_nth ocX11_go_0 (k := 21) rfl
theorem dX11_go_44 : decode cX11_go 44 = .ok (.bipush (-10), 2) := chk_nth ocX11_go_0 (k := 22) rfl
theorem dX11_go_46 : decode cX11_go 46 = .ok (.iload_n 3, 1) := chk_nth ocX11_go_0 (k := 23) rfl
def tcX11_go_1 : List (Instr × Nat) := [(.isub, 1), (.ireturn, 1)]
theorem ocX11_go_1 : chk (cX11_go.data.toList.drop 47) tcX11_go_1 = true := by decide +kernel
theorem dX11_go_47 : decode cX11_go 47 = .ok (.isub, 1) := chk_nth ocX11_go_1 (k := 0) rfl
theorem dX11_go_48 : decode cX11_go 48 = .ok (.ireturn, 1) := chk_nth ocX11_go_1 (k := 1) rfl
def tcX11_sign_0 : List (Instr × Nat) := [(.aload_n 0, 1), (.getfield 26, 3), (.aload_n 0, 1), (.getfield 20, 3), (.invokevirtual 170, 3), (.aload_n 0, 1), (.getfield 53, 3), (.iload_n 1, 1), (.iload_n 2, 1), (.aload_n 0, 1), (.getfield 20, 3), (.invokevirtual 181, 3), (.istore_n 3, 1), (.iload_n 3, 1), (.ifCond .ne 18, 3), (.aload_n 0, 1), (.aload_n 0, 1), (.getfield 26, 3), (.iload_n 1, 1), (.invokevirtual 141, 3), (.invokevirtual 178, 3), (.goto 7, 3), (.bipush (-10), 2), (.iload_n 3, 1)]
theorem ocX11_sign_0 : chk (cX11_sign.data.toList.drop 0) tcX11_sign_0 = true := by decide +kernel
theorem dX11_sign_0 : decode cX11_sign 0 = .ok (.aload_n 0, 1) := chk_nth ocX11_sign_0 (k := 0) rfl
theorem dX11_sign_1 : decode cX11_sign 1 = .ok (.getfield 26, 3) := chk_nth ocX11_sign_0 (k := 1) rfl
theorem dX11_sign_4 : decode cX11_sign 4 = .ok (.aload_n 0, 1) := chk_nth ocX11_sign_0 (k := 2) rfl
theorem dX11_sign_5 : decode cX11_sign 5 = .ok (.getfield 20, 3) := chk_nth ocX11_sign_0 (k := 3) rfl
theorem dX11_sign_8 : decode cX11_sign 8 = .ok (.invokevirtual 170, 3) := chk_nth ocX11_sign_0 (k := 4) rfl
theorem dX11_sign_11 : decode cX11_sign 11 = .ok (.aload_n 0, 1) := chk_nth ocX11_sign_0 (k := 5) rfl
theorem dX11_sign_12 : decode cX11_sign 12 = .ok (.getfield 53, 3) := chk_nth ocX11_sign_0 (k := 6) rfl
theorem dX11_sign_15 : decode cX11_sign 15 = .ok (.iload_n 1, 1) := chk_nth ocX11_sign_0 (k := 7) rfl
theorem dX11_sign_16 : decode cX11_sign 16 = .ok (.iload_n 2, 1) := chk_nth ocX11_sign_0 (k := 8) rfl
theorem dX11_sign_17 : decode cX11_sign 17 = .ok (.aload_n 0, 1) := chk_nth ocX11_sign_0 (k := 9) rfl
theorem dX11_sign_18 : decode cX11_sign 18 = .ok (.getfield 20, 3) := chk_nth ocX11_sign_0 (k := 10) rfl
theorem dX11_sign_21 : decode cX11_sign 21 = .ok (.invokevirtual 181, 3) := chk_nth ocX11_sign_0 (k := 11) rfl
theorem dX11_sign_24 : decode cX11_sign 24 = .ok (.istore_n 3, 1) := chk_nth ocX11_sign_0 (k := 12) rfl
theorem dX11_sign_25 : decode cX11_sign 25 = .ok (.iload_n 3, 1) := chk_nth ocX11_sign_0 (k := 13) rfl
theorem dX11_sign_26 : decode cX11_sign 26 = .ok (.ifCond .ne 18, 3) := chk_nth ocX11_sign_0 (k := 14) rfl
theorem dX11_sign_29 : decode cX11_sign 29 = .ok (.aload_n 0, 1) := chk_nth ocX11_sign_0 (k := 15) rfl
theorem dX11_sign_30 : decode cX11_sign 30 = .ok (.aload_n 0, 1) := chk_nth ocX11_sign_0 (k := 16) rfl
theorem dX11_sign_31 : decode cX11_sign 31 = .ok (.getfield 26, 3) := chk_nth ocX11_sign_0 (k := 17) rfl
theorem dX11_sign_34 : decode cX11_sign 34 = .ok (.iload_n 1, 1) := chk_nth ocX11_sign_0 (k := 18) rfl
theorem dX11_sign_35 : decode cX11_sign 35 = .ok (.invokevirtual 141, 3) := chk_nth ocX11_sign_0 (k := 19) rfl
theorem dX11_sign_38 : decode cX11_sign 38 = .ok (.invokevirtual 178, 3) := chk_nth ocX11_sign_0 (k := 20) rfl
theorem dX11_sign_41 : decode cX11_sign 41 = .ok (.goto 7, 3) := chk_nth ocX11_sign_0 (k := 21) rfl
theorem dX11_sign_44 : decode cX11_sign 44 = .ok (.bipush (-10), 2) := chk_nth ocX11_sign_0 (k := 22) rfl
theorem dX11_sign_46 : decode cX11_sign 46 = .ok (.iload_n 3, 1) := chk_nth ocX11_sign_0 (k := 23) rfl
def tcX11_sign_1 : List (Instr × Nat) := [(.isub, 1), (.ireturn, 1)]
theorem ocX11_sign_1 : chk (cX11_sign.data.toList.drop 47) tcX11_sign_1 = true := by decide +kernel
theorem dX11_sign_47 : decode cX11_sign 47 = .ok (.isub, 1) := chk_nth ocX11_sign_1 (k := 0) rfl
theorem dX11_sign_48 : decode cX11_sign 48 = .ok (.ireturn, 1) := chk_nth ocX11_sign_1 (k := 1) rfl
def tcX11_bollards_0 : List (Instr × Nat) := [(.aload_n 0, 1), (.getfield 26, 3), (.aload_n 0, 1), (.getfield 20, 3), (.invokevirtual 170, 3), (.aload_n 0, 1), (.getfield 53, 3), (.iload_n 1, 1), (.aload_n 0, 1), (.getfield 20, 3), (.invokevirtual 184, 3), (.istore_n 2, 1), (.iload_n 2, 1), (.ifCond .ne 17, 3), (.aload_n 0, 1), (.aload_n 0, 1), (.getfield 26, 3), (.getfield 188, 3), (.invokevirtual 178, 3), (.goto 7, 3), (.bipush (-10), 2), (.iload_n 2, 1), (.isub, 1), (.ireturn, 1)]
theorem ocX11_bollards_0 : chk (cX11_bollards.data.toList.drop 0) tcX11_bollards_0 = true := by decide +kernel
theorem dX11_bollards_0 : decode cX11_bollards 0 = .ok (.aload_n 0, 1) := chk_nth ocX11_bollards_0 (k := 0) rfl
theorem dX11_bollards_1 : decode cX11_bollards 1 = .ok (.getfield 26, 3) := chk_nth ocX11_bollards_0 (k := 1) rfl
theorem dX11_bollards_4 : decode cX11_bollards 4 = .ok (.aload_n 0, 1) := chk_nth ocX11_bollards_0 (k := 2) rfl
theorem dX11_bollards_5 : decode cX11_bollards 5 = .ok (.getfield 20, 3) := chk_nth ocX11_bollards_0 (k := 3) rfl
theorem dX11_bollards_8 : decode cX11_bollards 8 = .ok (.invokevirtual 170, 3) := chk_nth ocX11_bollards_0 (k := 4) rfl
theorem dX11_bollards_11 : decode cX11_bollards 11 = .ok (.aload_n 0, 1) := chk_nth ocX11_bollards_0 (k := 5) rfl
theorem dX11_bollards_12 : decode cX11_bollards 12 = .ok (.getfield 53, 3) := chk_nth ocX11_bollards_0 (k := 6) rfl
theorem dX11_bollards_15 : decode cX11_bollards 15 = .ok (.iload_n 1, 1) := chk_nth ocX11_bollards_0 (k := 7) rfl
theorem dX11_bollards_16 : decode cX11_bollards 16 = .ok (.aload_n 0, 1) := chk_nth ocX11_bollards_0 (k := 8) rfl
theorem dX11_bollards_17 : decode cX11_bollards 17 = .ok (.getfield 20, 3) := chk_nth ocX11_bollards_0 (k := 9) rfl
theorem dX11_bollards_20 : decode cX11_bollards 20 = .ok (.invokevirtual 184, 3) := chk_nth ocX11_bollards_0 (k := 10) rfl
theorem dX11_bollards_23 : decode cX11_bollards 23 = .ok (.istore_n 2, 1) := chk_nth ocX11_bollards_0 (k := 11) rfl
theorem dX11_bollards_24 : decode cX11_bollards 24 = .ok (.iload_n 2, 1) := chk_nth ocX11_bollards_0 (k := 12) rfl
theorem dX11_bollards_25 : decode cX11_bollards 25 = .ok (.ifCond .ne 17, 3) := chk_nth ocX11_bollards_0 (k := 13) rfl
theorem dX11_bollards_28 : decode cX11_bollards 28 = .ok (.aload_n 0, 1) := chk_nth ocX11_bollards_0 (k := 14) rfl
theorem dX11_bollards_29 : decode cX11_bollards 29 = .ok (.aload_n 0, 1) := chk_nth ocX11_bollards_0 (k := 15) rfl
theorem dX11_bollards_30 : decode cX11_bollards 30 = .ok (.getfield 26, 3) := chk_nth ocX11_bollards_0 (k := 16) rfl
theorem dX11_bollards_33 : decode cX11_bollards 33 = .ok (.getfield 188, 3) := chk_nth ocX11_bollards_0 (k := 17) rfl
theorem dX11_bollards_36 : decode cX11_bollards 36 = .ok (.invokevirtual 178, 3) := chk_nth ocX11_bollards_0 (k := 18) rfl
theorem dX11_bollards_39 : decode cX11_bollards 39 = .ok (.goto 7, 3) := chk_nth ocX11_bollards_0 (k := 19) rfl
theorem dX11_bollards_42 : decode cX11_bollards 42 = .ok (.bipush (-10), 2) := chk_nth ocX11_bollards_0 (k := 20) rfl
theorem dX11_bollards_44 : decode cX11_bollards 44 = .ok (.iload_n 2, 1) := chk_nth ocX11_bollards_0 (k := 21) rfl
theorem dX11_bollards_45 : decode cX11_bollards 45 = .ok (.isub, 1) := chk_nth ocX11_bollards_0 (k := 22) rfl
theorem dX11_bollards_46 : decode cX11_bollards 46 = .ok (.ireturn, 1) := chk_nth ocX11_bollards_0 (k := 23) rfl
def tcX11_put_0 : List (Instr × Nat) := [(.aload_n 0, 1), (.getfield 26, 3), (.aload_n 0, 1), (.getfield 20, 3), (.invokevirtual 170, 3), (.aload_n 0, 1), (.getfield 53, 3), (.iload_n 1, 1), (.iload_n 2, 1), (.iload_n 3, 1), (.aload_n 0, 1), (.getfield 20, 3), (.invokevirtual 191, 3), (.istore 4, 2), (.iload 4, 2), (.ifCond .ne 30, 3), (.aload_n 0, 1), (.aload_n 0, 1), (.getfield 26, 3), (.iload_n 1, 1), (.invokevirtual 151, 3), (.bipush 100, 2), (.imul, 1), (.aload_n 0, 1)]
theorem ocX11_put_0 : chk (cX11_put.data.toList.drop 0) tcX11_put_0 = true := by decide +kernel
theorem dX11_put_0 : decode cX11_put 0 = .ok (.aload_n 0, 1) := chk_nth ocX11_put_0 (k := 0) rfl
theorem dX11_put_1 : decode cX11_put 1 = .ok (.getfield 26, 3) := chk_nth ocX11_put_0 (k := 1) rfl
theorem dX11_put_4 : decode cX11_put 4 = .ok (.aload_n 0, 1) := chk_nth ocX11_put_0 (k := 2) rfl
theorem dX11_put_5 : decode cX11_put 5 = .ok (.getfield 20, 3) := chk_nth ocX11_put_0 (k := 3) rfl
theorem dX11_put_8 : decode cX11_put 8 = .ok (.invokevirtual 170, 3) := chk_nth ocX11_put_0 (k := 4) rfl
theorem dX11_put_11 : decode cX11_put 11 = .ok (.aload_n 0, 1) := chk_nth ocX11_put_0 (k := 5) rfl
theorem dX11_put_12 : decode cX11_put 12 = .ok (.getfield 53, 3) := chk_nth ocX11_put_0 (k := 6) rfl
theorem dX11_put_15 : decode cX11_put 15 = .ok (.iload_n 1, 1) := chk_nth ocX11_put_0 (k := 7) rfl
theorem dX11_put_16 : decode cX11_put 16 = .ok (.iload_n 2, 1) := chk_nth ocX11_put_0 (k := 8) rfl
theorem dX11_put_17 : decode cX11_put 17 = .ok (.iload_n 3, 1) := chk_nth ocX11_put_0 (k := 9) rfl
theorem dX11_put_18 : decode cX11_put 18 = .ok (.aload_n 0, 1) := chk_nth ocX11_put_0 (k := 10) rfl
theorem dX11_put_19 : decode cX11_put 19 = .ok (.getfield 20, 3) := chk_nth ocX11_put_0 (k := 11) rfl
theorem dX11_put_22 : decode cX11_put 22 = .ok (.invokevirtual 191, 3) := chk_nth ocX11_put_0 (k := 12) rfl
theorem dX11_put_25 : decode cX11_put 25 = .ok (.istore 4, 2) := chk_nth ocX11_put_0 (k := 13) rfl
theorem dX11_put_27 : decode cX11_put 27 = .ok (.iload 4, 2) := chk_nth ocX11_put_0 (k := 14) rfl
theorem dX11_put_29 : decode cX11_put 29 = .ok (.ifCond .ne 30, 3) := chk_nth ocX11_put_0 (k := 15) rfl
theorem dX11_put_32 : decode cX11_put 32 = .ok (.aload_n 0, 1) := chk_nth ocX11_put_0 (k := 16) rfl
theorem dX11_put_33 : decode cX11_put 33 = .ok (.aload_n 0, 1) := chk_nth ocX11_put_0 (k := 17) rfl
theorem dX11_put_34 : decode cX11_put 34 = .ok (.getfield 26, 3) := chk_nth ocX11_put_0 (k := 18) rfl
theorem dX11_put_37 : decode cX11_put 37 = .ok (.iload_n 1, 1) := chk_nth ocX11_put_0 (k := 19) rfl
theorem dX11_put_38 : decode cX11_put 38 = .ok (.invokevirtual 151, 3) := chk_nth ocX11_put_0 (k := 20) rfl
theorem dX11_put_41 : decode cX11_put 41 = .ok (.bipush 100, 2) := chk_nth ocX11_put_0 (k := 21) rfl
theorem dX11_put_43 : decode cX11_put 43 = .ok (.imul, 1) := chk_nth ocX11_put_0 (k := 22) rfl
theorem dX11_put_44 : decode cX11_put 44 = .ok (.aload_n 0, 1) := chk_nth ocX11_put_0 (k := 23) rfl
def tcX11_put_1 : List (Instr × Nat) := [(.getfield 26, 3), (.iload_n 1, 1), (.invokevirtual 154, 3), (.iadd, 1), (.invokevirtual 178, 3), (.goto 8, 3), (.bipush (-10), 2), (.iload 4, 2), (.isub, 1), (.ireturn, 1)]
theorem ocX11_put_1 : chk (cX11_put.data.toList.drop 45) tcX11_put_1 = true := by decide +kernel
theorem dX11_put_45 : decode cX11_put 45 = .ok (.getfield 26, 3) := chk_nth ocX11_put_1 (k := 0) rfl
theorem dX11_put_48 : decode cX11_put 48 = .ok (.iload_n 1, 1) := chk_nth ocX11_put_1 (k := 1) rfl
theorem dX11_put_49 : decode cX11_put 49 = .ok (.invokevirtual 154, 3) := chk_nth ocX11_put_1 (k := 2) rfl
theorem dX11_put_52 : decode cX11_put 52 = .ok (.iadd, 1) := chk_nth ocX11_put_1 (k := 3) rfl
theorem dX11_put_53 : decode cX11_put 53 = .ok (.invokevirtual 178, 3) := chk_nth ocX11_put_1 (k := 4) rfl
theorem dX11_put_56 : decode cX11_put 56 = .ok (.goto 8, 3) := chk_nth ocX11_put_1 (k := 5) rfl
theorem dX11_put_59 : decode cX11_put 59 = .ok (.bipush (-10), 2) := chk_nth ocX11_put_1 (k := 6) rfl
theorem dX11_put_61 : decode cX11_put 61 = .ok (.iload 4, 2) := chk_nth ocX11_put_1 (k := 7) rfl
theorem dX11_put_63 : decode cX11_put 63 = .ok (.isub, 1) := chk_nth ocX11_put_1 (k := 8) rfl
theorem dX11_put_64 : decode cX11_put 64 = .ok (.ireturn, 1) := chk_nth ocX11_put_1 (k := 9) rfl
def tcX11_kept_0 : List (Instr × Nat) := [(.aload_n 0, 1), (.getfield 86, 3), (.aload_n 0, 1), (.getfield 26, 3), (.invokevirtual 194, 3), (.iload_n 1, 1), (.ireturn, 1)]
theorem ocX11_kept_0 : chk (cX11_kept.data.toList.drop 0) tcX11_kept_0 = true := by decide +kernel
theorem dX11_kept_0 : decode cX11_kept 0 = .ok (.aload_n 0, 1) := chk_nth ocX11_kept_0 (k := 0) rfl
theorem dX11_kept_1 : decode cX11_kept 1 = .ok (.getfield 86, 3) := chk_nth ocX11_kept_0 (k := 1) rfl
theorem dX11_kept_4 : decode cX11_kept 4 = .ok (.aload_n 0, 1) := chk_nth ocX11_kept_0 (k := 2) rfl
theorem dX11_kept_5 : decode cX11_kept 5 = .ok (.getfield 26, 3) := chk_nth ocX11_kept_0 (k := 3) rfl
theorem dX11_kept_8 : decode cX11_kept 8 = .ok (.invokevirtual 194, 3) := chk_nth ocX11_kept_0 (k := 4) rfl
theorem dX11_kept_11 : decode cX11_kept 11 = .ok (.iload_n 1, 1) := chk_nth ocX11_kept_0 (k := 5) rfl
theorem dX11_kept_12 : decode cX11_kept 12 = .ok (.ireturn, 1) := chk_nth ocX11_kept_0 (k := 6) rfl
def tcX11_undo_0 : List (Instr × Nat) := [(.iload_n 1, 1), (.iconst 1, 1), (.if_icmp .lt 14, 3), (.iload_n 1, 1), (.aload_n 0, 1), (.getfield 86, 3), (.getfield 197, 3), (.if_icmp .le 6, 3), (.bipush (-3), 2), (.ireturn, 1), (.aload_n 0, 1), (.getfield 86, 3), (.iload_n 1, 1), (.aload_n 0, 1), (.getfield 20, 3), (.invokevirtual 200, 3), (.aload_n 0, 1), (.getfield 86, 3), (.getfield 197, 3), (.ireturn, 1)]
theorem ocX11_undo_0 : chk (cX11_undo.data.toList.drop 0) tcX11_undo_0 = true := by decide +kernel
theorem dX11_undo_0 : decode cX11_undo 0 = .ok (.iload_n 1, 1) := chk_nth ocX11_undo_0 (k := 0) rfl
theorem dX11_undo_1 : decode cX11_undo 1 = .ok (.iconst 1, 1) := chk_nth ocX11_undo_0 (k := 1) rfl
theorem dX11_undo_2 : decode cX11_undo 2 = .ok (.if_icmp .lt 14, 3) := chk_nth ocX11_undo_0 (k := 2) rfl
theorem dX11_undo_5 : decode cX11_undo 5 = .ok (.iload_n 1, 1) := chk_nth ocX11_undo_0 (k := 3) rfl
theorem dX11_undo_6 : decode cX11_undo 6 = .ok (.aload_n 0, 1) := chk_nth ocX11_undo_0 (k := 4) rfl
theorem dX11_undo_7 : decode cX11_undo 7 = .ok (.getfield 86, 3) := chk_nth ocX11_undo_0 (k := 5) rfl
theorem dX11_undo_10 : decode cX11_undo 10 = .ok (.getfield 197, 3) := chk_nth ocX11_undo_0 (k := 6) rfl
theorem dX11_undo_13 : decode cX11_undo 13 = .ok (.if_icmp .le 6, 3) := chk_nth ocX11_undo_0 (k := 7) rfl
theorem dX11_undo_16 : decode cX11_undo 16 = .ok (.bipush (-3), 2) := chk_nth ocX11_undo_0 (k := 8) rfl
theorem dX11_undo_18 : decode cX11_undo 18 = .ok (.ireturn, 1) := chk_nth ocX11_undo_0 (k := 9) rfl
theorem dX11_undo_19 : decode cX11_undo 19 = .ok (.aload_n 0, 1) := chk_nth ocX11_undo_0 (k := 10) rfl
theorem dX11_undo_20 : decode cX11_undo 20 = .ok (.getfield 86, 3) := chk_nth ocX11_undo_0 (k := 11) rfl
theorem dX11_undo_23 : decode cX11_undo 23 = .ok (.iload_n 1, 1) := chk_nth ocX11_undo_0 (k := 12) rfl
theorem dX11_undo_24 : decode cX11_undo 24 = .ok (.aload_n 0, 1) := chk_nth ocX11_undo_0 (k := 13) rfl
theorem dX11_undo_25 : decode cX11_undo 25 = .ok (.getfield 20, 3) := chk_nth ocX11_undo_0 (k := 14) rfl
theorem dX11_undo_28 : decode cX11_undo 28 = .ok (.invokevirtual 200, 3) := chk_nth ocX11_undo_0 (k := 15) rfl
theorem dX11_undo_31 : decode cX11_undo 31 = .ok (.aload_n 0, 1) := chk_nth ocX11_undo_0 (k := 16) rfl
theorem dX11_undo_32 : decode cX11_undo 32 = .ok (.getfield 86, 3) := chk_nth ocX11_undo_0 (k := 17) rfl
theorem dX11_undo_35 : decode cX11_undo 35 = .ok (.getfield 197, 3) := chk_nth ocX11_undo_0 (k := 18) rfl
theorem dX11_undo_38 : decode cX11_undo 38 = .ok (.ireturn, 1) := chk_nth ocX11_undo_0 (k := 19) rfl
def tcX11_judge_0 : List (Instr × Nat) := [(.aload_n 0, 1), (.iload_n 1, 1), (.invokevirtual 204, 3), (.astore_n 3, 1), (.aload_n 3, 1), (.ifnull 12, 3), (.iload_n 2, 1), (.ifCond .lt 8, 3), (.iload_n 2, 1), (.iconst 3, 1), (.if_icmp .le 6, 3), (.bipush (-2), 2), (.ireturn, 1), (.aload_n 3, 1), (.invokevirtual 208, 3), (.ifCond .eq 6, 3), (.bipush (-6), 2), (.ireturn, 1), (.aload_n 0, 1), (.getfield 29, 3), (.aload_n 0, 1), (.getfield 20, 3), (.invokevirtual 170, 3), (.aload_n 0, 1)]
theorem ocX11_judge_0 : chk (cX11_judge.data.toList.drop 0) tcX11_judge_0 = true := by decide +kernel
theorem dX11_judge_0 : decode cX11_judge 0 = .ok (.aload_n 0, 1) := chk_nth ocX11_judge_0 (k := 0) rfl
theorem dX11_judge_1 : decode cX11_judge 1 = .ok (.iload_n 1, 1) := chk_nth ocX11_judge_0 (k := 1) rfl
theorem dX11_judge_2 : decode cX11_judge 2 = .ok (.invokevirtual 204, 3) := chk_nth ocX11_judge_0 (k := 2) rfl
theorem dX11_judge_5 : decode cX11_judge 5 = .ok (.astore_n 3, 1) := chk_nth ocX11_judge_0 (k := 3) rfl
theorem dX11_judge_6 : decode cX11_judge 6 = .ok (.aload_n 3, 1) := chk_nth ocX11_judge_0 (k := 4) rfl
theorem dX11_judge_7 : decode cX11_judge 7 = .ok (.ifnull 12, 3) := chk_nth ocX11_judge_0 (k := 5) rfl
theorem dX11_judge_10 : decode cX11_judge 10 = .ok (.iload_n 2, 1) := chk_nth ocX11_judge_0 (k := 6) rfl
theorem dX11_judge_11 : decode cX11_judge 11 = .ok (.ifCond .lt 8, 3) := chk_nth ocX11_judge_0 (k := 7) rfl
theorem dX11_judge_14 : decode cX11_judge 14 = .ok (.iload_n 2, 1) := chk_nth ocX11_judge_0 (k := 8) rfl
theorem dX11_judge_15 : decode cX11_judge 15 = .ok (.iconst 3, 1) := chk_nth ocX11_judge_0 (k := 9) rfl
theorem dX11_judge_16 : decode cX11_judge 16 = .ok (.if_icmp .le 6, 3) := chk_nth ocX11_judge_0 (k := 10) rfl
theorem dX11_judge_19 : decode cX11_judge 19 = .ok (.bipush (-2), 2) := chk_nth ocX11_judge_0 (k := 11) rfl
theorem dX11_judge_21 : decode cX11_judge 21 = .ok (.ireturn, 1) := chk_nth ocX11_judge_0 (k := 12) rfl
theorem dX11_judge_22 : decode cX11_judge 22 = .ok (.aload_n 3, 1) := chk_nth ocX11_judge_0 (k := 13) rfl
theorem dX11_judge_23 : decode cX11_judge 23 = .ok (.invokevirtual 208, 3) := chk_nth ocX11_judge_0 (k := 14) rfl
theorem dX11_judge_26 : decode cX11_judge 26 = .ok (.ifCond .eq 6, 3) := chk_nth ocX11_judge_0 (k := 15) rfl
theorem dX11_judge_29 : decode cX11_judge 29 = .ok (.bipush (-6), 2) := chk_nth ocX11_judge_0 (k := 16) rfl
theorem dX11_judge_31 : decode cX11_judge 31 = .ok (.ireturn, 1) := chk_nth ocX11_judge_0 (k := 17) rfl
theorem dX11_judge_32 : decode cX11_judge 32 = .ok (.aload_n 0, 1) := chk_nth ocX11_judge_0 (k := 18) rfl
theorem dX11_judge_33 : decode cX11_judge 33 = .ok (.getfield 29, 3) := chk_nth ocX11_judge_0 (k := 19) rfl
theorem dX11_judge_36 : decode cX11_judge 36 = .ok (.aload_n 0, 1) := chk_nth ocX11_judge_0 (k := 20) rfl
theorem dX11_judge_37 : decode cX11_judge 37 = .ok (.getfield 20, 3) := chk_nth ocX11_judge_0 (k := 21) rfl
theorem dX11_judge_40 : decode cX11_judge 40 = .ok (.invokevirtual 170, 3) := chk_nth ocX11_judge_0 (k := 22) rfl
theorem dX11_judge_43 : decode cX11_judge 43 = .ok (.aload_n 0, 1) := chk_nth ocX11_judge_0 (k := 23) rfl
def tcX11_judge_1 : List (Instr × Nat) := [(.getfield 53, 3), (.aload_n 3, 1), (.aload_n 0, 1), (.getfield 29, 3), (.invokevirtual 212, 3), (.istore 4, 2), (.iload_n 2, 1)]
theorem ocX11_judge_1 : chk (cX11_judge.data.toList.drop 44) tcX11_judge_1 = true := by decide +kernel
theorem dX11_judge_44 : decode cX11_judge 44 = .ok (.getfield 53, 3) := chk_nth ocX11_judge_1 (k := 0) rfl
theorem dX11_judge_47 : decode cX11_judge 47 = .ok (.aload_n 3, 1) := chk_nth ocX11_judge_1 (k := 1) rfl
theorem dX11_judge_48 : decode cX11_judge 48 = .ok (.aload_n 0, 1) := chk_nth ocX11_judge_1 (k := 2) rfl
theorem dX11_judge_49 : decode cX11_judge 49 = .ok (.getfield 29, 3) := chk_nth ocX11_judge_1 (k := 3) rfl
theorem dX11_judge_52 : decode cX11_judge 52 = .ok (.invokevirtual 212, 3) := chk_nth ocX11_judge_1 (k := 4) rfl
theorem dX11_judge_55 : decode cX11_judge 55 = .ok (.istore 4, 2) := chk_nth ocX11_judge_1 (k := 5) rfl
theorem dX11_judge_57 : decode cX11_judge 57 = .ok (.iload_n 2, 1) := chk_nth ocX11_judge_1 (k := 6) rfl
theorem dX11_judge_58 : decode cX11_judge 58 = .ok (.tableswitch 60 0 2 #[26, 43, 51], 26) := by decide +kernel
def tcX11_judge_2 : List (Instr × Nat) := [(.aload_n 0, 1), (.getfield 53, 3), (.getfield 216, 3), (.ifCond .ne 7, 3), (.iconst (-1), 1), (.goto 5, 3), (.iload 4, 2), (.ireturn, 1), (.aload_n 0, 1), (.getfield 53, 3), (.getfield 216, 3), (.ireturn, 1), (.aload_n 0, 1), (.aload_n 0, 1), (.getfield 29, 3), (.invokevirtual 219, 3), (.ireturn, 1), (.aload_n 0, 1), (.aload_n 0, 1), (.getfield 29, 3), (.invokevirtual 223, 3), (.ireturn, 1)]
theorem ocX11_judge_2 : chk (cX11_judge.data.toList.drop 84) tcX11_judge_2 = true := by decide +kernel
theorem dX11_judge_84 : decode cX11_judge 84 = .ok (.aload_n 0, 1) := chk_nth ocX11_judge_2 (k := 0) rfl
theorem dX11_judge_85 : decode cX11_judge 85 = .ok (.getfield 53, 3) := chk_nth ocX11_judge_2 (k := 1) rfl
theorem dX11_judge_88 : decode cX11_judge 88 = .ok (.getfield 216, 3) := chk_nth ocX11_judge_2 (k := 2) rfl
theorem dX11_judge_91 : decode cX11_judge 91 = .ok (.ifCond .ne 7, 3) := chk_nth ocX11_judge_2 (k := 3) rfl
theorem dX11_judge_94 : decode cX11_judge 94 = .ok (.iconst (-1), 1) := chk_nth ocX11_judge_2 (k := 4) rfl
theorem dX11_judge_95 : decode cX11_judge 95 = .ok (.goto 5, 3) := chk_nth ocX11_judge_2 (k := 5) rfl
theorem dX11_judge_98 : decode cX11_judge 98 = .ok (.iload 4, 2) := chk_nth ocX11_judge_2 (k := 6) rfl
theorem dX11_judge_100 : decode cX11_judge 100 = .ok (.ireturn, 1) := chk_nth ocX11_judge_2 (k := 7) rfl
theorem dX11_judge_101 : decode cX11_judge 101 = .ok (.aload_n 0, 1) := chk_nth ocX11_judge_2 (k := 8) rfl
theorem dX11_judge_102 : decode cX11_judge 102 = .ok (.getfield 53, 3) := chk_nth ocX11_judge_2 (k := 9) rfl
theorem dX11_judge_105 : decode cX11_judge 105 = .ok (.getfield 216, 3) := chk_nth ocX11_judge_2 (k := 10) rfl
theorem dX11_judge_108 : decode cX11_judge 108 = .ok (.ireturn, 1) := chk_nth ocX11_judge_2 (k := 11) rfl
theorem dX11_judge_109 : decode cX11_judge 109 = .ok (.aload_n 0, 1) := chk_nth ocX11_judge_2 (k := 12) rfl
theorem dX11_judge_110 : decode cX11_judge 110 = .ok (.aload_n 0, 1) := chk_nth ocX11_judge_2 (k := 13) rfl
theorem dX11_judge_111 : decode cX11_judge 111 = .ok (.getfield 29, 3) := chk_nth ocX11_judge_2 (k := 14) rfl
theorem dX11_judge_114 : decode cX11_judge 114 = .ok (.invokevirtual 219, 3) := chk_nth ocX11_judge_2 (k := 15) rfl
theorem dX11_judge_117 : decode cX11_judge 117 = .ok (.ireturn, 1) := chk_nth ocX11_judge_2 (k := 16) rfl
theorem dX11_judge_118 : decode cX11_judge 118 = .ok (.aload_n 0, 1) := chk_nth ocX11_judge_2 (k := 17) rfl
theorem dX11_judge_119 : decode cX11_judge 119 = .ok (.aload_n 0, 1) := chk_nth ocX11_judge_2 (k := 18) rfl
theorem dX11_judge_120 : decode cX11_judge 120 = .ok (.getfield 29, 3) := chk_nth ocX11_judge_2 (k := 19) rfl
theorem dX11_judge_123 : decode cX11_judge 123 = .ok (.invokevirtual 223, 3) := chk_nth ocX11_judge_2 (k := 20) rfl
theorem dX11_judge_126 : decode cX11_judge 126 = .ok (.ireturn, 1) := chk_nth ocX11_judge_2 (k := 21) rfl
def tcX11_perform_0 : List (Instr × Nat) := [(.aload_n 0, 1), (.iload_n 1, 1), (.invokevirtual 204, 3), (.astore_n 2, 1), (.aload_n 2, 1), (.ifnonnull 6, 3), (.bipush (-2), 2), (.ireturn, 1), (.aload_n 2, 1), (.invokevirtual 208, 3), (.ifCond .eq 6, 3), (.bipush (-6), 2), (.ireturn, 1), (.aload_n 0, 1), (.getfield 26, 3), (.aload_n 0, 1), (.getfield 20, 3), (.invokevirtual 170, 3), (.aload_n 0, 1), (.getfield 53, 3), (.aload_n 2, 1), (.aload_n 0, 1), (.getfield 20, 3), (.invokevirtual 212, 3)]
theorem ocX11_perform_0 : chk (cX11_perform.data.toList.drop 0) tcX11_perform_0 = true := by decide +kernel
theorem dX11_perform_0 : decode cX11_perform 0 = .ok (.aload_n 0, 1) := chk_nth ocX11_perform_0 (k := 0) rfl
theorem dX11_perform_1 : decode cX11_perform 1 = .ok (.iload_n 1, 1) := chk_nth ocX11_perform_0 (k := 1) rfl
theorem dX11_perform_2 : decode cX11_perform 2 = .ok (.invokevirtual 204, 3) := chk_nth ocX11_perform_0 (k := 2) rfl
theorem dX11_perform_5 : decode cX11_perform 5 = .ok (.astore_n 2, 1) := chk_nth ocX11_perform_0 (k := 3) rfl
theorem dX11_perform_6 : decode cX11_perform 6 = .ok (.aload_n 2, 1) := chk_nth ocX11_perform_0 (k := 4) rfl
theorem dX11_perform_7 : decode cX11_perform 7 = .ok (.ifnonnull 6, 3) := chk_nth ocX11_perform_0 (k := 5) rfl
theorem dX11_perform_10 : decode cX11_perform 10 = .ok (.bipush (-2), 2) := chk_nth ocX11_perform_0 (k := 6) rfl
theorem dX11_perform_12 : decode cX11_perform 12 = .ok (.ireturn, 1) := chk_nth ocX11_perform_0 (k := 7) rfl
theorem dX11_perform_13 : decode cX11_perform 13 = .ok (.aload_n 2, 1) := chk_nth ocX11_perform_0 (k := 8) rfl
theorem dX11_perform_14 : decode cX11_perform 14 = .ok (.invokevirtual 208, 3) := chk_nth ocX11_perform_0 (k := 9) rfl
theorem dX11_perform_17 : decode cX11_perform 17 = .ok (.ifCond .eq 6, 3) := chk_nth ocX11_perform_0 (k := 10) rfl
theorem dX11_perform_20 : decode cX11_perform 20 = .ok (.bipush (-6), 2) := chk_nth ocX11_perform_0 (k := 11) rfl
theorem dX11_perform_22 : decode cX11_perform 22 = .ok (.ireturn, 1) := chk_nth ocX11_perform_0 (k := 12) rfl
theorem dX11_perform_23 : decode cX11_perform 23 = .ok (.aload_n 0, 1) := chk_nth ocX11_perform_0 (k := 13) rfl
theorem dX11_perform_24 : decode cX11_perform 24 = .ok (.getfield 26, 3) := chk_nth ocX11_perform_0 (k := 14) rfl
theorem dX11_perform_27 : decode cX11_perform 27 = .ok (.aload_n 0, 1) := chk_nth ocX11_perform_0 (k := 15) rfl
theorem dX11_perform_28 : decode cX11_perform 28 = .ok (.getfield 20, 3) := chk_nth ocX11_perform_0 (k := 16) rfl
theorem dX11_perform_31 : decode cX11_perform 31 = .ok (.invokevirtual 170, 3) := chk_nth ocX11_perform_0 (k := 17) rfl
theorem dX11_perform_34 : decode cX11_perform 34 = .ok (.aload_n 0, 1) := chk_nth ocX11_perform_0 (k := 18) rfl
theorem dX11_perform_35 : decode cX11_perform 35 = .ok (.getfield 53, 3) := chk_nth ocX11_perform_0 (k := 19) rfl
theorem dX11_perform_38 : decode cX11_perform 38 = .ok (.aload_n 2, 1) := chk_nth ocX11_perform_0 (k := 20) rfl
theorem dX11_perform_39 : decode cX11_perform 39 = .ok (.aload_n 0, 1) := chk_nth ocX11_perform_0 (k := 21) rfl
theorem dX11_perform_40 : decode cX11_perform 40 = .ok (.getfield 20, 3) := chk_nth ocX11_perform_0 (k := 22) rfl
theorem dX11_perform_43 : decode cX11_perform 43 = .ok (.invokevirtual 212, 3) := chk_nth ocX11_perform_0 (k := 23) rfl
def tcX11_perform_1 : List (Instr × Nat) := [(.istore_n 3, 1), (.iload_n 3, 1), (.ifCond .le 11, 3), (.aload_n 0, 1), (.iload_n 3, 1), (.invokevirtual 178, 3), (.goto 4, 3), (.iload_n 3, 1), (.ireturn, 1)]
theorem ocX11_perform_1 : chk (cX11_perform.data.toList.drop 46) tcX11_perform_1 = true := by decide +kernel
theorem dX11_perform_46 : decode cX11_perform 46 = .ok (.istore_n 3, 1) := chk_nth ocX11_perform_1 (k := 0) rfl
theorem dX11_perform_47 : decode cX11_perform 47 = .ok (.iload_n 3, 1) := chk_nth ocX11_perform_1 (k := 1) rfl
theorem dX11_perform_48 : decode cX11_perform 48 = .ok (.ifCond .le 11, 3) := chk_nth ocX11_perform_1 (k := 2) rfl
theorem dX11_perform_51 : decode cX11_perform 51 = .ok (.aload_n 0, 1) := chk_nth ocX11_perform_1 (k := 3) rfl
theorem dX11_perform_52 : decode cX11_perform 52 = .ok (.iload_n 3, 1) := chk_nth ocX11_perform_1 (k := 4) rfl
theorem dX11_perform_53 : decode cX11_perform 53 = .ok (.invokevirtual 178, 3) := chk_nth ocX11_perform_1 (k := 5) rfl
theorem dX11_perform_56 : decode cX11_perform 56 = .ok (.goto 4, 3) := chk_nth ocX11_perform_1 (k := 6) rfl
theorem dX11_perform_59 : decode cX11_perform 59 = .ok (.iload_n 3, 1) := chk_nth ocX11_perform_1 (k := 7) rfl
theorem dX11_perform_60 : decode cX11_perform 60 = .ok (.ireturn, 1) := chk_nth ocX11_perform_1 (k := 8) rfl
def tcX11_day_0 : List (Instr × Nat) := [(.iload_n 2, 1), (.iconst 1, 1), (.if_icmp .lt 9, 3), (.iload_n 2, 1), (.bipush 40, 2), (.if_icmp .le 6, 3), (.bipush (-3), 2), (.ireturn, 1), (.aload_n 0, 1), (.getfield 26, 3), (.aload_n 0, 1), (.getfield 20, 3), (.invokevirtual 170, 3), (.aload_n 0, 1), (.getfield 53, 3), (.iload_n 1, 1), (.iload_n 2, 1), (.aload_n 0, 1), (.getfield 20, 3), (.invokevirtual 226, 3), (.istore_n 3, 1), (.iload_n 3, 1), (.ifCond .le 11, 3), (.aload_n 0, 1)]
theorem ocX11_day_0 : chk (cX11_day.data.toList.drop 0) tcX11_day_0 = true := by decide +kernel
theorem dX11_day_0 : decode cX11_day 0 = .ok (.iload_n 2, 1) := chk_nth ocX11_day_0 (k := 0) rfl
theorem dX11_day_1 : decode cX11_day 1 = .ok (.iconst 1, 1) := chk_nth ocX11_day_0 (k := 1) rfl
theorem dX11_day_2 : decode cX11_day 2 = .ok (.if_icmp .lt 9, 3) := chk_nth ocX11_day_0 (k := 2) rfl
theorem dX11_day_5 : decode cX11_day 5 = .ok (.iload_n 2, 1) := chk_nth ocX11_day_0 (k := 3) rfl
theorem dX11_day_6 : decode cX11_day 6 = .ok (.bipush 40, 2) := chk_nth ocX11_day_0 (k := 4) rfl
theorem dX11_day_8 : decode cX11_day 8 = .ok (.if_icmp .le 6, 3) := chk_nth ocX11_day_0 (k := 5) rfl
theorem dX11_day_11 : decode cX11_day 11 = .ok (.bipush (-3), 2) := chk_nth ocX11_day_0 (k := 6) rfl
theorem dX11_day_13 : decode cX11_day 13 = .ok (.ireturn, 1) := chk_nth ocX11_day_0 (k := 7) rfl
theorem dX11_day_14 : decode cX11_day 14 = .ok (.aload_n 0, 1) := chk_nth ocX11_day_0 (k := 8) rfl
theorem dX11_day_15 : decode cX11_day 15 = .ok (.getfield 26, 3) := chk_nth ocX11_day_0 (k := 9) rfl
theorem dX11_day_18 : decode cX11_day 18 = .ok (.aload_n 0, 1) := chk_nth ocX11_day_0 (k := 10) rfl
theorem dX11_day_19 : decode cX11_day 19 = .ok (.getfield 20, 3) := chk_nth ocX11_day_0 (k := 11) rfl
theorem dX11_day_22 : decode cX11_day 22 = .ok (.invokevirtual 170, 3) := chk_nth ocX11_day_0 (k := 12) rfl
theorem dX11_day_25 : decode cX11_day 25 = .ok (.aload_n 0, 1) := chk_nth ocX11_day_0 (k := 13) rfl
theorem dX11_day_26 : decode cX11_day 26 = .ok (.getfield 53, 3) := chk_nth ocX11_day_0 (k := 14) rfl
theorem dX11_day_29 : decode cX11_day 29 = .ok (.iload_n 1, 1) := chk_nth ocX11_day_0 (k := 15) rfl
theorem dX11_day_30 : decode cX11_day 30 = .ok (.iload_n 2, 1) := chk_nth ocX11_day_0 (k := 16) rfl
theorem dX11_day_31 : decode cX11_day 31 = .ok (.aload_n 0, 1) := chk_nth ocX11_day_0 (k := 17) rfl
theorem dX11_day_32 : decode cX11_day 32 = .ok (.getfield 20, 3) := chk_nth ocX11_day_0 (k := 18) rfl
theorem dX11_day_35 : decode cX11_day 35 = .ok (.invokevirtual 226, 3) := chk_nth ocX11_day_0 (k := 19) rfl
theorem dX11_day_38 : decode cX11_day 38 = .ok (.istore_n 3, 1) := chk_nth ocX11_day_0 (k := 20) rfl
theorem dX11_day_39 : decode cX11_day 39 = .ok (.iload_n 3, 1) := chk_nth ocX11_day_0 (k := 21) rfl
theorem dX11_day_40 : decode cX11_day 40 = .ok (.ifCond .le 11, 3) := chk_nth ocX11_day_0 (k := 22) rfl
theorem dX11_day_43 : decode cX11_day 43 = .ok (.aload_n 0, 1) := chk_nth ocX11_day_0 (k := 23) rfl
def tcX11_day_1 : List (Instr × Nat) := [(.iload_n 3, 1), (.invokevirtual 178, 3), (.goto 4, 3), (.iload_n 3, 1), (.ireturn, 1)]
theorem ocX11_day_1 : chk (cX11_day.data.toList.drop 44) tcX11_day_1 = true := by decide +kernel
theorem dX11_day_44 : decode cX11_day 44 = .ok (.iload_n 3, 1) := chk_nth ocX11_day_1 (k := 0) rfl
theorem dX11_day_45 : decode cX11_day 45 = .ok (.invokevirtual 178, 3) := chk_nth ocX11_day_1 (k := 1) rfl
theorem dX11_day_48 : decode cX11_day 48 = .ok (.goto 4, 3) := chk_nth ocX11_day_1 (k := 2) rfl
theorem dX11_day_51 : decode cX11_day 51 = .ok (.iload_n 3, 1) := chk_nth ocX11_day_1 (k := 3) rfl
theorem dX11_day_52 : decode cX11_day 52 = .ok (.ireturn, 1) := chk_nth ocX11_day_1 (k := 4) rfl
def tcX11_soonest_0 : List (Instr × Nat) := [(.aload_n 0, 1), (.iload_n 1, 1), (.iload_n 2, 1), (.iload_n 3, 1), (.invokevirtual 229, 3), (.istore 4, 2), (.iload 4, 2), (.ifCond .eq 6, 3), (.iload 4, 2), (.ireturn, 1), (.aload_n 0, 1), (.getfield 62, 3), (.aload_n 0, 1), (.iload_n 1, 1), (.iload_n 2, 1), (.iload_n 3, 1), (.aload_n 0, 1), (.getfield 20, 3), (.invokevirtual 233, 3), (.invokevirtual 236, 3), (.ireturn, 1)]
theorem ocX11_soonest_0 : chk (cX11_soonest.data.toList.drop 0) tcX11_soonest_0 = true := by decide +kernel
theorem dX11_soonest_0 : decode cX11_soonest 0 = .ok (.aload_n 0, 1) := chk_nth ocX11_soonest_0 (k := 0) rfl
theorem dX11_soonest_1 : decode cX11_soonest 1 = .ok (.iload_n 1, 1) := chk_nth ocX11_soonest_0 (k := 1) rfl
theorem dX11_soonest_2 : decode cX11_soonest 2 = .ok (.iload_n 2, 1) := chk_nth ocX11_soonest_0 (k := 2) rfl
theorem dX11_soonest_3 : decode cX11_soonest 3 = .ok (.iload_n 3, 1) := chk_nth ocX11_soonest_0 (k := 3) rfl
theorem dX11_soonest_4 : decode cX11_soonest 4 = .ok (.invokevirtual 229, 3) := chk_nth ocX11_soonest_0 (k := 4) rfl
theorem dX11_soonest_7 : decode cX11_soonest 7 = .ok (.istore 4, 2) := chk_nth ocX11_soonest_0 (k := 5) rfl
theorem dX11_soonest_9 : decode cX11_soonest 9 = .ok (.iload 4, 2) := chk_nth ocX11_soonest_0 (k := 6) rfl
theorem dX11_soonest_11 : decode cX11_soonest 11 = .ok (.ifCond .eq 6, 3) := chk_nth ocX11_soonest_0 (k := 7) rfl
theorem dX11_soonest_14 : decode cX11_soonest 14 = .ok (.iload 4, 2) := chk_nth ocX11_soonest_0 (k := 8) rfl
theorem dX11_soonest_16 : decode cX11_soonest 16 = .ok (.ireturn, 1) := chk_nth ocX11_soonest_0 (k := 9) rfl
theorem dX11_soonest_17 : decode cX11_soonest 17 = .ok (.aload_n 0, 1) := chk_nth ocX11_soonest_0 (k := 10) rfl
theorem dX11_soonest_18 : decode cX11_soonest 18 = .ok (.getfield 62, 3) := chk_nth ocX11_soonest_0 (k := 11) rfl
theorem dX11_soonest_21 : decode cX11_soonest 21 = .ok (.aload_n 0, 1) := chk_nth ocX11_soonest_0 (k := 12) rfl
theorem dX11_soonest_22 : decode cX11_soonest 22 = .ok (.iload_n 1, 1) := chk_nth ocX11_soonest_0 (k := 13) rfl
theorem dX11_soonest_23 : decode cX11_soonest 23 = .ok (.iload_n 2, 1) := chk_nth ocX11_soonest_0 (k := 14) rfl
theorem dX11_soonest_24 : decode cX11_soonest 24 = .ok (.iload_n 3, 1) := chk_nth ocX11_soonest_0 (k := 15) rfl
theorem dX11_soonest_25 : decode cX11_soonest 25 = .ok (.aload_n 0, 1) := chk_nth ocX11_soonest_0 (k := 16) rfl
theorem dX11_soonest_26 : decode cX11_soonest 26 = .ok (.getfield 20, 3) := chk_nth ocX11_soonest_0 (k := 17) rfl
theorem dX11_soonest_29 : decode cX11_soonest 29 = .ok (.invokevirtual 233, 3) := chk_nth ocX11_soonest_0 (k := 18) rfl
theorem dX11_soonest_32 : decode cX11_soonest 32 = .ok (.invokevirtual 236, 3) := chk_nth ocX11_soonest_0 (k := 19) rfl
theorem dX11_soonest_35 : decode cX11_soonest 35 = .ok (.ireturn, 1) := chk_nth ocX11_soonest_0 (k := 20) rfl
def tcX11_way_0 : List (Instr × Nat) := [(.aload_n 0, 1), (.iload_n 1, 1), (.iload_n 2, 1), (.iload_n 3, 1), (.invokevirtual 229, 3), (.istore 5, 2), (.iload 5, 2), (.ifCond .eq 6, 3), (.iload 5, 2), (.ireturn, 1), (.iload 4, 2), (.ifCond .ge 6, 3), (.bipush (-3), 2), (.ireturn, 1), (.aload_n 0, 1), (.iload_n 1, 1), (.iload_n 2, 1), (.iload_n 3, 1), (.aload_n 0, 1), (.getfield 20, 3), (.invokevirtual 233, 3), (.istore 6, 2), (.aload_n 0, 1), (.getfield 62, 3)]
theorem ocX11_way_0 : chk (cX11_way.data.toList.drop 0) tcX11_way_0 = true := by decide +kernel
theorem dX11_way_0 : decode cX11_way 0 = .ok (.aload_n 0, 1) := chk_nth ocX11_way_0 (k := 0) rfl
theorem dX11_way_1 : decode cX11_way 1 = .ok (.iload_n 1, 1) := chk_nth ocX11_way_0 (k := 1) rfl
theorem dX11_way_2 : decode cX11_way 2 = .ok (.iload_n 2, 1) := chk_nth ocX11_way_0 (k := 2) rfl
theorem dX11_way_3 : decode cX11_way 3 = .ok (.iload_n 3, 1) := chk_nth ocX11_way_0 (k := 3) rfl
theorem dX11_way_4 : decode cX11_way 4 = .ok (.invokevirtual 229, 3) := chk_nth ocX11_way_0 (k := 4) rfl
theorem dX11_way_7 : decode cX11_way 7 = .ok (.istore 5, 2) := chk_nth ocX11_way_0 (k := 5) rfl
theorem dX11_way_9 : decode cX11_way 9 = .ok (.iload 5, 2) := chk_nth ocX11_way_0 (k := 6) rfl
theorem dX11_way_11 : decode cX11_way 11 = .ok (.ifCond .eq 6, 3) := chk_nth ocX11_way_0 (k := 7) rfl
theorem dX11_way_14 : decode cX11_way 14 = .ok (.iload 5, 2) := chk_nth ocX11_way_0 (k := 8) rfl
theorem dX11_way_16 : decode cX11_way 16 = .ok (.ireturn, 1) := chk_nth ocX11_way_0 (k := 9) rfl
theorem dX11_way_17 : decode cX11_way 17 = .ok (.iload 4, 2) := chk_nth ocX11_way_0 (k := 10) rfl
theorem dX11_way_19 : decode cX11_way 19 = .ok (.ifCond .ge 6, 3) := chk_nth ocX11_way_0 (k := 11) rfl
theorem dX11_way_22 : decode cX11_way 22 = .ok (.bipush (-3), 2) := chk_nth ocX11_way_0 (k := 12) rfl
theorem dX11_way_24 : decode cX11_way 24 = .ok (.ireturn, 1) := chk_nth ocX11_way_0 (k := 13) rfl
theorem dX11_way_25 : decode cX11_way 25 = .ok (.aload_n 0, 1) := chk_nth ocX11_way_0 (k := 14) rfl
theorem dX11_way_26 : decode cX11_way 26 = .ok (.iload_n 1, 1) := chk_nth ocX11_way_0 (k := 15) rfl
theorem dX11_way_27 : decode cX11_way 27 = .ok (.iload_n 2, 1) := chk_nth ocX11_way_0 (k := 16) rfl
theorem dX11_way_28 : decode cX11_way 28 = .ok (.iload_n 3, 1) := chk_nth ocX11_way_0 (k := 17) rfl
theorem dX11_way_29 : decode cX11_way 29 = .ok (.aload_n 0, 1) := chk_nth ocX11_way_0 (k := 18) rfl
theorem dX11_way_30 : decode cX11_way 30 = .ok (.getfield 20, 3) := chk_nth ocX11_way_0 (k := 19) rfl
theorem dX11_way_33 : decode cX11_way 33 = .ok (.invokevirtual 233, 3) := chk_nth ocX11_way_0 (k := 20) rfl
theorem dX11_way_36 : decode cX11_way 36 = .ok (.istore 6, 2) := chk_nth ocX11_way_0 (k := 21) rfl
theorem dX11_way_38 : decode cX11_way 38 = .ok (.aload_n 0, 1) := chk_nth ocX11_way_0 (k := 22) rfl
theorem dX11_way_39 : decode cX11_way 39 = .ok (.getfield 62, 3) := chk_nth ocX11_way_0 (k := 23) rfl
def tcX11_way_1 : List (Instr × Nat) := [(.iload 6, 2), (.iload 4, 2), (.invokevirtual 239, 3), (.ireturn, 1)]
theorem ocX11_way_1 : chk (cX11_way.data.toList.drop 42) tcX11_way_1 = true := by decide +kernel
theorem dX11_way_42 : decode cX11_way 42 = .ok (.iload 6, 2) := chk_nth ocX11_way_1 (k := 0) rfl
theorem dX11_way_44 : decode cX11_way 44 = .ok (.iload 4, 2) := chk_nth ocX11_way_1 (k := 1) rfl
theorem dX11_way_46 : decode cX11_way 46 = .ok (.invokevirtual 239, 3) := chk_nth ocX11_way_1 (k := 2) rfl
theorem dX11_way_49 : decode cX11_way 49 = .ok (.ireturn, 1) := chk_nth ocX11_way_1 (k := 3) rfl
def tcX11_rows_0 : List (Instr × Nat) := [(.aload_n 0, 1), (.iload_n 1, 1), (.iload_n 2, 1), (.iload_n 3, 1), (.invokevirtual 229, 3), (.istore 5, 2), (.iload 5, 2), (.ifCond .eq 7, 3), (.iload 5, 2), (.i2l, 1), (.lreturn, 1), (.iload 4, 2), (.ifCond .lt 10, 3), (.iload 4, 2), (.bipush 12, 2), (.if_icmp .le 7, 3), (.ldc2_w 243, 3), (.lreturn, 1), (.aload_n 0, 1), (.getfield 72, 3), (.iload_n 1, 1), (.aload_n 0, 1), (.getfield 20, 3), (.iload_n 1, 1)]
theorem ocX11_rows_0 : chk (cX11_rows.data.toList.drop 0) tcX11_rows_0 = true := by decide +kernel
theorem dX11_rows_0 : decode cX11_rows 0 = .ok (.aload_n 0, 1) := chk_nth ocX11_rows_0 (k := 0) rfl
theorem dX11_rows_1 : decode cX11_rows 1 = .ok (.iload_n 1, 1) := chk_nth ocX11_rows_0 (k := 1) rfl
theorem dX11_rows_2 : decode cX11_rows 2 = .ok (.iload_n 2, 1) := chk_nth ocX11_rows_0 (k := 2) rfl
theorem dX11_rows_3 : decode cX11_rows 3 = .ok (.iload_n 3, 1) := chk_nth ocX11_rows_0 (k := 3) rfl
theorem dX11_rows_4 : decode cX11_rows 4 = .ok (.invokevirtual 229, 3) := chk_nth ocX11_rows_0 (k := 4) rfl
theorem dX11_rows_7 : decode cX11_rows 7 = .ok (.istore 5, 2) := chk_nth ocX11_rows_0 (k := 5) rfl
theorem dX11_rows_9 : decode cX11_rows 9 = .ok (.iload 5, 2) := chk_nth ocX11_rows_0 (k := 6) rfl
theorem dX11_rows_11 : decode cX11_rows 11 = .ok (.ifCond .eq 7, 3) := chk_nth ocX11_rows_0 (k := 7) rfl
theorem dX11_rows_14 : decode cX11_rows 14 = .ok (.iload 5, 2) := chk_nth ocX11_rows_0 (k := 8) rfl
theorem dX11_rows_16 : decode cX11_rows 16 = .ok (.i2l, 1) := chk_nth ocX11_rows_0 (k := 9) rfl
theorem dX11_rows_17 : decode cX11_rows 17 = .ok (.lreturn, 1) := chk_nth ocX11_rows_0 (k := 10) rfl
theorem dX11_rows_18 : decode cX11_rows 18 = .ok (.iload 4, 2) := chk_nth ocX11_rows_0 (k := 11) rfl
theorem dX11_rows_20 : decode cX11_rows 20 = .ok (.ifCond .lt 10, 3) := chk_nth ocX11_rows_0 (k := 12) rfl
theorem dX11_rows_23 : decode cX11_rows 23 = .ok (.iload 4, 2) := chk_nth ocX11_rows_0 (k := 13) rfl
theorem dX11_rows_25 : decode cX11_rows 25 = .ok (.bipush 12, 2) := chk_nth ocX11_rows_0 (k := 14) rfl
theorem dX11_rows_27 : decode cX11_rows 27 = .ok (.if_icmp .le 7, 3) := chk_nth ocX11_rows_0 (k := 15) rfl
theorem dX11_rows_30 : decode cX11_rows 30 = .ok (.ldc2_w 243, 3) := chk_nth ocX11_rows_0 (k := 16) rfl
theorem dX11_rows_33 : decode cX11_rows 33 = .ok (.lreturn, 1) := chk_nth ocX11_rows_0 (k := 17) rfl
theorem dX11_rows_34 : decode cX11_rows 34 = .ok (.aload_n 0, 1) := chk_nth ocX11_rows_0 (k := 18) rfl
theorem dX11_rows_35 : decode cX11_rows 35 = .ok (.getfield 72, 3) := chk_nth ocX11_rows_0 (k := 19) rfl
theorem dX11_rows_38 : decode cX11_rows 38 = .ok (.iload_n 1, 1) := chk_nth ocX11_rows_0 (k := 20) rfl
theorem dX11_rows_39 : decode cX11_rows 39 = .ok (.aload_n 0, 1) := chk_nth ocX11_rows_0 (k := 21) rfl
theorem dX11_rows_40 : decode cX11_rows 40 = .ok (.getfield 20, 3) := chk_nth ocX11_rows_0 (k := 22) rfl
theorem dX11_rows_43 : decode cX11_rows 43 = .ok (.iload_n 1, 1) := chk_nth ocX11_rows_0 (k := 23) rfl
def tcX11_rows_1 : List (Instr × Nat) := [(.invokevirtual 163, 3), (.iload 4, 2), (.aload_n 0, 1), (.getfield 20, 3), (.iconst 0, 1), (.invokevirtual 245, 3), (.aload_n 0, 1), (.getfield 72, 3), (.iload_n 2, 1), (.iload_n 3, 1), (.invokevirtual 249, 3), (.lreturn, 1)]
theorem ocX11_rows_1 : chk (cX11_rows.data.toList.drop 44) tcX11_rows_1 = true := by decide +kernel
theorem dX11_rows_44 : decode cX11_rows 44 = .ok (.invokevirtual 163, 3) := chk_nth ocX11_rows_1 (k := 0) rfl
theorem dX11_rows_47 : decode cX11_rows 47 = .ok (.iload 4, 2) := chk_nth ocX11_rows_1 (k := 1) rfl
theorem dX11_rows_49 : decode cX11_rows 49 = .ok (.aload_n 0, 1) := chk_nth ocX11_rows_1 (k := 2) rfl
theorem dX11_rows_50 : decode cX11_rows 50 = .ok (.getfield 20, 3) := chk_nth ocX11_rows_1 (k := 3) rfl
theorem dX11_rows_53 : decode cX11_rows 53 = .ok (.iconst 0, 1) := chk_nth ocX11_rows_1 (k := 4) rfl
theorem dX11_rows_54 : decode cX11_rows 54 = .ok (.invokevirtual 245, 3) := chk_nth ocX11_rows_1 (k := 5) rfl
theorem dX11_rows_57 : decode cX11_rows 57 = .ok (.aload_n 0, 1) := chk_nth ocX11_rows_1 (k := 6) rfl
theorem dX11_rows_58 : decode cX11_rows 58 = .ok (.getfield 72, 3) := chk_nth ocX11_rows_1 (k := 7) rfl
theorem dX11_rows_61 : decode cX11_rows 61 = .ok (.iload_n 2, 1) := chk_nth ocX11_rows_1 (k := 8) rfl
theorem dX11_rows_62 : decode cX11_rows 62 = .ok (.iload_n 3, 1) := chk_nth ocX11_rows_1 (k := 9) rfl
theorem dX11_rows_63 : decode cX11_rows 63 = .ok (.invokevirtual 249, 3) := chk_nth ocX11_rows_1 (k := 10) rfl
theorem dX11_rows_66 : decode cX11_rows 66 = .ok (.lreturn, 1) := chk_nth ocX11_rows_1 (k := 11) rfl
def tcX11_when_0 : List (Instr × Nat) := [(.aload_n 0, 1), (.getfield 12, 3), (.iload_n 1, 1), (.invokevirtual 148, 3), (.ifCond .eq 14, 3), (.aload_n 0, 1), (.getfield 12, 3), (.iload_n 2, 1), (.invokevirtual 253, 3), (.ifCond .ne 6, 3), (.bipush (-2), 2), (.ireturn, 1), (.aload_n 0, 1), (.getfield 62, 3), (.iload_n 1, 1), (.aload_n 0, 1), (.getfield 20, 3), (.iload_n 1, 1), (.invokevirtual 163, 3), (.aload_n 0, 1), (.getfield 20, 3), (.invokevirtual 256, 3), (.iconst 0, 1), (.istore_n 3, 1)]
theorem ocX11_when_0 : chk (cX11_when.data.toList.drop 0) tcX11_when_0 = true := by decide +kernel
theorem dX11_when_0 : decode cX11_when 0 = .ok (.aload_n 0, 1) := chk_nth ocX11_when_0 (k := 0) rfl
theorem dX11_when_1 : decode cX11_when 1 = .ok (.getfield 12, 3) := chk_nth ocX11_when_0 (k := 1) rfl
theorem dX11_when_4 : decode cX11_when 4 = .ok (.iload_n 1, 1) := chk_nth ocX11_when_0 (k := 2) rfl
theorem dX11_when_5 : decode cX11_when 5 = .ok (.invokevirtual 148, 3) := chk_nth ocX11_when_0 (k := 3) rfl
theorem dX11_when_8 : decode cX11_when 8 = .ok (.ifCond .eq 14, 3) := chk_nth ocX11_when_0 (k := 4) rfl
theorem dX11_when_11 : decode cX11_when 11 = .ok (.aload_n 0, 1) := chk_nth ocX11_when_0 (k := 5) rfl
theorem dX11_when_12 : decode cX11_when 12 = .ok (.getfield 12, 3) := chk_nth ocX11_when_0 (k := 6) rfl
theorem dX11_when_15 : decode cX11_when 15 = .ok (.iload_n 2, 1) := chk_nth ocX11_when_0 (k := 7) rfl
theorem dX11_when_16 : decode cX11_when 16 = .ok (.invokevirtual 253, 3) := chk_nth ocX11_when_0 (k := 8) rfl
theorem dX11_when_19 : decode cX11_when 19 = .ok (.ifCond .ne 6, 3) := chk_nth ocX11_when_0 (k := 9) rfl
theorem dX11_when_22 : decode cX11_when 22 = .ok (.bipush (-2), 2) := chk_nth ocX11_when_0 (k := 10) rfl
theorem dX11_when_24 : decode cX11_when 24 = .ok (.ireturn, 1) := chk_nth ocX11_when_0 (k := 11) rfl
theorem dX11_when_25 : decode cX11_when 25 = .ok (.aload_n 0, 1) := chk_nth ocX11_when_0 (k := 12) rfl
theorem dX11_when_26 : decode cX11_when 26 = .ok (.getfield 62, 3) := chk_nth ocX11_when_0 (k := 13) rfl
theorem dX11_when_29 : decode cX11_when 29 = .ok (.iload_n 1, 1) := chk_nth ocX11_when_0 (k := 14) rfl
theorem dX11_when_30 : decode cX11_when 30 = .ok (.aload_n 0, 1) := chk_nth ocX11_when_0 (k := 15) rfl
theorem dX11_when_31 : decode cX11_when 31 = .ok (.getfield 20, 3) := chk_nth ocX11_when_0 (k := 16) rfl
theorem dX11_when_34 : decode cX11_when 34 = .ok (.iload_n 1, 1) := chk_nth ocX11_when_0 (k := 17) rfl
theorem dX11_when_35 : decode cX11_when 35 = .ok (.invokevirtual 163, 3) := chk_nth ocX11_when_0 (k := 18) rfl
theorem dX11_when_38 : decode cX11_when 38 = .ok (.aload_n 0, 1) := chk_nth ocX11_when_0 (k := 19) rfl
theorem dX11_when_39 : decode cX11_when 39 = .ok (.getfield 20, 3) := chk_nth ocX11_when_0 (k := 20) rfl
theorem dX11_when_42 : decode cX11_when 42 = .ok (.invokevirtual 256, 3) := chk_nth ocX11_when_0 (k := 21) rfl
theorem dX11_when_45 : decode cX11_when 45 = .ok (.iconst 0, 1) := chk_nth ocX11_when_0 (k := 22) rfl
theorem dX11_when_46 : decode cX11_when 46 = .ok (.istore_n 3, 1) := chk_nth ocX11_when_0 (k := 23) rfl
def tcX11_when_1 : List (Instr × Nat) := [(.iconst 0, 1), (.istore 4, 2), (.iload 4, 2), (.bipush 20, 2), (.if_icmp .ge 34, 3), (.aload_n 0, 1), (.getfield 62, 3), (.iload_n 2, 1), (.bipush 20, 2), (.imul, 1), (.iload 4, 2), (.iadd, 1), (.invokevirtual 236, 3), (.iconst (-1), 1), (.if_icmp .eq 10, 3), (.iload_n 3, 1), (.iconst 1, 1), (.iload 4, 2), (.ishl, 1), (.ior, 1), (.istore_n 3, 1), (.iinc 4 1, 3), (.goto (-35), 3), (.iload_n 3, 1)]
theorem ocX11_when_1 : chk (cX11_when.data.toList.drop 47) tcX11_when_1 = true := by decide +kernel
theorem dX11_when_47 : decode cX11_when 47 = .ok (.iconst 0, 1) := chk_nth ocX11_when_1 (k := 0) rfl
theorem dX11_when_48 : decode cX11_when 48 = .ok (.istore 4, 2) := chk_nth ocX11_when_1 (k := 1) rfl
theorem dX11_when_50 : decode cX11_when 50 = .ok (.iload 4, 2) := chk_nth ocX11_when_1 (k := 2) rfl
theorem dX11_when_52 : decode cX11_when 52 = .ok (.bipush 20, 2) := chk_nth ocX11_when_1 (k := 3) rfl
theorem dX11_when_54 : decode cX11_when 54 = .ok (.if_icmp .ge 34, 3) := chk_nth ocX11_when_1 (k := 4) rfl
theorem dX11_when_57 : decode cX11_when 57 = .ok (.aload_n 0, 1) := chk_nth ocX11_when_1 (k := 5) rfl
theorem dX11_when_58 : decode cX11_when 58 = .ok (.getfield 62, 3) := chk_nth ocX11_when_1 (k := 6) rfl
theorem dX11_when_61 : decode cX11_when 61 = .ok (.iload_n 2, 1) := chk_nth ocX11_when_1 (k := 7) rfl
theorem dX11_when_62 : decode cX11_when 62 = .ok (.bipush 20, 2) := chk_nth ocX11_when_1 (k := 8) rfl
theorem dX11_when_64 : decode cX11_when 64 = .ok (.imul, 1) := chk_nth ocX11_when_1 (k := 9) rfl
theorem dX11_when_65 : decode cX11_when 65 = .ok (.iload 4, 2) := chk_nth ocX11_when_1 (k := 10) rfl
theorem dX11_when_67 : decode cX11_when 67 = .ok (.iadd, 1) := chk_nth ocX11_when_1 (k := 11) rfl
theorem dX11_when_68 : decode cX11_when 68 = .ok (.invokevirtual 236, 3) := chk_nth ocX11_when_1 (k := 12) rfl
theorem dX11_when_71 : decode cX11_when 71 = .ok (.iconst (-1), 1) := chk_nth ocX11_when_1 (k := 13) rfl
theorem dX11_when_72 : decode cX11_when 72 = .ok (.if_icmp .eq 10, 3) := chk_nth ocX11_when_1 (k := 14) rfl
theorem dX11_when_75 : decode cX11_when 75 = .ok (.iload_n 3, 1) := chk_nth ocX11_when_1 (k := 15) rfl
theorem dX11_when_76 : decode cX11_when 76 = .ok (.iconst 1, 1) := chk_nth ocX11_when_1 (k := 16) rfl
theorem dX11_when_77 : decode cX11_when 77 = .ok (.iload 4, 2) := chk_nth ocX11_when_1 (k := 17) rfl
theorem dX11_when_79 : decode cX11_when 79 = .ok (.ishl, 1) := chk_nth ocX11_when_1 (k := 18) rfl
theorem dX11_when_80 : decode cX11_when 80 = .ok (.ior, 1) := chk_nth ocX11_when_1 (k := 19) rfl
theorem dX11_when_81 : decode cX11_when 81 = .ok (.istore_n 3, 1) := chk_nth ocX11_when_1 (k := 20) rfl
theorem dX11_when_82 : decode cX11_when 82 = .ok (.iinc 4 1, 3) := chk_nth ocX11_when_1 (k := 21) rfl
theorem dX11_when_85 : decode cX11_when 85 = .ok (.goto (-35), 3) := chk_nth ocX11_when_1 (k := 22) rfl
theorem dX11_when_88 : decode cX11_when 88 = .ok (.iload_n 3, 1) := chk_nth ocX11_when_1 (k := 23) rfl
def tcX11_when_2 : List (Instr × Nat) := [(.ireturn, 1)]
theorem ocX11_when_2 : chk (cX11_when.data.toList.drop 89) tcX11_when_2 = true := by decide +kernel
theorem dX11_when_89 : decode cX11_when 89 = .ok (.ireturn, 1) := chk_nth ocX11_when_2 (k := 0) rfl
def tcX11_bound_0 : List (Instr × Nat) := [(.aload_n 0, 1), (.getfield 12, 3), (.iload_n 1, 1), (.invokevirtual 148, 3), (.ifCond .eq 12, 3), (.iload_n 2, 1), (.ifCond .lt 8, 3), (.iload_n 2, 1), (.iconst 1, 1), (.if_icmp .le 6, 3), (.bipush (-2), 2), (.ireturn, 1), (.aload_n 0, 1), (.getfield 62, 3), (.iload_n 1, 1), (.aload_n 0, 1), (.getfield 20, 3), (.iload_n 1, 1), (.invokevirtual 163, 3), (.aload_n 0, 1), (.getfield 20, 3), (.invokevirtual 256, 3), (.aload_n 0, 1), (.getfield 20, 3)]
theorem ocX11_bound_0 : chk (cX11_bound.data.toList.drop 0) tcX11_bound_0 = true := by decide +kernel
theorem dX11_bound_0 : decode cX11_bound 0 = .ok (.aload_n 0, 1) := chk_nth ocX11_bound_0 (k := 0) rfl
theorem dX11_bound_1 : decode cX11_bound 1 = .ok (.getfield 12, 3) := chk_nth ocX11_bound_0 (k := 1) rfl
theorem dX11_bound_4 : decode cX11_bound 4 = .ok (.iload_n 1, 1) := chk_nth ocX11_bound_0 (k := 2) rfl
theorem dX11_bound_5 : decode cX11_bound 5 = .ok (.invokevirtual 148, 3) := chk_nth ocX11_bound_0 (k := 3) rfl
theorem dX11_bound_8 : decode cX11_bound 8 = .ok (.ifCond .eq 12, 3) := chk_nth ocX11_bound_0 (k := 4) rfl
theorem dX11_bound_11 : decode cX11_bound 11 = .ok (.iload_n 2, 1) := chk_nth ocX11_bound_0 (k := 5) rfl
theorem dX11_bound_12 : decode cX11_bound 12 = .ok (.ifCond .lt 8, 3) := chk_nth ocX11_bound_0 (k := 6) rfl
theorem dX11_bound_15 : decode cX11_bound 15 = .ok (.iload_n 2, 1) := chk_nth ocX11_bound_0 (k := 7) rfl
theorem dX11_bound_16 : decode cX11_bound 16 = .ok (.iconst 1, 1) := chk_nth ocX11_bound_0 (k := 8) rfl
theorem dX11_bound_17 : decode cX11_bound 17 = .ok (.if_icmp .le 6, 3) := chk_nth ocX11_bound_0 (k := 9) rfl
theorem dX11_bound_20 : decode cX11_bound 20 = .ok (.bipush (-2), 2) := chk_nth ocX11_bound_0 (k := 10) rfl
theorem dX11_bound_22 : decode cX11_bound 22 = .ok (.ireturn, 1) := chk_nth ocX11_bound_0 (k := 11) rfl
theorem dX11_bound_23 : decode cX11_bound 23 = .ok (.aload_n 0, 1) := chk_nth ocX11_bound_0 (k := 12) rfl
theorem dX11_bound_24 : decode cX11_bound 24 = .ok (.getfield 62, 3) := chk_nth ocX11_bound_0 (k := 13) rfl
theorem dX11_bound_27 : decode cX11_bound 27 = .ok (.iload_n 1, 1) := chk_nth ocX11_bound_0 (k := 14) rfl
theorem dX11_bound_28 : decode cX11_bound 28 = .ok (.aload_n 0, 1) := chk_nth ocX11_bound_0 (k := 15) rfl
theorem dX11_bound_29 : decode cX11_bound 29 = .ok (.getfield 20, 3) := chk_nth ocX11_bound_0 (k := 16) rfl
theorem dX11_bound_32 : decode cX11_bound 32 = .ok (.iload_n 1, 1) := chk_nth ocX11_bound_0 (k := 17) rfl
theorem dX11_bound_33 : decode cX11_bound 33 = .ok (.invokevirtual 163, 3) := chk_nth ocX11_bound_0 (k := 18) rfl
theorem dX11_bound_36 : decode cX11_bound 36 = .ok (.aload_n 0, 1) := chk_nth ocX11_bound_0 (k := 19) rfl
theorem dX11_bound_37 : decode cX11_bound 37 = .ok (.getfield 20, 3) := chk_nth ocX11_bound_0 (k := 20) rfl
theorem dX11_bound_40 : decode cX11_bound 40 = .ok (.invokevirtual 256, 3) := chk_nth ocX11_bound_0 (k := 21) rfl
theorem dX11_bound_43 : decode cX11_bound 43 = .ok (.aload_n 0, 1) := chk_nth ocX11_bound_0 (k := 22) rfl
theorem dX11_bound_44 : decode cX11_bound 44 = .ok (.getfield 20, 3) := chk_nth ocX11_bound_0 (k := 23) rfl
def tcX11_bound_1 : List (Instr × Nat) := [(.iload_n 1, 1), (.invokevirtual 154, 3), (.istore_n 3, 1), (.iconst 0, 1), (.istore 4, 2), (.iload 4, 2), (.aload_n 0, 1), (.getfield 62, 3), (.getfield 260, 3), (.if_icmp .ge 43, 3), (.aload_n 0, 1), (.getfield 62, 3), (.iload 4, 2), (.invokevirtual 263, 3), (.bipush 20, 2), (.irem, 1), (.istore 5, 2), (.iload_n 2, 1), (.ifCond .ne 12, 3), (.iload_n 3, 1), (.iload 5, 2), (.invokestatic 266, 3), (.goto 9, 3), (.iload_n 3, 1)]
theorem ocX11_bound_1 : chk (cX11_bound.data.toList.drop 47) tcX11_bound_1 = true := by decide +kernel
theorem dX11_bound_47 : decode cX11_bound 47 = .ok (.iload_n 1, 1) := chk_nth ocX11_bound_1 (k := 0) rfl
theorem dX11_bound_48 : decode cX11_bound 48 = .ok (.invokevirtual 154, 3) := chk_nth ocX11_bound_1 (k := 1) rfl
theorem dX11_bound_51 : decode cX11_bound 51 = .ok (.istore_n 3, 1) := chk_nth ocX11_bound_1 (k := 2) rfl
theorem dX11_bound_52 : decode cX11_bound 52 = .ok (.iconst 0, 1) := chk_nth ocX11_bound_1 (k := 3) rfl
theorem dX11_bound_53 : decode cX11_bound 53 = .ok (.istore 4, 2) := chk_nth ocX11_bound_1 (k := 4) rfl
theorem dX11_bound_55 : decode cX11_bound 55 = .ok (.iload 4, 2) := chk_nth ocX11_bound_1 (k := 5) rfl
theorem dX11_bound_57 : decode cX11_bound 57 = .ok (.aload_n 0, 1) := chk_nth ocX11_bound_1 (k := 6) rfl
theorem dX11_bound_58 : decode cX11_bound 58 = .ok (.getfield 62, 3) := chk_nth ocX11_bound_1 (k := 7) rfl
theorem dX11_bound_61 : decode cX11_bound 61 = .ok (.getfield 260, 3) := chk_nth ocX11_bound_1 (k := 8) rfl
theorem dX11_bound_64 : decode cX11_bound 64 = .ok (.if_icmp .ge 43, 3) := chk_nth ocX11_bound_1 (k := 9) rfl
theorem dX11_bound_67 : decode cX11_bound 67 = .ok (.aload_n 0, 1) := chk_nth ocX11_bound_1 (k := 10) rfl
theorem dX11_bound_68 : decode cX11_bound 68 = .ok (.getfield 62, 3) := chk_nth ocX11_bound_1 (k := 11) rfl
theorem dX11_bound_71 : decode cX11_bound 71 = .ok (.iload 4, 2) := chk_nth ocX11_bound_1 (k := 12) rfl
theorem dX11_bound_73 : decode cX11_bound 73 = .ok (.invokevirtual 263, 3) := chk_nth ocX11_bound_1 (k := 13) rfl
theorem dX11_bound_76 : decode cX11_bound 76 = .ok (.bipush 20, 2) := chk_nth ocX11_bound_1 (k := 14) rfl
theorem dX11_bound_78 : decode cX11_bound 78 = .ok (.irem, 1) := chk_nth ocX11_bound_1 (k := 15) rfl
theorem dX11_bound_79 : decode cX11_bound 79 = .ok (.istore 5, 2) := chk_nth ocX11_bound_1 (k := 16) rfl
theorem dX11_bound_81 : decode cX11_bound 81 = .ok (.iload_n 2, 1) := chk_nth ocX11_bound_1 (k := 17) rfl
theorem dX11_bound_82 : decode cX11_bound 82 = .ok (.ifCond .ne 12, 3) := chk_nth ocX11_bound_1 (k := 18) rfl
theorem dX11_bound_85 : decode cX11_bound 85 = .ok (.iload_n 3, 1) := chk_nth ocX11_bound_1 (k := 19) rfl
theorem dX11_bound_86 : decode cX11_bound 86 = .ok (.iload 5, 2) := chk_nth ocX11_bound_1 (k := 20) rfl
theorem dX11_bound_88 : decode cX11_bound 88 = .ok (.invokestatic 266, 3) := chk_nth ocX11_bound_1 (k := 21) rfl
theorem dX11_bound_91 : decode cX11_bound 91 = .ok (.goto 9, 3) := chk_nth ocX11_bound_1 (k := 22) rfl
theorem dX11_bound_94 : decode cX11_bound 94 = .ok (.iload_n 3, 1) := chk_nth ocX11_bound_1 (k := 23) rfl
def tcX11_bound_2 : List (Instr × Nat) := [(.iload 5, 2), (.invokestatic 271, 3), (.istore_n 3, 1), (.iinc 4 1, 3), (.goto (-49), 3), (.iload_n 3, 1), (.ireturn, 1)]
theorem ocX11_bound_2 : chk (cX11_bound.data.toList.drop 95) tcX11_bound_2 = true := by decide +kernel
theorem dX11_bound_95 : decode cX11_bound 95 = .ok (.iload 5, 2) := chk_nth ocX11_bound_2 (k := 0) rfl
theorem dX11_bound_97 : decode cX11_bound 97 = .ok (.invokestatic 271, 3) := chk_nth ocX11_bound_2 (k := 1) rfl
theorem dX11_bound_100 : decode cX11_bound 100 = .ok (.istore_n 3, 1) := chk_nth ocX11_bound_2 (k := 2) rfl
theorem dX11_bound_101 : decode cX11_bound 101 = .ok (.iinc 4 1, 3) := chk_nth ocX11_bound_2 (k := 3) rfl
theorem dX11_bound_104 : decode cX11_bound 104 = .ok (.goto (-49), 3) := chk_nth ocX11_bound_2 (k := 4) rfl
theorem dX11_bound_107 : decode cX11_bound 107 = .ok (.iload_n 3, 1) := chk_nth ocX11_bound_2 (k := 5) rfl
theorem dX11_bound_108 : decode cX11_bound 108 = .ok (.ireturn, 1) := chk_nth ocX11_bound_2 (k := 6) rfl
def tcX11_reach_0 : List (Instr × Nat) := [(.aload_n 0, 1), (.getfield 12, 3), (.iload_n 1, 1), (.invokevirtual 148, 3), (.ifCond .ne 6, 3), (.bipush (-2), 2), (.ireturn, 1), (.aload_n 0, 1), (.getfield 62, 3), (.iload_n 1, 1), (.aload_n 0, 1), (.getfield 20, 3), (.iload_n 1, 1), (.invokevirtual 163, 3), (.aload_n 0, 1), (.getfield 20, 3), (.invokevirtual 256, 3), (.iconst 0, 1), (.istore_n 2, 1), (.iconst 0, 1), (.istore_n 3, 1), (.iload_n 3, 1), (.aload_n 0, 1), (.getfield 62, 3)]
theorem ocX11_reach_0 : chk (cX11_reach.data.toList.drop 0) tcX11_reach_0 = true := by decide +kernel
theorem dX11_reach_0 : decode cX11_reach 0 = .ok (.aload_n 0, 1) := chk_nth ocX11_reach_0 (k := 0) rfl
theorem dX11_reach_1 : decode cX11_reach 1 = .ok (.getfield 12, 3) := chk_nth ocX11_reach_0 (k := 1) rfl
theorem dX11_reach_4 : decode cX11_reach 4 = .ok (.iload_n 1, 1) := chk_nth ocX11_reach_0 (k := 2) rfl
theorem dX11_reach_5 : decode cX11_reach 5 = .ok (.invokevirtual 148, 3) := chk_nth ocX11_reach_0 (k := 3) rfl
theorem dX11_reach_8 : decode cX11_reach 8 = .ok (.ifCond .ne 6, 3) := chk_nth ocX11_reach_0 (k := 4) rfl
theorem dX11_reach_11 : decode cX11_reach 11 = .ok (.bipush (-2), 2) := chk_nth ocX11_reach_0 (k := 5) rfl
theorem dX11_reach_13 : decode cX11_reach 13 = .ok (.ireturn, 1) := chk_nth ocX11_reach_0 (k := 6) rfl
theorem dX11_reach_14 : decode cX11_reach 14 = .ok (.aload_n 0, 1) := chk_nth ocX11_reach_0 (k := 7) rfl
theorem dX11_reach_15 : decode cX11_reach 15 = .ok (.getfield 62, 3) := chk_nth ocX11_reach_0 (k := 8) rfl
theorem dX11_reach_18 : decode cX11_reach 18 = .ok (.iload_n 1, 1) := chk_nth ocX11_reach_0 (k := 9) rfl
theorem dX11_reach_19 : decode cX11_reach 19 = .ok (.aload_n 0, 1) := chk_nth ocX11_reach_0 (k := 10) rfl
theorem dX11_reach_20 : decode cX11_reach 20 = .ok (.getfield 20, 3) := chk_nth ocX11_reach_0 (k := 11) rfl
theorem dX11_reach_23 : decode cX11_reach 23 = .ok (.iload_n 1, 1) := chk_nth ocX11_reach_0 (k := 12) rfl
theorem dX11_reach_24 : decode cX11_reach 24 = .ok (.invokevirtual 163, 3) := chk_nth ocX11_reach_0 (k := 13) rfl
theorem dX11_reach_27 : decode cX11_reach 27 = .ok (.aload_n 0, 1) := chk_nth ocX11_reach_0 (k := 14) rfl
theorem dX11_reach_28 : decode cX11_reach 28 = .ok (.getfield 20, 3) := chk_nth ocX11_reach_0 (k := 15) rfl
theorem dX11_reach_31 : decode cX11_reach 31 = .ok (.invokevirtual 256, 3) := chk_nth ocX11_reach_0 (k := 16) rfl
theorem dX11_reach_34 : decode cX11_reach 34 = .ok (.iconst 0, 1) := chk_nth ocX11_reach_0 (k := 17) rfl
theorem dX11_reach_35 : decode cX11_reach 35 = .ok (.istore_n 2, 1) := chk_nth ocX11_reach_0 (k := 18) rfl
theorem dX11_reach_36 : decode cX11_reach 36 = .ok (.iconst 0, 1) := chk_nth ocX11_reach_0 (k := 19) rfl
theorem dX11_reach_37 : decode cX11_reach 37 = .ok (.istore_n 3, 1) := chk_nth ocX11_reach_0 (k := 20) rfl
theorem dX11_reach_38 : decode cX11_reach 38 = .ok (.iload_n 3, 1) := chk_nth ocX11_reach_0 (k := 21) rfl
theorem dX11_reach_39 : decode cX11_reach 39 = .ok (.aload_n 0, 1) := chk_nth ocX11_reach_0 (k := 22) rfl
theorem dX11_reach_40 : decode cX11_reach 40 = .ok (.getfield 62, 3) := chk_nth ocX11_reach_0 (k := 23) rfl
def tcX11_reach_1 : List (Instr × Nat) := [(.getfield 260, 3), (.if_icmp .ge 25, 3), (.iload_n 2, 1), (.iconst 1, 1), (.aload_n 0, 1), (.getfield 62, 3), (.iload_n 3, 1), (.invokevirtual 263, 3), (.bipush 20, 2), (.idiv, 1), (.ishl, 1), (.ior, 1), (.istore_n 2, 1), (.iinc 3 1, 3), (.goto (-30), 3), (.iload_n 2, 1), (.ireturn, 1)]
theorem ocX11_reach_1 : chk (cX11_reach.data.toList.drop 43) tcX11_reach_1 = true := by decide +kernel
theorem dX11_reach_43 : decode cX11_reach 43 = .ok (.getfield 260, 3) := chk_nth ocX11_reach_1 (k := 0) rfl
theorem dX11_reach_46 : decode cX11_reach 46 = .ok (.if_icmp .ge 25, 3) := chk_nth ocX11_reach_1 (k := 1) rfl
theorem dX11_reach_49 : decode cX11_reach 49 = .ok (.iload_n 2, 1) := chk_nth ocX11_reach_1 (k := 2) rfl
theorem dX11_reach_50 : decode cX11_reach 50 = .ok (.iconst 1, 1) := chk_nth ocX11_reach_1 (k := 3) rfl
theorem dX11_reach_51 : decode cX11_reach 51 = .ok (.aload_n 0, 1) := chk_nth ocX11_reach_1 (k := 4) rfl
theorem dX11_reach_52 : decode cX11_reach 52 = .ok (.getfield 62, 3) := chk_nth ocX11_reach_1 (k := 5) rfl
theorem dX11_reach_55 : decode cX11_reach 55 = .ok (.iload_n 3, 1) := chk_nth ocX11_reach_1 (k := 6) rfl
theorem dX11_reach_56 : decode cX11_reach 56 = .ok (.invokevirtual 263, 3) := chk_nth ocX11_reach_1 (k := 7) rfl
theorem dX11_reach_59 : decode cX11_reach 59 = .ok (.bipush 20, 2) := chk_nth ocX11_reach_1 (k := 8) rfl
theorem dX11_reach_61 : decode cX11_reach 61 = .ok (.idiv, 1) := chk_nth ocX11_reach_1 (k := 9) rfl
theorem dX11_reach_62 : decode cX11_reach 62 = .ok (.ishl, 1) := chk_nth ocX11_reach_1 (k := 10) rfl
theorem dX11_reach_63 : decode cX11_reach 63 = .ok (.ior, 1) := chk_nth ocX11_reach_1 (k := 11) rfl
theorem dX11_reach_64 : decode cX11_reach 64 = .ok (.istore_n 2, 1) := chk_nth ocX11_reach_1 (k := 12) rfl
theorem dX11_reach_65 : decode cX11_reach 65 = .ok (.iinc 3 1, 3) := chk_nth ocX11_reach_1 (k := 13) rfl
theorem dX11_reach_68 : decode cX11_reach 68 = .ok (.goto (-30), 3) := chk_nth ocX11_reach_1 (k := 14) rfl
theorem dX11_reach_71 : decode cX11_reach 71 = .ok (.iload_n 2, 1) := chk_nth ocX11_reach_1 (k := 15) rfl
theorem dX11_reach_72 : decode cX11_reach 72 = .ok (.ireturn, 1) := chk_nth ocX11_reach_1 (k := 16) rfl
def tcX11_meet_0 : List (Instr × Nat) := [(.aload_n 0, 1), (.iload_n 1, 1), (.iload_n 2, 1), (.invokevirtual 274, 3), (.ifCond .ne 6, 3), (.bipush (-2), 2), (.ireturn, 1), (.aload_n 0, 1), (.aload_n 0, 1), (.iload_n 1, 1), (.iload_n 2, 1), (.invokevirtual 278, 3), (.invokevirtual 281, 3), (.ireturn, 1)]
theorem ocX11_meet_0 : chk (cX11_meet.data.toList.drop 0) tcX11_meet_0 = true := by decide +kernel
theorem dX11_meet_0 : decode cX11_meet 0 = .ok (.aload_n 0, 1) := chk_nth ocX11_meet_0 (k := 0) rfl
theorem dX11_meet_1 : decode cX11_meet 1 = .ok (.iload_n 1, 1) := chk_nth ocX11_meet_0 (k := 1) rfl
theorem dX11_meet_2 : decode cX11_meet 2 = .ok (.iload_n 2, 1) := chk_nth ocX11_meet_0 (k := 2) rfl
theorem dX11_meet_3 : decode cX11_meet 3 = .ok (.invokevirtual 274, 3) := chk_nth ocX11_meet_0 (k := 3) rfl
theorem dX11_meet_6 : decode cX11_meet 6 = .ok (.ifCond .ne 6, 3) := chk_nth ocX11_meet_0 (k := 4) rfl
theorem dX11_meet_9 : decode cX11_meet 9 = .ok (.bipush (-2), 2) := chk_nth ocX11_meet_0 (k := 5) rfl
theorem dX11_meet_11 : decode cX11_meet 11 = .ok (.ireturn, 1) := chk_nth ocX11_meet_0 (k := 6) rfl
theorem dX11_meet_12 : decode cX11_meet 12 = .ok (.aload_n 0, 1) := chk_nth ocX11_meet_0 (k := 7) rfl
theorem dX11_meet_13 : decode cX11_meet 13 = .ok (.aload_n 0, 1) := chk_nth ocX11_meet_0 (k := 8) rfl
theorem dX11_meet_14 : decode cX11_meet 14 = .ok (.iload_n 1, 1) := chk_nth ocX11_meet_0 (k := 9) rfl
theorem dX11_meet_15 : decode cX11_meet 15 = .ok (.iload_n 2, 1) := chk_nth ocX11_meet_0 (k := 10) rfl
theorem dX11_meet_16 : decode cX11_meet 16 = .ok (.invokevirtual 278, 3) := chk_nth ocX11_meet_0 (k := 11) rfl
theorem dX11_meet_19 : decode cX11_meet 19 = .ok (.invokevirtual 281, 3) := chk_nth ocX11_meet_0 (k := 12) rfl
theorem dX11_meet_22 : decode cX11_meet 22 = .ok (.ireturn, 1) := chk_nth ocX11_meet_0 (k := 13) rfl
def tcX11_meetAt_0 : List (Instr × Nat) := [(.aload_n 0, 1), (.iload_n 1, 1), (.iload_n 2, 1), (.invokevirtual 274, 3), (.ifCond .eq 12, 3), (.iload_n 3, 1), (.ifCond .lt 8, 3), (.iload_n 3, 1), (.iconst 1, 1), (.if_icmp .le 6, 3), (.bipush (-2), 2), (.ireturn, 1), (.aload_n 0, 1), (.iload_n 1, 1), (.iload_n 2, 1), (.invokevirtual 278, 3), (.istore 4, 2), (.iload 4, 2), (.iconst (-1), 1), (.if_icmp .ne 5, 3), (.iconst (-1), 1), (.ireturn, 1), (.iload_n 3, 1), (.ifCond .ne 11, 3)]
theorem ocX11_meetAt_0 : chk (cX11_meetAt.data.toList.drop 0) tcX11_meetAt_0 = true := by decide +kernel
theorem dX11_meetAt_0 : decode cX11_meetAt 0 = .ok (.aload_n 0, 1) := chk_nth ocX11_meetAt_0 (k := 0) rfl
theorem dX11_meetAt_1 : decode cX11_meetAt 1 = .ok (.iload_n 1, 1) := chk_nth ocX11_meetAt_0 (k := 1) rfl
theorem dX11_meetAt_2 : decode cX11_meetAt 2 = .ok (.iload_n 2, 1) := chk_nth ocX11_meetAt_0 (k := 2) rfl
theorem dX11_meetAt_3 : decode cX11_meetAt 3 = .ok (.invokevirtual 274, 3) := chk_nth ocX11_meetAt_0 (k := 3) rfl
theorem dX11_meetAt_6 : decode cX11_meetAt 6 = .ok (.ifCond .eq 12, 3) := chk_nth ocX11_meetAt_0 (k := 4) rfl
theorem dX11_meetAt_9 : decode cX11_meetAt 9 = .ok (.iload_n 3, 1) := chk_nth ocX11_meetAt_0 (k := 5) rfl
theorem dX11_meetAt_10 : decode cX11_meetAt 10 = .ok (.ifCond .lt 8, 3) := chk_nth ocX11_meetAt_0 (k := 6) rfl
theorem dX11_meetAt_13 : decode cX11_meetAt 13 = .ok (.iload_n 3, 1) := chk_nth ocX11_meetAt_0 (k := 7) rfl
theorem dX11_meetAt_14 : decode cX11_meetAt 14 = .ok (.iconst 1, 1) := chk_nth ocX11_meetAt_0 (k := 8) rfl
theorem dX11_meetAt_15 : decode cX11_meetAt 15 = .ok (.if_icmp .le 6, 3) := chk_nth ocX11_meetAt_0 (k := 9) rfl
theorem dX11_meetAt_18 : decode cX11_meetAt 18 = .ok (.bipush (-2), 2) := chk_nth ocX11_meetAt_0 (k := 10) rfl
theorem dX11_meetAt_20 : decode cX11_meetAt 20 = .ok (.ireturn, 1) := chk_nth ocX11_meetAt_0 (k := 11) rfl
theorem dX11_meetAt_21 : decode cX11_meetAt 21 = .ok (.aload_n 0, 1) := chk_nth ocX11_meetAt_0 (k := 12) rfl
theorem dX11_meetAt_22 : decode cX11_meetAt 22 = .ok (.iload_n 1, 1) := chk_nth ocX11_meetAt_0 (k := 13) rfl
theorem dX11_meetAt_23 : decode cX11_meetAt 23 = .ok (.iload_n 2, 1) := chk_nth ocX11_meetAt_0 (k := 14) rfl
theorem dX11_meetAt_24 : decode cX11_meetAt 24 = .ok (.invokevirtual 278, 3) := chk_nth ocX11_meetAt_0 (k := 15) rfl
theorem dX11_meetAt_27 : decode cX11_meetAt 27 = .ok (.istore 4, 2) := chk_nth ocX11_meetAt_0 (k := 16) rfl
theorem dX11_meetAt_29 : decode cX11_meetAt 29 = .ok (.iload 4, 2) := chk_nth ocX11_meetAt_0 (k := 17) rfl
theorem dX11_meetAt_31 : decode cX11_meetAt 31 = .ok (.iconst (-1), 1) := chk_nth ocX11_meetAt_0 (k := 18) rfl
theorem dX11_meetAt_32 : decode cX11_meetAt 32 = .ok (.if_icmp .ne 5, 3) := chk_nth ocX11_meetAt_0 (k := 19) rfl
theorem dX11_meetAt_35 : decode cX11_meetAt 35 = .ok (.iconst (-1), 1) := chk_nth ocX11_meetAt_0 (k := 20) rfl
theorem dX11_meetAt_36 : decode cX11_meetAt 36 = .ok (.ireturn, 1) := chk_nth ocX11_meetAt_0 (k := 21) rfl
theorem dX11_meetAt_37 : decode cX11_meetAt 37 = .ok (.iload_n 3, 1) := chk_nth ocX11_meetAt_0 (k := 22) rfl
theorem dX11_meetAt_38 : decode cX11_meetAt 38 = .ok (.ifCond .ne 11, 3) := chk_nth ocX11_meetAt_0 (k := 23) rfl
def tcX11_meetAt_1 : List (Instr × Nat) := [(.iload 4, 2), (.bipush 20, 2), (.idiv, 1), (.goto 8, 3), (.iload 4, 2), (.bipush 20, 2), (.irem, 1), (.ireturn, 1)]
theorem ocX11_meetAt_1 : chk (cX11_meetAt.data.toList.drop 41) tcX11_meetAt_1 = true := by decide +kernel
theorem dX11_meetAt_41 : decode cX11_meetAt 41 = .ok (.iload 4, 2) := chk_nth ocX11_meetAt_1 (k := 0) rfl
theorem dX11_meetAt_43 : decode cX11_meetAt 43 = .ok (.bipush 20, 2) := chk_nth ocX11_meetAt_1 (k := 1) rfl
theorem dX11_meetAt_45 : decode cX11_meetAt 45 = .ok (.idiv, 1) := chk_nth ocX11_meetAt_1 (k := 2) rfl
theorem dX11_meetAt_46 : decode cX11_meetAt 46 = .ok (.goto 8, 3) := chk_nth ocX11_meetAt_1 (k := 3) rfl
theorem dX11_meetAt_49 : decode cX11_meetAt 49 = .ok (.iload 4, 2) := chk_nth ocX11_meetAt_1 (k := 4) rfl
theorem dX11_meetAt_51 : decode cX11_meetAt 51 = .ok (.bipush 20, 2) := chk_nth ocX11_meetAt_1 (k := 5) rfl
theorem dX11_meetAt_53 : decode cX11_meetAt 53 = .ok (.irem, 1) := chk_nth ocX11_meetAt_1 (k := 6) rfl
theorem dX11_meetAt_54 : decode cX11_meetAt 54 = .ok (.ireturn, 1) := chk_nth ocX11_meetAt_1 (k := 7) rfl
def tcX11_areTwo_0 : List (Instr × Nat) := [(.aload_n 0, 1), (.getfield 12, 3), (.iload_n 1, 1), (.invokevirtual 148, 3), (.ifCond .eq 23, 3), (.aload_n 0, 1), (.getfield 12, 3), (.iload_n 2, 1), (.invokevirtual 148, 3), (.ifCond .eq 12, 3), (.iload_n 1, 1), (.iload_n 2, 1), (.if_icmp .eq 7, 3), (.iconst 1, 1), (.goto 4, 3), (.iconst 0, 1), (.ireturn, 1)]
theorem ocX11_areTwo_0 : chk (cX11_areTwo.data.toList.drop 0) tcX11_areTwo_0 = true := by decide +kernel
theorem dX11_areTwo_0 : decode cX11_areTwo 0 = .ok (.aload_n 0, 1) := chk_nth ocX11_areTwo_0 (k := 0) rfl
theorem dX11_areTwo_1 : decode cX11_areTwo 1 = .ok (.getfield 12, 3) := chk_nth ocX11_areTwo_0 (k := 1) rfl
theorem dX11_areTwo_4 : decode cX11_areTwo 4 = .ok (.iload_n 1, 1) := chk_nth ocX11_areTwo_0 (k := 2) rfl
theorem dX11_areTwo_5 : decode cX11_areTwo 5 = .ok (.invokevirtual 148, 3) := chk_nth ocX11_areTwo_0 (k := 3) rfl
theorem dX11_areTwo_8 : decode cX11_areTwo 8 = .ok (.ifCond .eq 23, 3) := chk_nth ocX11_areTwo_0 (k := 4) rfl
theorem dX11_areTwo_11 : decode cX11_areTwo 11 = .ok (.aload_n 0, 1) := chk_nth ocX11_areTwo_0 (k := 5) rfl
theorem dX11_areTwo_12 : decode cX11_areTwo 12 = .ok (.getfield 12, 3) := chk_nth ocX11_areTwo_0 (k := 6) rfl
theorem dX11_areTwo_15 : decode cX11_areTwo 15 = .ok (.iload_n 2, 1) := chk_nth ocX11_areTwo_0 (k := 7) rfl
theorem dX11_areTwo_16 : decode cX11_areTwo 16 = .ok (.invokevirtual 148, 3) := chk_nth ocX11_areTwo_0 (k := 8) rfl
theorem dX11_areTwo_19 : decode cX11_areTwo 19 = .ok (.ifCond .eq 12, 3) := chk_nth ocX11_areTwo_0 (k := 9) rfl
theorem dX11_areTwo_22 : decode cX11_areTwo 22 = .ok (.iload_n 1, 1) := chk_nth ocX11_areTwo_0 (k := 10) rfl
theorem dX11_areTwo_23 : decode cX11_areTwo 23 = .ok (.iload_n 2, 1) := chk_nth ocX11_areTwo_0 (k := 11) rfl
theorem dX11_areTwo_24 : decode cX11_areTwo 24 = .ok (.if_icmp .eq 7, 3) := chk_nth ocX11_areTwo_0 (k := 12) rfl
theorem dX11_areTwo_27 : decode cX11_areTwo 27 = .ok (.iconst 1, 1) := chk_nth ocX11_areTwo_0 (k := 13) rfl
theorem dX11_areTwo_28 : decode cX11_areTwo 28 = .ok (.goto 4, 3) := chk_nth ocX11_areTwo_0 (k := 14) rfl
theorem dX11_areTwo_31 : decode cX11_areTwo 31 = .ok (.iconst 0, 1) := chk_nth ocX11_areTwo_0 (k := 15) rfl
theorem dX11_areTwo_32 : decode cX11_areTwo 32 = .ok (.ireturn, 1) := chk_nth ocX11_areTwo_0 (k := 16) rfl
def tcX11_meetingSpot_0 : List (Instr × Nat) := [(.aload_n 0, 1), (.getfield 62, 3), (.iload_n 1, 1), (.aload_n 0, 1), (.getfield 20, 3), (.iload_n 1, 1), (.invokevirtual 163, 3), (.aload_n 0, 1), (.getfield 20, 3), (.invokevirtual 256, 3), (.aload_n 0, 1), (.getfield 66, 3), (.iload_n 2, 1), (.aload_n 0, 1), (.getfield 20, 3), (.iload_n 2, 1), (.invokevirtual 163, 3), (.aload_n 0, 1), (.getfield 20, 3), (.invokevirtual 256, 3), (.iconst (-1), 1), (.istore_n 3, 1), (.iconst 0, 1), (.istore 4, 2)]
theorem ocX11_meetingSpot_0 : chk (cX11_meetingSpot.data.toList.drop 0) tcX11_meetingSpot_0 = true := by decide +kernel
theorem dX11_meetingSpot_0 : decode cX11_meetingSpot 0 = .ok (.aload_n 0, 1) := chk_nth ocX11_meetingSpot_0 (k := 0) rfl
theorem dX11_meetingSpot_1 : decode cX11_meetingSpot 1 = .ok (.getfield 62, 3) := chk_nth ocX11_meetingSpot_0 (k := 1) rfl
theorem dX11_meetingSpot_4 : decode cX11_meetingSpot 4 = .ok (.iload_n 1, 1) := chk_nth ocX11_meetingSpot_0 (k := 2) rfl
theorem dX11_meetingSpot_5 : decode cX11_meetingSpot 5 = .ok (.aload_n 0, 1) := chk_nth ocX11_meetingSpot_0 (k := 3) rfl
theorem dX11_meetingSpot_6 : decode cX11_meetingSpot 6 = .ok (.getfield 20, 3) := chk_nth ocX11_meetingSpot_0 (k := 4) rfl
theorem dX11_meetingSpot_9 : decode cX11_meetingSpot 9 = .ok (.iload_n 1, 1) := chk_nth ocX11_meetingSpot_0 (k := 5) rfl
theorem dX11_meetingSpot_10 : decode cX11_meetingSpot 10 = .ok (.invokevirtual 163, 3) := chk_nth ocX11_meetingSpot_0 (k := 6) rfl
theorem dX11_meetingSpot_13 : decode cX11_meetingSpot 13 = .ok (.aload_n 0, 1) := chk_nth ocX11_meetingSpot_0 (k := 7) rfl
theorem dX11_meetingSpot_14 : decode cX11_meetingSpot 14 = .ok (.getfield 20, 3) := chk_nth ocX11_meetingSpot_0 (k := 8) rfl
theorem dX11_meetingSpot_17 : decode cX11_meetingSpot 17 = .ok (.invokevirtual 256, 3) := chk_nth ocX11_meetingSpot_0 (k := 9) rfl
theorem dX11_meetingSpot_20 : decode cX11_meetingSpot 20 = .ok (.aload_n 0, 1) := chk_nth ocX11_meetingSpot_0 (k := 10) rfl
theorem dX11_meetingSpot_21 : decode cX11_meetingSpot 21 = .ok (.getfield 66, 3) := chk_nth ocX11_meetingSpot_0 (k := 11) rfl
theorem dX11_meetingSpot_24 : decode cX11_meetingSpot 24 = .ok (.iload_n 2, 1) := chk_nth ocX11_meetingSpot_0 (k := 12) rfl
theorem dX11_meetingSpot_25 : decode cX11_meetingSpot 25 = .ok (.aload_n 0, 1) := chk_nth ocX11_meetingSpot_0 (k := 13) rfl
theorem dX11_meetingSpot_26 : decode cX11_meetingSpot 26 = .ok (.getfield 20, 3) := chk_nth ocX11_meetingSpot_0 (k := 14) rfl
theorem dX11_meetingSpot_29 : decode cX11_meetingSpot 29 = .ok (.iload_n 2, 1) := chk_nth ocX11_meetingSpot_0 (k := 15) rfl
theorem dX11_meetingSpot_30 : decode cX11_meetingSpot 30 = .ok (.invokevirtual 163, 3) := chk_nth ocX11_meetingSpot_0 (k := 16) rfl
theorem dX11_meetingSpot_33 : decode cX11_meetingSpot 33 = .ok (.aload_n 0, 1) := chk_nth ocX11_meetingSpot_0 (k := 17) rfl
theorem dX11_meetingSpot_34 : decode cX11_meetingSpot 34 = .ok (.getfield 20, 3) := chk_nth ocX11_meetingSpot_0 (k := 18) rfl
theorem dX11_meetingSpot_37 : decode cX11_meetingSpot 37 = .ok (.invokevirtual 256, 3) := chk_nth ocX11_meetingSpot_0 (k := 19) rfl
theorem dX11_meetingSpot_40 : decode cX11_meetingSpot 40 = .ok (.iconst (-1), 1) := chk_nth ocX11_meetingSpot_0 (k := 20) rfl
theorem dX11_meetingSpot_41 : decode cX11_meetingSpot 41 = .ok (.istore_n 3, 1) := chk_nth ocX11_meetingSpot_0 (k := 21) rfl
theorem dX11_meetingSpot_42 : decode cX11_meetingSpot 42 = .ok (.iconst 0, 1) := chk_nth ocX11_meetingSpot_0 (k := 22) rfl
theorem dX11_meetingSpot_43 : decode cX11_meetingSpot 43 = .ok (.istore 4, 2) := chk_nth ocX11_meetingSpot_0 (k := 23) rfl
def tcX11_meetingSpot_1 : List (Instr × Nat) := [(.iload 4, 2), (.bipush 120, 2), (.if_icmp .ge 41, 3), (.aload_n 0, 1), (.iload 4, 2), (.invokevirtual 281, 3), (.istore 5, 2), (.iload 5, 2), (.iconst (-1), 1), (.if_icmp .eq 21, 3), (.iload_n 3, 1), (.iconst (-1), 1), (.if_icmp .eq 13, 3), (.iload 5, 2), (.aload_n 0, 1), (.iload_n 3, 1), (.invokevirtual 281, 3), (.if_icmp .ge 6, 3), (.iload 4, 2), (.istore_n 3, 1), (.iinc 4 1, 3), (.goto (-42), 3), (.iload_n 3, 1), (.ireturn, 1)]
theorem ocX11_meetingSpot_1 : chk (cX11_meetingSpot.data.toList.drop 45) tcX11_meetingSpot_1 = true := by decide +kernel
theorem dX11_meetingSpot_45 : decode cX11_meetingSpot 45 = .ok (.iload 4, 2) := chk_nth ocX11_meetingSpot_1 (k := 0) rfl
theorem dX11_meetingSpot_47 : decode cX11_meetingSpot 47 = .ok (.bipush 120, 2) := chk_nth ocX11_meetingSpot_1 (k := 1) rfl
theorem dX11_meetingSpot_49 : decode cX11_meetingSpot 49 = .ok (.if_icmp .ge 41, 3) := chk_nth ocX11_meetingSpot_1 (k := 2) rfl
theorem dX11_meetingSpot_52 : decode cX11_meetingSpot 52 = .ok (.aload_n 0, 1) := chk_nth ocX11_meetingSpot_1 (k := 3) rfl
theorem dX11_meetingSpot_53 : decode cX11_meetingSpot 53 = .ok (.iload 4, 2) := chk_nth ocX11_meetingSpot_1 (k := 4) rfl
theorem dX11_meetingSpot_55 : decode cX11_meetingSpot 55 = .ok (.invokevirtual 281, 3) := chk_nth ocX11_meetingSpot_1 (k := 5) rfl
theorem dX11_meetingSpot_58 : decode cX11_meetingSpot 58 = .ok (.istore 5, 2) := chk_nth ocX11_meetingSpot_1 (k := 6) rfl
theorem dX11_meetingSpot_60 : decode cX11_meetingSpot 60 = .ok (.iload 5, 2) := chk_nth ocX11_meetingSpot_1 (k := 7) rfl
theorem dX11_meetingSpot_62 : decode cX11_meetingSpot 62 = .ok (.iconst (-1), 1) := chk_nth ocX11_meetingSpot_1 (k := 8) rfl
theorem dX11_meetingSpot_63 : decode cX11_meetingSpot 63 = .ok (.if_icmp .eq 21, 3) := chk_nth ocX11_meetingSpot_1 (k := 9) rfl
theorem dX11_meetingSpot_66 : decode cX11_meetingSpot 66 = .ok (.iload_n 3, 1) := chk_nth ocX11_meetingSpot_1 (k := 10) rfl
theorem dX11_meetingSpot_67 : decode cX11_meetingSpot 67 = .ok (.iconst (-1), 1) := chk_nth ocX11_meetingSpot_1 (k := 11) rfl
theorem dX11_meetingSpot_68 : decode cX11_meetingSpot 68 = .ok (.if_icmp .eq 13, 3) := chk_nth ocX11_meetingSpot_1 (k := 12) rfl
theorem dX11_meetingSpot_71 : decode cX11_meetingSpot 71 = .ok (.iload 5, 2) := chk_nth ocX11_meetingSpot_1 (k := 13) rfl
theorem dX11_meetingSpot_73 : decode cX11_meetingSpot 73 = .ok (.aload_n 0, 1) := chk_nth ocX11_meetingSpot_1 (k := 14) rfl
theorem dX11_meetingSpot_74 : decode cX11_meetingSpot 74 = .ok (.iload_n 3, 1) := chk_nth ocX11_meetingSpot_1 (k := 15) rfl
theorem dX11_meetingSpot_75 : decode cX11_meetingSpot 75 = .ok (.invokevirtual 281, 3) := chk_nth ocX11_meetingSpot_1 (k := 16) rfl
theorem dX11_meetingSpot_78 : decode cX11_meetingSpot 78 = .ok (.if_icmp .ge 6, 3) := chk_nth ocX11_meetingSpot_1 (k := 17) rfl
theorem dX11_meetingSpot_81 : decode cX11_meetingSpot 81 = .ok (.iload 4, 2) := chk_nth ocX11_meetingSpot_1 (k := 18) rfl
theorem dX11_meetingSpot_83 : decode cX11_meetingSpot 83 = .ok (.istore_n 3, 1) := chk_nth ocX11_meetingSpot_1 (k := 19) rfl
theorem dX11_meetingSpot_84 : decode cX11_meetingSpot 84 = .ok (.iinc 4 1, 3) := chk_nth ocX11_meetingSpot_1 (k := 20) rfl
theorem dX11_meetingSpot_87 : decode cX11_meetingSpot 87 = .ok (.goto (-42), 3) := chk_nth ocX11_meetingSpot_1 (k := 21) rfl
theorem dX11_meetingSpot_90 : decode cX11_meetingSpot 90 = .ok (.iload_n 3, 1) := chk_nth ocX11_meetingSpot_1 (k := 22) rfl
theorem dX11_meetingSpot_91 : decode cX11_meetingSpot 91 = .ok (.ireturn, 1) := chk_nth ocX11_meetingSpot_1 (k := 23) rfl
def tcX11_goingsTogether_0 : List (Instr × Nat) := [(.aload_n 0, 1), (.getfield 62, 3), (.iload_n 1, 1), (.invokevirtual 236, 3), (.istore_n 2, 1), (.aload_n 0, 1), (.getfield 66, 3), (.iload_n 1, 1), (.invokevirtual 236, 3), (.istore_n 3, 1), (.iload_n 2, 1), (.iconst (-1), 1), (.if_icmp .eq 8, 3), (.iload_n 3, 1), (.iconst (-1), 1), (.if_icmp .ne 7, 3), (.iconst (-1), 1), (.goto 6, 3), (.iload_n 2, 1), (.iload_n 3, 1), (.iadd, 1), (.ireturn, 1)]
theorem ocX11_goingsTogether_0 : chk (cX11_goingsTogether.data.toList.drop 0) tcX11_goingsTogether_0 = true := by decide +kernel
theorem dX11_goingsTogether_0 : decode cX11_goingsTogether 0 = .ok (.aload_n 0, 1) := chk_nth ocX11_goingsTogether_0 (k := 0) rfl
theorem dX11_goingsTogether_1 : decode cX11_goingsTogether 1 = .ok (.getfield 62, 3) := chk_nth ocX11_goingsTogether_0 (k := 1) rfl
theorem dX11_goingsTogether_4 : decode cX11_goingsTogether 4 = .ok (.iload_n 1, 1) := chk_nth ocX11_goingsTogether_0 (k := 2) rfl
theorem dX11_goingsTogether_5 : decode cX11_goingsTogether 5 = .ok (.invokevirtual 236, 3) := chk_nth ocX11_goingsTogether_0 (k := 3) rfl
theorem dX11_goingsTogether_8 : decode cX11_goingsTogether 8 = .ok (.istore_n 2, 1) := chk_nth ocX11_goingsTogether_0 (k := 4) rfl
theorem dX11_goingsTogether_9 : decode cX11_goingsTogether 9 = .ok (.aload_n 0, 1) := chk_nth ocX11_goingsTogether_0 (k := 5) rfl
theorem dX11_goingsTogether_10 : decode cX11_goingsTogether 10 = .ok (.getfield 66, 3) := chk_nth ocX11_goingsTogether_0 (k := 6) rfl
theorem dX11_goingsTogether_13 : decode cX11_goingsTogether 13 = .ok (.iload_n 1, 1) := chk_nth ocX11_goingsTogether_0 (k := 7) rfl
theorem dX11_goingsTogether_14 : decode cX11_goingsTogether 14 = .ok (.invokevirtual 236, 3) := chk_nth ocX11_goingsTogether_0 (k := 8) rfl
theorem dX11_goingsTogether_17 : decode cX11_goingsTogether 17 = .ok (.istore_n 3, 1) := chk_nth ocX11_goingsTogether_0 (k := 9) rfl
theorem dX11_goingsTogether_18 : decode cX11_goingsTogether 18 = .ok (.iload_n 2, 1) := chk_nth ocX11_goingsTogether_0 (k := 10) rfl
theorem dX11_goingsTogether_19 : decode cX11_goingsTogether 19 = .ok (.iconst (-1), 1) := chk_nth ocX11_goingsTogether_0 (k := 11) rfl
theorem dX11_goingsTogether_20 : decode cX11_goingsTogether 20 = .ok (.if_icmp .eq 8, 3) := chk_nth ocX11_goingsTogether_0 (k := 12) rfl
theorem dX11_goingsTogether_23 : decode cX11_goingsTogether 23 = .ok (.iload_n 3, 1) := chk_nth ocX11_goingsTogether_0 (k := 13) rfl
theorem dX11_goingsTogether_24 : decode cX11_goingsTogether 24 = .ok (.iconst (-1), 1) := chk_nth ocX11_goingsTogether_0 (k := 14) rfl
theorem dX11_goingsTogether_25 : decode cX11_goingsTogether 25 = .ok (.if_icmp .ne 7, 3) := chk_nth ocX11_goingsTogether_0 (k := 15) rfl
theorem dX11_goingsTogether_28 : decode cX11_goingsTogether 28 = .ok (.iconst (-1), 1) := chk_nth ocX11_goingsTogether_0 (k := 16) rfl
theorem dX11_goingsTogether_29 : decode cX11_goingsTogether 29 = .ok (.goto 6, 3) := chk_nth ocX11_goingsTogether_0 (k := 17) rfl
theorem dX11_goingsTogether_32 : decode cX11_goingsTogether 32 = .ok (.iload_n 2, 1) := chk_nth ocX11_goingsTogether_0 (k := 18) rfl
theorem dX11_goingsTogether_33 : decode cX11_goingsTogether 33 = .ok (.iload_n 3, 1) := chk_nth ocX11_goingsTogether_0 (k := 19) rfl
theorem dX11_goingsTogether_34 : decode cX11_goingsTogether 34 = .ok (.iadd, 1) := chk_nth ocX11_goingsTogether_0 (k := 20) rfl
theorem dX11_goingsTogether_35 : decode cX11_goingsTogether 35 = .ok (.ireturn, 1) := chk_nth ocX11_goingsTogether_0 (k := 21) rfl
def tcX11_ring_0 : List (Instr × Nat) := [(.aload_n 0, 1), (.getfield 12, 3), (.iload_n 1, 1), (.invokevirtual 148, 3), (.ifCond .ne 6, 3), (.bipush (-2), 2), (.ireturn, 1), (.aload_n 0, 1), (.getfield 62, 3), (.iload_n 1, 1), (.aload_n 0, 1), (.getfield 20, 3), (.iload_n 1, 1), (.invokevirtual 163, 3), (.aload_n 0, 1), (.getfield 20, 3), (.invokevirtual 256, 3), (.iconst (-1), 1), (.istore_n 2, 1), (.iconst 0, 1), (.istore_n 3, 1), (.iload_n 3, 1), (.aload_n 0, 1), (.getfield 62, 3)]
theorem ocX11_ring_0 : chk (cX11_ring.data.toList.drop 0) tcX11_ring_0 = true := by decide +kernel
theorem dX11_ring_0 : decode cX11_ring 0 = .ok (.aload_n 0, 1) := chk_nth ocX11_ring_0 (k := 0) rfl
theorem dX11_ring_1 : decode cX11_ring 1 = .ok (.getfield 12, 3) := chk_nth ocX11_ring_0 (k := 1) rfl
theorem dX11_ring_4 : decode cX11_ring 4 = .ok (.iload_n 1, 1) := chk_nth ocX11_ring_0 (k := 2) rfl
theorem dX11_ring_5 : decode cX11_ring 5 = .ok (.invokevirtual 148, 3) := chk_nth ocX11_ring_0 (k := 3) rfl
theorem dX11_ring_8 : decode cX11_ring 8 = .ok (.ifCond .ne 6, 3) := chk_nth ocX11_ring_0 (k := 4) rfl
theorem dX11_ring_11 : decode cX11_ring 11 = .ok (.bipush (-2), 2) := chk_nth ocX11_ring_0 (k := 5) rfl
theorem dX11_ring_13 : decode cX11_ring 13 = .ok (.ireturn, 1) := chk_nth ocX11_ring_0 (k := 6) rfl
theorem dX11_ring_14 : decode cX11_ring 14 = .ok (.aload_n 0, 1) := chk_nth ocX11_ring_0 (k := 7) rfl
theorem dX11_ring_15 : decode cX11_ring 15 = .ok (.getfield 62, 3) := chk_nth ocX11_ring_0 (k := 8) rfl
theorem dX11_ring_18 : decode cX11_ring 18 = .ok (.iload_n 1, 1) := chk_nth ocX11_ring_0 (k := 9) rfl
theorem dX11_ring_19 : decode cX11_ring 19 = .ok (.aload_n 0, 1) := chk_nth ocX11_ring_0 (k := 10) rfl
theorem dX11_ring_20 : decode cX11_ring 20 = .ok (.getfield 20, 3) := chk_nth ocX11_ring_0 (k := 11) rfl
theorem dX11_ring_23 : decode cX11_ring 23 = .ok (.iload_n 1, 1) := chk_nth ocX11_ring_0 (k := 12) rfl
theorem dX11_ring_24 : decode cX11_ring 24 = .ok (.invokevirtual 163, 3) := chk_nth ocX11_ring_0 (k := 13) rfl
theorem dX11_ring_27 : decode cX11_ring 27 = .ok (.aload_n 0, 1) := chk_nth ocX11_ring_0 (k := 14) rfl
theorem dX11_ring_28 : decode cX11_ring 28 = .ok (.getfield 20, 3) := chk_nth ocX11_ring_0 (k := 15) rfl
theorem dX11_ring_31 : decode cX11_ring 31 = .ok (.invokevirtual 256, 3) := chk_nth ocX11_ring_0 (k := 16) rfl
theorem dX11_ring_34 : decode cX11_ring 34 = .ok (.iconst (-1), 1) := chk_nth ocX11_ring_0 (k := 17) rfl
theorem dX11_ring_35 : decode cX11_ring 35 = .ok (.istore_n 2, 1) := chk_nth ocX11_ring_0 (k := 18) rfl
theorem dX11_ring_36 : decode cX11_ring 36 = .ok (.iconst 0, 1) := chk_nth ocX11_ring_0 (k := 19) rfl
theorem dX11_ring_37 : decode cX11_ring 37 = .ok (.istore_n 3, 1) := chk_nth ocX11_ring_0 (k := 20) rfl
theorem dX11_ring_38 : decode cX11_ring 38 = .ok (.iload_n 3, 1) := chk_nth ocX11_ring_0 (k := 21) rfl
theorem dX11_ring_39 : decode cX11_ring 39 = .ok (.aload_n 0, 1) := chk_nth ocX11_ring_0 (k := 22) rfl
theorem dX11_ring_40 : decode cX11_ring 40 = .ok (.getfield 62, 3) := chk_nth ocX11_ring_0 (k := 23) rfl
def tcX11_ring_1 : List (Instr × Nat) := [(.getfield 260, 3), (.if_icmp .ge 58, 3), (.aload_n 0, 1), (.getfield 66, 3), (.iload_n 1, 1), (.aload_n 0, 1), (.getfield 62, 3), (.iload_n 3, 1), (.invokevirtual 263, 3), (.aload_n 0, 1), (.getfield 20, 3), (.invokevirtual 256, 3), (.aload_n 0, 1), (.getfield 66, 3), (.getfield 284, 3), (.istore 4, 2), (.iload 4, 2), (.iconst (-1), 1), (.if_icmp .eq 17, 3), (.iload_n 2, 1), (.iconst (-1), 1), (.if_icmp .eq 9, 3), (.iload 4, 2), (.iload_n 2, 1)]
theorem ocX11_ring_1 : chk (cX11_ring.data.toList.drop 43) tcX11_ring_1 = true := by decide +kernel
theorem dX11_ring_43 : decode cX11_ring 43 = .ok (.getfield 260, 3) := chk_nth ocX11_ring_1 (k := 0) rfl
theorem dX11_ring_46 : decode cX11_ring 46 = .ok (.if_icmp .ge 58, 3) := chk_nth ocX11_ring_1 (k := 1) rfl
theorem dX11_ring_49 : decode cX11_ring 49 = .ok (.aload_n 0, 1) := chk_nth ocX11_ring_1 (k := 2) rfl
theorem dX11_ring_50 : decode cX11_ring 50 = .ok (.getfield 66, 3) := chk_nth ocX11_ring_1 (k := 3) rfl
theorem dX11_ring_53 : decode cX11_ring 53 = .ok (.iload_n 1, 1) := chk_nth ocX11_ring_1 (k := 4) rfl
theorem dX11_ring_54 : decode cX11_ring 54 = .ok (.aload_n 0, 1) := chk_nth ocX11_ring_1 (k := 5) rfl
theorem dX11_ring_55 : decode cX11_ring 55 = .ok (.getfield 62, 3) := chk_nth ocX11_ring_1 (k := 6) rfl
theorem dX11_ring_58 : decode cX11_ring 58 = .ok (.iload_n 3, 1) := chk_nth ocX11_ring_1 (k := 7) rfl
theorem dX11_ring_59 : decode cX11_ring 59 = .ok (.invokevirtual 263, 3) := chk_nth ocX11_ring_1 (k := 8) rfl
theorem dX11_ring_62 : decode cX11_ring 62 = .ok (.aload_n 0, 1) := chk_nth ocX11_ring_1 (k := 9) rfl
theorem dX11_ring_63 : decode cX11_ring 63 = .ok (.getfield 20, 3) := chk_nth ocX11_ring_1 (k := 10) rfl
theorem dX11_ring_66 : decode cX11_ring 66 = .ok (.invokevirtual 256, 3) := chk_nth ocX11_ring_1 (k := 11) rfl
theorem dX11_ring_69 : decode cX11_ring 69 = .ok (.aload_n 0, 1) := chk_nth ocX11_ring_1 (k := 12) rfl
theorem dX11_ring_70 : decode cX11_ring 70 = .ok (.getfield 66, 3) := chk_nth ocX11_ring_1 (k := 13) rfl
theorem dX11_ring_73 : decode cX11_ring 73 = .ok (.getfield 284, 3) := chk_nth ocX11_ring_1 (k := 14) rfl
theorem dX11_ring_76 : decode cX11_ring 76 = .ok (.istore 4, 2) := chk_nth ocX11_ring_1 (k := 15) rfl
theorem dX11_ring_78 : decode cX11_ring 78 = .ok (.iload 4, 2) := chk_nth ocX11_ring_1 (k := 16) rfl
theorem dX11_ring_80 : decode cX11_ring 80 = .ok (.iconst (-1), 1) := chk_nth ocX11_ring_1 (k := 17) rfl
theorem dX11_ring_81 : decode cX11_ring 81 = .ok (.if_icmp .eq 17, 3) := chk_nth ocX11_ring_1 (k := 18) rfl
theorem dX11_ring_84 : decode cX11_ring 84 = .ok (.iload_n 2, 1) := chk_nth ocX11_ring_1 (k := 19) rfl
theorem dX11_ring_85 : decode cX11_ring 85 = .ok (.iconst (-1), 1) := chk_nth ocX11_ring_1 (k := 20) rfl
theorem dX11_ring_86 : decode cX11_ring 86 = .ok (.if_icmp .eq 9, 3) := chk_nth ocX11_ring_1 (k := 21) rfl
theorem dX11_ring_89 : decode cX11_ring 89 = .ok (.iload 4, 2) := chk_nth ocX11_ring_1 (k := 22) rfl
theorem dX11_ring_91 : decode cX11_ring 91 = .ok (.iload_n 2, 1) := chk_nth ocX11_ring_1 (k := 23) rfl
def tcX11_ring_2 : List (Instr × Nat) := [(.if_icmp .ge 6, 3), (.iload 4, 2), (.istore_n 2, 1), (.iinc 3 1, 3), (.goto (-63), 3), (.iload_n 2, 1), (.ireturn, 1)]
theorem ocX11_ring_2 : chk (cX11_ring.data.toList.drop 92) tcX11_ring_2 = true := by decide +kernel
theorem dX11_ring_92 : decode cX11_ring 92 = .ok (.if_icmp .ge 6, 3) := chk_nth ocX11_ring_2 (k := 0) rfl
theorem dX11_ring_95 : decode cX11_ring 95 = .ok (.iload 4, 2) := chk_nth ocX11_ring_2 (k := 1) rfl
theorem dX11_ring_97 : decode cX11_ring 97 = .ok (.istore_n 2, 1) := chk_nth ocX11_ring_2 (k := 2) rfl
theorem dX11_ring_98 : decode cX11_ring 98 = .ok (.iinc 3 1, 3) := chk_nth ocX11_ring_2 (k := 3) rfl
theorem dX11_ring_101 : decode cX11_ring 101 = .ok (.goto (-63), 3) := chk_nth ocX11_ring_2 (k := 4) rfl
theorem dX11_ring_104 : decode cX11_ring 104 = .ok (.iload_n 2, 1) := chk_nth ocX11_ring_2 (k := 5) rfl
theorem dX11_ring_105 : decode cX11_ring 105 = .ok (.ireturn, 1) := chk_nth ocX11_ring_2 (k := 6) rfl
def tcX11_laws_0 : List (Instr × Nat) := [(.aload_n 0, 1), (.getfield 12, 3), (.iload_n 1, 1), (.invokevirtual 148, 3), (.ifCond .ne 6, 3), (.bipush (-2), 2), (.ireturn, 1), (.aload_n 0, 1), (.getfield 12, 3), (.invokevirtual 287, 3), (.aload_n 0, 1), (.getfield 20, 3), (.aload_n 0, 1), (.getfield 12, 3), (.getfield 160, 3), (.invokevirtual 291, 3), (.iconst (-1), 1), (.ixor, 1), (.iand, 1), (.istore_n 2, 1), (.iconst 0, 1), (.istore_n 3, 1), (.iconst 0, 1), (.istore 4, 2)]
theorem ocX11_laws_0 : chk (cX11_laws.data.toList.drop 0) tcX11_laws_0 = true := by decide +kernel
theorem dX11_laws_0 : decode cX11_laws 0 = .ok (.aload_n 0, 1) := chk_nth ocX11_laws_0 (k := 0) rfl
theorem dX11_laws_1 : decode cX11_laws 1 = .ok (.getfield 12, 3) := chk_nth ocX11_laws_0 (k := 1) rfl
theorem dX11_laws_4 : decode cX11_laws 4 = .ok (.iload_n 1, 1) := chk_nth ocX11_laws_0 (k := 2) rfl
theorem dX11_laws_5 : decode cX11_laws 5 = .ok (.invokevirtual 148, 3) := chk_nth ocX11_laws_0 (k := 3) rfl
theorem dX11_laws_8 : decode cX11_laws 8 = .ok (.ifCond .ne 6, 3) := chk_nth ocX11_laws_0 (k := 4) rfl
theorem dX11_laws_11 : decode cX11_laws 11 = .ok (.bipush (-2), 2) := chk_nth ocX11_laws_0 (k := 5) rfl
theorem dX11_laws_13 : decode cX11_laws 13 = .ok (.ireturn, 1) := chk_nth ocX11_laws_0 (k := 6) rfl
theorem dX11_laws_14 : decode cX11_laws 14 = .ok (.aload_n 0, 1) := chk_nth ocX11_laws_0 (k := 7) rfl
theorem dX11_laws_15 : decode cX11_laws 15 = .ok (.getfield 12, 3) := chk_nth ocX11_laws_0 (k := 8) rfl
theorem dX11_laws_18 : decode cX11_laws 18 = .ok (.invokevirtual 287, 3) := chk_nth ocX11_laws_0 (k := 9) rfl
theorem dX11_laws_21 : decode cX11_laws 21 = .ok (.aload_n 0, 1) := chk_nth ocX11_laws_0 (k := 10) rfl
theorem dX11_laws_22 : decode cX11_laws 22 = .ok (.getfield 20, 3) := chk_nth ocX11_laws_0 (k := 11) rfl
theorem dX11_laws_25 : decode cX11_laws 25 = .ok (.aload_n 0, 1) := chk_nth ocX11_laws_0 (k := 12) rfl
theorem dX11_laws_26 : decode cX11_laws 26 = .ok (.getfield 12, 3) := chk_nth ocX11_laws_0 (k := 13) rfl
theorem dX11_laws_29 : decode cX11_laws 29 = .ok (.getfield 160, 3) := chk_nth ocX11_laws_0 (k := 14) rfl
theorem dX11_laws_32 : decode cX11_laws 32 = .ok (.invokevirtual 291, 3) := chk_nth ocX11_laws_0 (k := 15) rfl
theorem dX11_laws_35 : decode cX11_laws 35 = .ok (.iconst (-1), 1) := chk_nth ocX11_laws_0 (k := 16) rfl
theorem dX11_laws_36 : decode cX11_laws 36 = .ok (.ixor, 1) := chk_nth ocX11_laws_0 (k := 17) rfl
theorem dX11_laws_37 : decode cX11_laws 37 = .ok (.iand, 1) := chk_nth ocX11_laws_0 (k := 18) rfl
theorem dX11_laws_38 : decode cX11_laws 38 = .ok (.istore_n 2, 1) := chk_nth ocX11_laws_0 (k := 19) rfl
theorem dX11_laws_39 : decode cX11_laws 39 = .ok (.iconst 0, 1) := chk_nth ocX11_laws_0 (k := 20) rfl
theorem dX11_laws_40 : decode cX11_laws 40 = .ok (.istore_n 3, 1) := chk_nth ocX11_laws_0 (k := 21) rfl
theorem dX11_laws_41 : decode cX11_laws 41 = .ok (.iconst 0, 1) := chk_nth ocX11_laws_0 (k := 22) rfl
theorem dX11_laws_42 : decode cX11_laws 42 = .ok (.istore 4, 2) := chk_nth ocX11_laws_0 (k := 23) rfl
def tcX11_laws_1 : List (Instr × Nat) := [(.iload 4, 2), (.iload_n 2, 1), (.if_icmp .gt 31, 3), (.iload 4, 2), (.iload_n 2, 1), (.iconst (-1), 1), (.ixor, 1), (.iand, 1), (.ifCond .ne 16, 3), (.aload_n 0, 1), (.iload_n 1, 1), (.iload 4, 2), (.invokevirtual 294, 3), (.ifCond .eq 6, 3), (.iinc 3 1, 3), (.iinc 4 1, 3), (.goto (-31), 3), (.iload_n 3, 1), (.ireturn, 1)]
theorem ocX11_laws_1 : chk (cX11_laws.data.toList.drop 44) tcX11_laws_1 = true := by decide +kernel
theorem dX11_laws_44 : decode cX11_laws 44 = .ok (.iload 4, 2) := chk_nth ocX11_laws_1 (k := 0) rfl
theorem dX11_laws_46 : decode cX11_laws 46 = .ok (.iload_n 2, 1) := chk_nth ocX11_laws_1 (k := 1) rfl
theorem dX11_laws_47 : decode cX11_laws 47 = .ok (.if_icmp .gt 31, 3) := chk_nth ocX11_laws_1 (k := 2) rfl
theorem dX11_laws_50 : decode cX11_laws 50 = .ok (.iload 4, 2) := chk_nth ocX11_laws_1 (k := 3) rfl
theorem dX11_laws_52 : decode cX11_laws 52 = .ok (.iload_n 2, 1) := chk_nth ocX11_laws_1 (k := 4) rfl
theorem dX11_laws_53 : decode cX11_laws 53 = .ok (.iconst (-1), 1) := chk_nth ocX11_laws_1 (k := 5) rfl
theorem dX11_laws_54 : decode cX11_laws 54 = .ok (.ixor, 1) := chk_nth ocX11_laws_1 (k := 6) rfl
theorem dX11_laws_55 : decode cX11_laws 55 = .ok (.iand, 1) := chk_nth ocX11_laws_1 (k := 7) rfl
theorem dX11_laws_56 : decode cX11_laws 56 = .ok (.ifCond .ne 16, 3) := chk_nth ocX11_laws_1 (k := 8) rfl
theorem dX11_laws_59 : decode cX11_laws 59 = .ok (.aload_n 0, 1) := chk_nth ocX11_laws_1 (k := 9) rfl
theorem dX11_laws_60 : decode cX11_laws 60 = .ok (.iload_n 1, 1) := chk_nth ocX11_laws_1 (k := 10) rfl
theorem dX11_laws_61 : decode cX11_laws 61 = .ok (.iload 4, 2) := chk_nth ocX11_laws_1 (k := 11) rfl
theorem dX11_laws_63 : decode cX11_laws 63 = .ok (.invokevirtual 294, 3) := chk_nth ocX11_laws_1 (k := 12) rfl
theorem dX11_laws_66 : decode cX11_laws 66 = .ok (.ifCond .eq 6, 3) := chk_nth ocX11_laws_1 (k := 13) rfl
theorem dX11_laws_69 : decode cX11_laws 69 = .ok (.iinc 3 1, 3) := chk_nth ocX11_laws_1 (k := 14) rfl
theorem dX11_laws_72 : decode cX11_laws 72 = .ok (.iinc 4 1, 3) := chk_nth ocX11_laws_1 (k := 15) rfl
theorem dX11_laws_75 : decode cX11_laws 75 = .ok (.goto (-31), 3) := chk_nth ocX11_laws_1 (k := 16) rfl
theorem dX11_laws_78 : decode cX11_laws 78 = .ok (.iload_n 3, 1) := chk_nth ocX11_laws_1 (k := 17) rfl
theorem dX11_laws_79 : decode cX11_laws 79 = .ok (.ireturn, 1) := chk_nth ocX11_laws_1 (k := 18) rfl
def tcX11_bylaw_0 : List (Instr × Nat) := [(.aload_n 0, 1), (.getfield 12, 3), (.iload_n 1, 1), (.invokevirtual 148, 3), (.ifCond .eq 12, 3), (.iload_n 2, 1), (.ifCond .lt 8, 3), (.iload_n 2, 1), (.iconst 1, 1), (.if_icmp .le 6, 3), (.bipush (-2), 2), (.ireturn, 1), (.aload_n 0, 1), (.getfield 12, 3), (.invokevirtual 287, 3), (.aload_n 0, 1), (.getfield 20, 3), (.aload_n 0, 1), (.getfield 12, 3), (.getfield 160, 3), (.invokevirtual 291, 3), (.iconst (-1), 1), (.ixor, 1), (.iand, 1)]
theorem ocX11_bylaw_0 : chk (cX11_bylaw.data.toList.drop 0) tcX11_bylaw_0 = true := by decide +kernel
theorem dX11_bylaw_0 : decode cX11_bylaw 0 = .ok (.aload_n 0, 1) := chk_nth ocX11_bylaw_0 (k := 0) rfl
theorem dX11_bylaw_1 : decode cX11_bylaw 1 = .ok (.getfield 12, 3) := chk_nth ocX11_bylaw_0 (k := 1) rfl
theorem dX11_bylaw_4 : decode cX11_bylaw 4 = .ok (.iload_n 1, 1) := chk_nth ocX11_bylaw_0 (k := 2) rfl
theorem dX11_bylaw_5 : decode cX11_bylaw 5 = .ok (.invokevirtual 148, 3) := chk_nth ocX11_bylaw_0 (k := 3) rfl
theorem dX11_bylaw_8 : decode cX11_bylaw 8 = .ok (.ifCond .eq 12, 3) := chk_nth ocX11_bylaw_0 (k := 4) rfl
theorem dX11_bylaw_11 : decode cX11_bylaw 11 = .ok (.iload_n 2, 1) := chk_nth ocX11_bylaw_0 (k := 5) rfl
theorem dX11_bylaw_12 : decode cX11_bylaw 12 = .ok (.ifCond .lt 8, 3) := chk_nth ocX11_bylaw_0 (k := 6) rfl
theorem dX11_bylaw_15 : decode cX11_bylaw 15 = .ok (.iload_n 2, 1) := chk_nth ocX11_bylaw_0 (k := 7) rfl
theorem dX11_bylaw_16 : decode cX11_bylaw 16 = .ok (.iconst 1, 1) := chk_nth ocX11_bylaw_0 (k := 8) rfl
theorem dX11_bylaw_17 : decode cX11_bylaw 17 = .ok (.if_icmp .le 6, 3) := chk_nth ocX11_bylaw_0 (k := 9) rfl
theorem dX11_bylaw_20 : decode cX11_bylaw 20 = .ok (.bipush (-2), 2) := chk_nth ocX11_bylaw_0 (k := 10) rfl
theorem dX11_bylaw_22 : decode cX11_bylaw 22 = .ok (.ireturn, 1) := chk_nth ocX11_bylaw_0 (k := 11) rfl
theorem dX11_bylaw_23 : decode cX11_bylaw 23 = .ok (.aload_n 0, 1) := chk_nth ocX11_bylaw_0 (k := 12) rfl
theorem dX11_bylaw_24 : decode cX11_bylaw 24 = .ok (.getfield 12, 3) := chk_nth ocX11_bylaw_0 (k := 13) rfl
theorem dX11_bylaw_27 : decode cX11_bylaw 27 = .ok (.invokevirtual 287, 3) := chk_nth ocX11_bylaw_0 (k := 14) rfl
theorem dX11_bylaw_30 : decode cX11_bylaw 30 = .ok (.aload_n 0, 1) := chk_nth ocX11_bylaw_0 (k := 15) rfl
theorem dX11_bylaw_31 : decode cX11_bylaw 31 = .ok (.getfield 20, 3) := chk_nth ocX11_bylaw_0 (k := 16) rfl
theorem dX11_bylaw_34 : decode cX11_bylaw 34 = .ok (.aload_n 0, 1) := chk_nth ocX11_bylaw_0 (k := 17) rfl
theorem dX11_bylaw_35 : decode cX11_bylaw 35 = .ok (.getfield 12, 3) := chk_nth ocX11_bylaw_0 (k := 18) rfl
theorem dX11_bylaw_38 : decode cX11_bylaw 38 = .ok (.getfield 160, 3) := chk_nth ocX11_bylaw_0 (k := 19) rfl
theorem dX11_bylaw_41 : decode cX11_bylaw 41 = .ok (.invokevirtual 291, 3) := chk_nth ocX11_bylaw_0 (k := 20) rfl
theorem dX11_bylaw_44 : decode cX11_bylaw 44 = .ok (.iconst (-1), 1) := chk_nth ocX11_bylaw_0 (k := 21) rfl
theorem dX11_bylaw_45 : decode cX11_bylaw 45 = .ok (.ixor, 1) := chk_nth ocX11_bylaw_0 (k := 22) rfl
theorem dX11_bylaw_46 : decode cX11_bylaw 46 = .ok (.iand, 1) := chk_nth ocX11_bylaw_0 (k := 23) rfl
def tcX11_bylaw_1 : List (Instr × Nat) := [(.istore_n 3, 1), (.iconst (-1), 1), (.istore 4, 2), (.bipush 9, 2), (.istore 5, 2), (.iconst 0, 1), (.istore 6, 2), (.iload 6, 2), (.iload_n 3, 1), (.if_icmp .gt 51, 3), (.iload 6, 2), (.iload_n 3, 1), (.iconst (-1), 1), (.ixor, 1), (.iand, 1), (.ifCond .ne 36, 3), (.aload_n 0, 1), (.iload 6, 2), (.invokevirtual 297, 3), (.iload 5, 2), (.if_icmp .ge 25, 3), (.aload_n 0, 1), (.iload_n 1, 1), (.iload 6, 2)]
theorem ocX11_bylaw_1 : chk (cX11_bylaw.data.toList.drop 47) tcX11_bylaw_1 = true := by decide +kernel
theorem dX11_bylaw_47 : decode cX11_bylaw 47 = .ok (.istore_n 3, 1) := chk_nth ocX11_bylaw_1 (k := 0) rfl
theorem dX11_bylaw_48 : decode cX11_bylaw 48 = .ok (.iconst (-1), 1) := chk_nth ocX11_bylaw_1 (k := 1) rfl
theorem dX11_bylaw_49 : decode cX11_bylaw 49 = .ok (.istore 4, 2) := chk_nth ocX11_bylaw_1 (k := 2) rfl
theorem dX11_bylaw_51 : decode cX11_bylaw 51 = .ok (.bipush 9, 2) := chk_nth ocX11_bylaw_1 (k := 3) rfl
theorem dX11_bylaw_53 : decode cX11_bylaw 53 = .ok (.istore 5, 2) := chk_nth ocX11_bylaw_1 (k := 4) rfl
theorem dX11_bylaw_55 : decode cX11_bylaw 55 = .ok (.iconst 0, 1) := chk_nth ocX11_bylaw_1 (k := 5) rfl
theorem dX11_bylaw_56 : decode cX11_bylaw 56 = .ok (.istore 6, 2) := chk_nth ocX11_bylaw_1 (k := 6) rfl
theorem dX11_bylaw_58 : decode cX11_bylaw 58 = .ok (.iload 6, 2) := chk_nth ocX11_bylaw_1 (k := 7) rfl
theorem dX11_bylaw_60 : decode cX11_bylaw 60 = .ok (.iload_n 3, 1) := chk_nth ocX11_bylaw_1 (k := 8) rfl
theorem dX11_bylaw_61 : decode cX11_bylaw 61 = .ok (.if_icmp .gt 51, 3) := chk_nth ocX11_bylaw_1 (k := 9) rfl
theorem dX11_bylaw_64 : decode cX11_bylaw 64 = .ok (.iload 6, 2) := chk_nth ocX11_bylaw_1 (k := 10) rfl
theorem dX11_bylaw_66 : decode cX11_bylaw 66 = .ok (.iload_n 3, 1) := chk_nth ocX11_bylaw_1 (k := 11) rfl
theorem dX11_bylaw_67 : decode cX11_bylaw 67 = .ok (.iconst (-1), 1) := chk_nth ocX11_bylaw_1 (k := 12) rfl
theorem dX11_bylaw_68 : decode cX11_bylaw 68 = .ok (.ixor, 1) := chk_nth ocX11_bylaw_1 (k := 13) rfl
theorem dX11_bylaw_69 : decode cX11_bylaw 69 = .ok (.iand, 1) := chk_nth ocX11_bylaw_1 (k := 14) rfl
theorem dX11_bylaw_70 : decode cX11_bylaw 70 = .ok (.ifCond .ne 36, 3) := chk_nth ocX11_bylaw_1 (k := 15) rfl
theorem dX11_bylaw_73 : decode cX11_bylaw 73 = .ok (.aload_n 0, 1) := chk_nth ocX11_bylaw_1 (k := 16) rfl
theorem dX11_bylaw_74 : decode cX11_bylaw 74 = .ok (.iload 6, 2) := chk_nth ocX11_bylaw_1 (k := 17) rfl
theorem dX11_bylaw_76 : decode cX11_bylaw 76 = .ok (.invokevirtual 297, 3) := chk_nth ocX11_bylaw_1 (k := 18) rfl
theorem dX11_bylaw_79 : decode cX11_bylaw 79 = .ok (.iload 5, 2) := chk_nth ocX11_bylaw_1 (k := 19) rfl
theorem dX11_bylaw_81 : decode cX11_bylaw 81 = .ok (.if_icmp .ge 25, 3) := chk_nth ocX11_bylaw_1 (k := 20) rfl
theorem dX11_bylaw_84 : decode cX11_bylaw 84 = .ok (.aload_n 0, 1) := chk_nth ocX11_bylaw_1 (k := 21) rfl
theorem dX11_bylaw_85 : decode cX11_bylaw 85 = .ok (.iload_n 1, 1) := chk_nth ocX11_bylaw_1 (k := 22) rfl
theorem dX11_bylaw_86 : decode cX11_bylaw 86 = .ok (.iload 6, 2) := chk_nth ocX11_bylaw_1 (k := 23) rfl
def tcX11_bylaw_2 : List (Instr × Nat) := [(.invokevirtual 294, 3), (.ifCond .eq 15, 3), (.iload 6, 2), (.istore 4, 2), (.aload_n 0, 1), (.iload 6, 2), (.invokevirtual 297, 3), (.istore 5, 2), (.iinc 6 1, 3), (.goto (-51), 3), (.iload 4, 2), (.iconst (-1), 1), (.if_icmp .ne 5, 3), (.iconst (-1), 1), (.ireturn, 1), (.iload_n 2, 1), (.ifCond .ne 8, 3), (.iload 5, 2), (.goto 5, 3), (.iload 4, 2), (.ireturn, 1)]
theorem ocX11_bylaw_2 : chk (cX11_bylaw.data.toList.drop 88) tcX11_bylaw_2 = true := by decide +kernel
theorem dX11_bylaw_88 : decode cX11_bylaw 88 = .ok (.invokevirtual 294, 3) := chk_nth ocX11_bylaw_2 (k := 0) rfl
theorem dX11_bylaw_91 : decode cX11_bylaw 91 = .ok (.ifCond .eq 15, 3) := chk_nth ocX11_bylaw_2 (k := 1) rfl
theorem dX11_bylaw_94 : decode cX11_bylaw 94 = .ok (.iload 6, 2) := chk_nth ocX11_bylaw_2 (k := 2) rfl
theorem dX11_bylaw_96 : decode cX11_bylaw 96 = .ok (.istore 4, 2) := chk_nth ocX11_bylaw_2 (k := 3) rfl
theorem dX11_bylaw_98 : decode cX11_bylaw 98 = .ok (.aload_n 0, 1) := chk_nth ocX11_bylaw_2 (k := 4) rfl
theorem dX11_bylaw_99 : decode cX11_bylaw 99 = .ok (.iload 6, 2) := chk_nth ocX11_bylaw_2 (k := 5) rfl
theorem dX11_bylaw_101 : decode cX11_bylaw 101 = .ok (.invokevirtual 297, 3) := chk_nth ocX11_bylaw_2 (k := 6) rfl
theorem dX11_bylaw_104 : decode cX11_bylaw 104 = .ok (.istore 5, 2) := chk_nth ocX11_bylaw_2 (k := 7) rfl
theorem dX11_bylaw_106 : decode cX11_bylaw 106 = .ok (.iinc 6 1, 3) := chk_nth ocX11_bylaw_2 (k := 8) rfl
theorem dX11_bylaw_109 : decode cX11_bylaw 109 = .ok (.goto (-51), 3) := chk_nth ocX11_bylaw_2 (k := 9) rfl
theorem dX11_bylaw_112 : decode cX11_bylaw 112 = .ok (.iload 4, 2) := chk_nth ocX11_bylaw_2 (k := 10) rfl
theorem dX11_bylaw_114 : decode cX11_bylaw 114 = .ok (.iconst (-1), 1) := chk_nth ocX11_bylaw_2 (k := 11) rfl
theorem dX11_bylaw_115 : decode cX11_bylaw 115 = .ok (.if_icmp .ne 5, 3) := chk_nth ocX11_bylaw_2 (k := 12) rfl
theorem dX11_bylaw_118 : decode cX11_bylaw 118 = .ok (.iconst (-1), 1) := chk_nth ocX11_bylaw_2 (k := 13) rfl
theorem dX11_bylaw_119 : decode cX11_bylaw 119 = .ok (.ireturn, 1) := chk_nth ocX11_bylaw_2 (k := 14) rfl
theorem dX11_bylaw_120 : decode cX11_bylaw 120 = .ok (.iload_n 2, 1) := chk_nth ocX11_bylaw_2 (k := 15) rfl
theorem dX11_bylaw_121 : decode cX11_bylaw 121 = .ok (.ifCond .ne 8, 3) := chk_nth ocX11_bylaw_2 (k := 16) rfl
theorem dX11_bylaw_124 : decode cX11_bylaw 124 = .ok (.iload 5, 2) := chk_nth ocX11_bylaw_2 (k := 17) rfl
theorem dX11_bylaw_126 : decode cX11_bylaw 126 = .ok (.goto 5, 3) := chk_nth ocX11_bylaw_2 (k := 18) rfl
theorem dX11_bylaw_129 : decode cX11_bylaw 129 = .ok (.iload 4, 2) := chk_nth ocX11_bylaw_2 (k := 19) rfl
theorem dX11_bylaw_131 : decode cX11_bylaw 131 = .ok (.ireturn, 1) := chk_nth ocX11_bylaw_2 (k := 20) rfl
def tcX11_isBylaw_0 : List (Instr × Nat) := [(.aload_n 0, 1), (.getfield 29, 3), (.aload_n 0, 1), (.getfield 20, 3), (.invokevirtual 170, 3), (.aload_n 0, 1), (.getfield 29, 3), (.iload_n 2, 1), (.aload_n 0, 1), (.getfield 12, 3), (.getfield 160, 3), (.invokevirtual 300, 3), (.aload_n 0, 1), (.getfield 62, 3), (.iload_n 1, 1), (.aload_n 0, 1), (.getfield 29, 3), (.iload_n 1, 1), (.invokevirtual 163, 3), (.aload_n 0, 1), (.getfield 29, 3), (.invokevirtual 304, 3), (.ifCond .ne 7, 3), (.iconst 1, 1)]
theorem ocX11_isBylaw_0 : chk (cX11_isBylaw.data.toList.drop 0) tcX11_isBylaw_0 = true := by decide +kernel
theorem dX11_isBylaw_0 : decode cX11_isBylaw 0 = .ok (.aload_n 0, 1) := chk_nth ocX11_isBylaw_0 (k := 0) rfl
theorem dX11_isBylaw_1 : decode cX11_isBylaw 1 = .ok (.getfield 29, 3) := chk_nth ocX11_isBylaw_0 (k := 1) rfl
theorem dX11_isBylaw_4 : decode cX11_isBylaw 4 = .ok (.aload_n 0, 1) := chk_nth ocX11_isBylaw_0 (k := 2) rfl
theorem dX11_isBylaw_5 : decode cX11_isBylaw 5 = .ok (.getfield 20, 3) := chk_nth ocX11_isBylaw_0 (k := 3) rfl
theorem dX11_isBylaw_8 : decode cX11_isBylaw 8 = .ok (.invokevirtual 170, 3) := chk_nth ocX11_isBylaw_0 (k := 4) rfl
theorem dX11_isBylaw_11 : decode cX11_isBylaw 11 = .ok (.aload_n 0, 1) := chk_nth ocX11_isBylaw_0 (k := 5) rfl
theorem dX11_isBylaw_12 : decode cX11_isBylaw 12 = .ok (.getfield 29, 3) := chk_nth ocX11_isBylaw_0 (k := 6) rfl
theorem dX11_isBylaw_15 : decode cX11_isBylaw 15 = .ok (.iload_n 2, 1) := chk_nth ocX11_isBylaw_0 (k := 7) rfl
theorem dX11_isBylaw_16 : decode cX11_isBylaw 16 = .ok (.aload_n 0, 1) := chk_nth ocX11_isBylaw_0 (k := 8) rfl
theorem dX11_isBylaw_17 : decode cX11_isBylaw 17 = .ok (.getfield 12, 3) := chk_nth ocX11_isBylaw_0 (k := 9) rfl
theorem dX11_isBylaw_20 : decode cX11_isBylaw 20 = .ok (.getfield 160, 3) := chk_nth ocX11_isBylaw_0 (k := 10) rfl
theorem dX11_isBylaw_23 : decode cX11_isBylaw 23 = .ok (.invokevirtual 300, 3) := chk_nth ocX11_isBylaw_0 (k := 11) rfl
theorem dX11_isBylaw_26 : decode cX11_isBylaw 26 = .ok (.aload_n 0, 1) := chk_nth ocX11_isBylaw_0 (k := 12) rfl
theorem dX11_isBylaw_27 : decode cX11_isBylaw 27 = .ok (.getfield 62, 3) := chk_nth ocX11_isBylaw_0 (k := 13) rfl
theorem dX11_isBylaw_30 : decode cX11_isBylaw 30 = .ok (.iload_n 1, 1) := chk_nth ocX11_isBylaw_0 (k := 14) rfl
theorem dX11_isBylaw_31 : decode cX11_isBylaw 31 = .ok (.aload_n 0, 1) := chk_nth ocX11_isBylaw_0 (k := 15) rfl
theorem dX11_isBylaw_32 : decode cX11_isBylaw 32 = .ok (.getfield 29, 3) := chk_nth ocX11_isBylaw_0 (k := 16) rfl
theorem dX11_isBylaw_35 : decode cX11_isBylaw 35 = .ok (.iload_n 1, 1) := chk_nth ocX11_isBylaw_0 (k := 17) rfl
theorem dX11_isBylaw_36 : decode cX11_isBylaw 36 = .ok (.invokevirtual 163, 3) := chk_nth ocX11_isBylaw_0 (k := 18) rfl
theorem dX11_isBylaw_39 : decode cX11_isBylaw 39 = .ok (.aload_n 0, 1) := chk_nth ocX11_isBylaw_0 (k := 19) rfl
theorem dX11_isBylaw_40 : decode cX11_isBylaw 40 = .ok (.getfield 29, 3) := chk_nth ocX11_isBylaw_0 (k := 20) rfl
theorem dX11_isBylaw_43 : decode cX11_isBylaw 43 = .ok (.invokevirtual 304, 3) := chk_nth ocX11_isBylaw_0 (k := 21) rfl
theorem dX11_isBylaw_46 : decode cX11_isBylaw 46 = .ok (.ifCond .ne 7, 3) := chk_nth ocX11_isBylaw_0 (k := 22) rfl
theorem dX11_isBylaw_49 : decode cX11_isBylaw 49 = .ok (.iconst 1, 1) := chk_nth ocX11_isBylaw_0 (k := 23) rfl
def tcX11_isBylaw_1 : List (Instr × Nat) := [(.goto 4, 3), (.iconst 0, 1), (.ireturn, 1)]
theorem ocX11_isBylaw_1 : chk (cX11_isBylaw.data.toList.drop 50) tcX11_isBylaw_1 = true := by decide +kernel
theorem dX11_isBylaw_50 : decode cX11_isBylaw 50 = .ok (.goto 4, 3) := chk_nth ocX11_isBylaw_1 (k := 0) rfl
theorem dX11_isBylaw_53 : decode cX11_isBylaw 53 = .ok (.iconst 0, 1) := chk_nth ocX11_isBylaw_1 (k := 1) rfl
theorem dX11_isBylaw_54 : decode cX11_isBylaw 54 = .ok (.ireturn, 1) := chk_nth ocX11_isBylaw_1 (k := 2) rfl
def tcX11_otherSigns_0 : List (Instr × Nat) := [(.iconst 0, 1), (.istore_n 2, 1), (.iconst 0, 1), (.istore_n 3, 1), (.iload_n 3, 1), (.aload_n 0, 1), (.getfield 12, 3), (.getfield 160, 3), (.if_icmp .ge 38, 3), (.aload_n 0, 1), (.getfield 20, 3), (.iload_n 3, 1), (.invokevirtual 141, 3), (.istore 4, 2), (.iload 4, 2), (.iconst 3, 1), (.if_icmp .eq 16, 3), (.iload 4, 2), (.iload_n 1, 1), (.iload_n 3, 1), (.ishr, 1), (.iconst 1, 1), (.iand, 1), (.if_icmp .eq 6, 3)]
theorem ocX11_otherSigns_0 : chk (cX11_otherSigns.data.toList.drop 0) tcX11_otherSigns_0 = true := by decide +kernel
theorem dX11_otherSigns_0 : decode cX11_otherSigns 0 = .ok (.iconst 0, 1) := chk_nth ocX11_otherSigns_0 (k := 0) rfl
theorem dX11_otherSigns_1 : decode cX11_otherSigns 1 = .ok (.istore_n 2, 1) := chk_nth ocX11_otherSigns_0 (k := 1) rfl
theorem dX11_otherSigns_2 : decode cX11_otherSigns 2 = .ok (.iconst 0, 1) := chk_nth ocX11_otherSigns_0 (k := 2) rfl
theorem dX11_otherSigns_3 : decode cX11_otherSigns 3 = .ok (.istore_n 3, 1) := chk_nth ocX11_otherSigns_0 (k := 3) rfl
theorem dX11_otherSigns_4 : decode cX11_otherSigns 4 = .ok (.iload_n 3, 1) := chk_nth ocX11_otherSigns_0 (k := 4) rfl
theorem dX11_otherSigns_5 : decode cX11_otherSigns 5 = .ok (.aload_n 0, 1) := chk_nth ocX11_otherSigns_0 (k := 5) rfl
theorem dX11_otherSigns_6 : decode cX11_otherSigns 6 = .ok (.getfield 12, 3) := chk_nth ocX11_otherSigns_0 (k := 6) rfl
theorem dX11_otherSigns_9 : decode cX11_otherSigns 9 = .ok (.getfield 160, 3) := chk_nth ocX11_otherSigns_0 (k := 7) rfl
theorem dX11_otherSigns_12 : decode cX11_otherSigns 12 = .ok (.if_icmp .ge 38, 3) := chk_nth ocX11_otherSigns_0 (k := 8) rfl
theorem dX11_otherSigns_15 : decode cX11_otherSigns 15 = .ok (.aload_n 0, 1) := chk_nth ocX11_otherSigns_0 (k := 9) rfl
theorem dX11_otherSigns_16 : decode cX11_otherSigns 16 = .ok (.getfield 20, 3) := chk_nth ocX11_otherSigns_0 (k := 10) rfl
theorem dX11_otherSigns_19 : decode cX11_otherSigns 19 = .ok (.iload_n 3, 1) := chk_nth ocX11_otherSigns_0 (k := 11) rfl
theorem dX11_otherSigns_20 : decode cX11_otherSigns 20 = .ok (.invokevirtual 141, 3) := chk_nth ocX11_otherSigns_0 (k := 12) rfl
theorem dX11_otherSigns_23 : decode cX11_otherSigns 23 = .ok (.istore 4, 2) := chk_nth ocX11_otherSigns_0 (k := 13) rfl
theorem dX11_otherSigns_25 : decode cX11_otherSigns 25 = .ok (.iload 4, 2) := chk_nth ocX11_otherSigns_0 (k := 14) rfl
theorem dX11_otherSigns_27 : decode cX11_otherSigns 27 = .ok (.iconst 3, 1) := chk_nth ocX11_otherSigns_0 (k := 15) rfl
theorem dX11_otherSigns_28 : decode cX11_otherSigns 28 = .ok (.if_icmp .eq 16, 3) := chk_nth ocX11_otherSigns_0 (k := 16) rfl
theorem dX11_otherSigns_31 : decode cX11_otherSigns 31 = .ok (.iload 4, 2) := chk_nth ocX11_otherSigns_0 (k := 17) rfl
theorem dX11_otherSigns_33 : decode cX11_otherSigns 33 = .ok (.iload_n 1, 1) := chk_nth ocX11_otherSigns_0 (k := 18) rfl
theorem dX11_otherSigns_34 : decode cX11_otherSigns 34 = .ok (.iload_n 3, 1) := chk_nth ocX11_otherSigns_0 (k := 19) rfl
theorem dX11_otherSigns_35 : decode cX11_otherSigns 35 = .ok (.ishr, 1) := chk_nth ocX11_otherSigns_0 (k := 20) rfl
theorem dX11_otherSigns_36 : decode cX11_otherSigns 36 = .ok (.iconst 1, 1) := chk_nth ocX11_otherSigns_0 (k := 21) rfl
theorem dX11_otherSigns_37 : decode cX11_otherSigns 37 = .ok (.iand, 1) := chk_nth ocX11_otherSigns_0 (k := 22) rfl
theorem dX11_otherSigns_38 : decode cX11_otherSigns 38 = .ok (.if_icmp .eq 6, 3) := chk_nth ocX11_otherSigns_0 (k := 23) rfl
def tcX11_otherSigns_1 : List (Instr × Nat) := [(.iinc 2 1, 3), (.iinc 3 1, 3), (.goto (-43), 3), (.iload_n 2, 1), (.ireturn, 1)]
theorem ocX11_otherSigns_1 : chk (cX11_otherSigns.data.toList.drop 41) tcX11_otherSigns_1 = true := by decide +kernel
theorem dX11_otherSigns_41 : decode cX11_otherSigns 41 = .ok (.iinc 2 1, 3) := chk_nth ocX11_otherSigns_1 (k := 0) rfl
theorem dX11_otherSigns_44 : decode cX11_otherSigns 44 = .ok (.iinc 3 1, 3) := chk_nth ocX11_otherSigns_1 (k := 1) rfl
theorem dX11_otherSigns_47 : decode cX11_otherSigns 47 = .ok (.goto (-43), 3) := chk_nth ocX11_otherSigns_1 (k := 2) rfl
theorem dX11_otherSigns_50 : decode cX11_otherSigns 50 = .ok (.iload_n 2, 1) := chk_nth ocX11_otherSigns_1 (k := 3) rfl
theorem dX11_otherSigns_51 : decode cX11_otherSigns 51 = .ok (.ireturn, 1) := chk_nth ocX11_otherSigns_1 (k := 4) rfl
def tcX11_shut_0 : List (Instr × Nat) := [(.aload_n 0, 1), (.getfield 12, 3), (.iload_n 1, 1), (.invokevirtual 148, 3), (.ifCond .eq 23, 3), (.aload_n 0, 1), (.getfield 12, 3), (.iload_n 2, 1), (.invokevirtual 253, 3), (.ifCond .eq 12, 3), (.iload_n 3, 1), (.ifCond .lt 8, 3), (.iload_n 3, 1), (.iconst 1, 1), (.if_icmp .le 6, 3), (.bipush (-2), 2), (.ireturn, 1), (.aload_n 0, 1), (.getfield 20, 3), (.iload_n 1, 1), (.invokevirtual 151, 3), (.iload_n 2, 1), (.if_icmp .ne 5, 3), (.iconst (-1), 1)]
theorem ocX11_shut_0 : chk (cX11_shut.data.toList.drop 0) tcX11_shut_0 = true := by decide +kernel
theorem dX11_shut_0 : decode cX11_shut 0 = .ok (.aload_n 0, 1) := chk_nth ocX11_shut_0 (k := 0) rfl
theorem dX11_shut_1 : decode cX11_shut 1 = .ok (.getfield 12, 3) := chk_nth ocX11_shut_0 (k := 1) rfl
theorem dX11_shut_4 : decode cX11_shut 4 = .ok (.iload_n 1, 1) := chk_nth ocX11_shut_0 (k := 2) rfl
theorem dX11_shut_5 : decode cX11_shut 5 = .ok (.invokevirtual 148, 3) := chk_nth ocX11_shut_0 (k := 3) rfl
theorem dX11_shut_8 : decode cX11_shut 8 = .ok (.ifCond .eq 23, 3) := chk_nth ocX11_shut_0 (k := 4) rfl
theorem dX11_shut_11 : decode cX11_shut 11 = .ok (.aload_n 0, 1) := chk_nth ocX11_shut_0 (k := 5) rfl
theorem dX11_shut_12 : decode cX11_shut 12 = .ok (.getfield 12, 3) := chk_nth ocX11_shut_0 (k := 6) rfl
theorem dX11_shut_15 : decode cX11_shut 15 = .ok (.iload_n 2, 1) := chk_nth ocX11_shut_0 (k := 7) rfl
theorem dX11_shut_16 : decode cX11_shut 16 = .ok (.invokevirtual 253, 3) := chk_nth ocX11_shut_0 (k := 8) rfl
theorem dX11_shut_19 : decode cX11_shut 19 = .ok (.ifCond .eq 12, 3) := chk_nth ocX11_shut_0 (k := 9) rfl
theorem dX11_shut_22 : decode cX11_shut 22 = .ok (.iload_n 3, 1) := chk_nth ocX11_shut_0 (k := 10) rfl
theorem dX11_shut_23 : decode cX11_shut 23 = .ok (.ifCond .lt 8, 3) := chk_nth ocX11_shut_0 (k := 11) rfl
theorem dX11_shut_26 : decode cX11_shut 26 = .ok (.iload_n 3, 1) := chk_nth ocX11_shut_0 (k := 12) rfl
theorem dX11_shut_27 : decode cX11_shut 27 = .ok (.iconst 1, 1) := chk_nth ocX11_shut_0 (k := 13) rfl
theorem dX11_shut_28 : decode cX11_shut 28 = .ok (.if_icmp .le 6, 3) := chk_nth ocX11_shut_0 (k := 14) rfl
theorem dX11_shut_31 : decode cX11_shut 31 = .ok (.bipush (-2), 2) := chk_nth ocX11_shut_0 (k := 15) rfl
theorem dX11_shut_33 : decode cX11_shut 33 = .ok (.ireturn, 1) := chk_nth ocX11_shut_0 (k := 16) rfl
theorem dX11_shut_34 : decode cX11_shut 34 = .ok (.aload_n 0, 1) := chk_nth ocX11_shut_0 (k := 17) rfl
theorem dX11_shut_35 : decode cX11_shut 35 = .ok (.getfield 20, 3) := chk_nth ocX11_shut_0 (k := 18) rfl
theorem dX11_shut_38 : decode cX11_shut 38 = .ok (.iload_n 1, 1) := chk_nth ocX11_shut_0 (k := 19) rfl
theorem dX11_shut_39 : decode cX11_shut 39 = .ok (.invokevirtual 151, 3) := chk_nth ocX11_shut_0 (k := 20) rfl
theorem dX11_shut_42 : decode cX11_shut 42 = .ok (.iload_n 2, 1) := chk_nth ocX11_shut_0 (k := 21) rfl
theorem dX11_shut_43 : decode cX11_shut 43 = .ok (.if_icmp .ne 5, 3) := chk_nth ocX11_shut_0 (k := 22) rfl
theorem dX11_shut_46 : decode cX11_shut 46 = .ok (.iconst (-1), 1) := chk_nth ocX11_shut_0 (k := 23) rfl
def tcX11_shut_1 : List (Instr × Nat) := [(.ireturn, 1), (.aload_n 0, 1), (.getfield 12, 3), (.invokevirtual 287, 3), (.aload_n 0, 1), (.getfield 20, 3), (.aload_n 0, 1), (.getfield 12, 3), (.getfield 160, 3), (.invokevirtual 291, 3), (.iconst (-1), 1), (.ixor, 1), (.iand, 1), (.istore 4, 2), (.iload 4, 2), (.istore 5, 2), (.iconst 0, 1), (.istore 6, 2), (.iload 6, 2), (.iload 4, 2), (.if_icmp .ge 59, 3), (.iload 6, 2), (.invokestatic 308, 3), (.iload 5, 2)]
theorem ocX11_shut_1 : chk (cX11_shut.data.toList.drop 47) tcX11_shut_1 = true := by decide +kernel
theorem dX11_shut_47 : decode cX11_shut 47 = .ok (.ireturn, 1) := chk_nth ocX11_shut_1 (k := 0) rfl
theorem dX11_shut_48 : decode cX11_shut 48 = .ok (.aload_n 0, 1) := chk_nth ocX11_shut_1 (k := 1) rfl
theorem dX11_shut_49 : decode cX11_shut 49 = .ok (.getfield 12, 3) := chk_nth ocX11_shut_1 (k := 2) rfl
theorem dX11_shut_52 : decode cX11_shut 52 = .ok (.invokevirtual 287, 3) := chk_nth ocX11_shut_1 (k := 3) rfl
theorem dX11_shut_55 : decode cX11_shut 55 = .ok (.aload_n 0, 1) := chk_nth ocX11_shut_1 (k := 4) rfl
theorem dX11_shut_56 : decode cX11_shut 56 = .ok (.getfield 20, 3) := chk_nth ocX11_shut_1 (k := 5) rfl
theorem dX11_shut_59 : decode cX11_shut 59 = .ok (.aload_n 0, 1) := chk_nth ocX11_shut_1 (k := 6) rfl
theorem dX11_shut_60 : decode cX11_shut 60 = .ok (.getfield 12, 3) := chk_nth ocX11_shut_1 (k := 7) rfl
theorem dX11_shut_63 : decode cX11_shut 63 = .ok (.getfield 160, 3) := chk_nth ocX11_shut_1 (k := 8) rfl
theorem dX11_shut_66 : decode cX11_shut 66 = .ok (.invokevirtual 291, 3) := chk_nth ocX11_shut_1 (k := 9) rfl
theorem dX11_shut_69 : decode cX11_shut 69 = .ok (.iconst (-1), 1) := chk_nth ocX11_shut_1 (k := 10) rfl
theorem dX11_shut_70 : decode cX11_shut 70 = .ok (.ixor, 1) := chk_nth ocX11_shut_1 (k := 11) rfl
theorem dX11_shut_71 : decode cX11_shut 71 = .ok (.iand, 1) := chk_nth ocX11_shut_1 (k := 12) rfl
theorem dX11_shut_72 : decode cX11_shut 72 = .ok (.istore 4, 2) := chk_nth ocX11_shut_1 (k := 13) rfl
theorem dX11_shut_74 : decode cX11_shut 74 = .ok (.iload 4, 2) := chk_nth ocX11_shut_1 (k := 14) rfl
theorem dX11_shut_76 : decode cX11_shut 76 = .ok (.istore 5, 2) := chk_nth ocX11_shut_1 (k := 15) rfl
theorem dX11_shut_78 : decode cX11_shut 78 = .ok (.iconst 0, 1) := chk_nth ocX11_shut_1 (k := 16) rfl
theorem dX11_shut_79 : decode cX11_shut 79 = .ok (.istore 6, 2) := chk_nth ocX11_shut_1 (k := 17) rfl
theorem dX11_shut_81 : decode cX11_shut 81 = .ok (.iload 6, 2) := chk_nth ocX11_shut_1 (k := 18) rfl
theorem dX11_shut_83 : decode cX11_shut 83 = .ok (.iload 4, 2) := chk_nth ocX11_shut_1 (k := 19) rfl
theorem dX11_shut_85 : decode cX11_shut 85 = .ok (.if_icmp .ge 59, 3) := chk_nth ocX11_shut_1 (k := 20) rfl
theorem dX11_shut_88 : decode cX11_shut 88 = .ok (.iload 6, 2) := chk_nth ocX11_shut_1 (k := 21) rfl
theorem dX11_shut_90 : decode cX11_shut 90 = .ok (.invokestatic 308, 3) := chk_nth ocX11_shut_1 (k := 22) rfl
theorem dX11_shut_93 : decode cX11_shut 93 = .ok (.iload 5, 2) := chk_nth ocX11_shut_1 (k := 23) rfl
def tcX11_shut_2 : List (Instr × Nat) := [(.invokestatic 308, 3), (.if_icmp .ge 7, 3), (.iconst 1, 1), (.goto 4, 3), (.iconst 0, 1), (.istore 7, 2), (.iload 6, 2), (.iload 4, 2), (.iconst (-1), 1), (.ixor, 1), (.iand, 1), (.ifCond .ne 23, 3), (.iload 7, 2), (.ifCond .eq 18, 3), (.aload_n 0, 1), (.iload_n 1, 1), (.iload_n 2, 1), (.iload 6, 2), (.invokevirtual 313, 3), (.ifCond .eq 7, 3), (.iload 6, 2), (.istore 5, 2), (.iinc 6 1, 3), (.goto (-60), 3)]
theorem ocX11_shut_2 : chk (cX11_shut.data.toList.drop 95) tcX11_shut_2 = true := by decide +kernel
theorem dX11_shut_95 : decode cX11_shut 95 = .ok (.invokestatic 308, 3) := chk_nth ocX11_shut_2 (k := 0) rfl
theorem dX11_shut_98 : decode cX11_shut 98 = .ok (.if_icmp .ge 7, 3) := chk_nth ocX11_shut_2 (k := 1) rfl
theorem dX11_shut_101 : decode cX11_shut 101 = .ok (.iconst 1, 1) := chk_nth ocX11_shut_2 (k := 2) rfl
theorem dX11_shut_102 : decode cX11_shut 102 = .ok (.goto 4, 3) := chk_nth ocX11_shut_2 (k := 3) rfl
theorem dX11_shut_105 : decode cX11_shut 105 = .ok (.iconst 0, 1) := chk_nth ocX11_shut_2 (k := 4) rfl
theorem dX11_shut_106 : decode cX11_shut 106 = .ok (.istore 7, 2) := chk_nth ocX11_shut_2 (k := 5) rfl
theorem dX11_shut_108 : decode cX11_shut 108 = .ok (.iload 6, 2) := chk_nth ocX11_shut_2 (k := 6) rfl
theorem dX11_shut_110 : decode cX11_shut 110 = .ok (.iload 4, 2) := chk_nth ocX11_shut_2 (k := 7) rfl
theorem dX11_shut_112 : decode cX11_shut 112 = .ok (.iconst (-1), 1) := chk_nth ocX11_shut_2 (k := 8) rfl
theorem dX11_shut_113 : decode cX11_shut 113 = .ok (.ixor, 1) := chk_nth ocX11_shut_2 (k := 9) rfl
theorem dX11_shut_114 : decode cX11_shut 114 = .ok (.iand, 1) := chk_nth ocX11_shut_2 (k := 10) rfl
theorem dX11_shut_115 : decode cX11_shut 115 = .ok (.ifCond .ne 23, 3) := chk_nth ocX11_shut_2 (k := 11) rfl
theorem dX11_shut_118 : decode cX11_shut 118 = .ok (.iload 7, 2) := chk_nth ocX11_shut_2 (k := 12) rfl
theorem dX11_shut_120 : decode cX11_shut 120 = .ok (.ifCond .eq 18, 3) := chk_nth ocX11_shut_2 (k := 13) rfl
theorem dX11_shut_123 : decode cX11_shut 123 = .ok (.aload_n 0, 1) := chk_nth ocX11_shut_2 (k := 14) rfl
theorem dX11_shut_124 : decode cX11_shut 124 = .ok (.iload_n 1, 1) := chk_nth ocX11_shut_2 (k := 15) rfl
theorem dX11_shut_125 : decode cX11_shut 125 = .ok (.iload_n 2, 1) := chk_nth ocX11_shut_2 (k := 16) rfl
theorem dX11_shut_126 : decode cX11_shut 126 = .ok (.iload 6, 2) := chk_nth ocX11_shut_2 (k := 17) rfl
theorem dX11_shut_128 : decode cX11_shut 128 = .ok (.invokevirtual 313, 3) := chk_nth ocX11_shut_2 (k := 18) rfl
theorem dX11_shut_131 : decode cX11_shut 131 = .ok (.ifCond .eq 7, 3) := chk_nth ocX11_shut_2 (k := 19) rfl
theorem dX11_shut_134 : decode cX11_shut 134 = .ok (.iload 6, 2) := chk_nth ocX11_shut_2 (k := 20) rfl
theorem dX11_shut_136 : decode cX11_shut 136 = .ok (.istore 5, 2) := chk_nth ocX11_shut_2 (k := 21) rfl
theorem dX11_shut_138 : decode cX11_shut 138 = .ok (.iinc 6 1, 3) := chk_nth ocX11_shut_2 (k := 22) rfl
theorem dX11_shut_141 : decode cX11_shut 141 = .ok (.goto (-60), 3) := chk_nth ocX11_shut_2 (k := 23) rfl
def tcX11_shut_3 : List (Instr × Nat) := [(.iload_n 3, 1), (.ifCond .ne 11, 3), (.iload 5, 2), (.invokestatic 308, 3), (.goto 5, 3), (.iload 5, 2), (.ireturn, 1)]
theorem ocX11_shut_3 : chk (cX11_shut.data.toList.drop 144) tcX11_shut_3 = true := by decide +kernel
theorem dX11_shut_144 : decode cX11_shut 144 = .ok (.iload_n 3, 1) := chk_nth ocX11_shut_3 (k := 0) rfl
theorem dX11_shut_145 : decode cX11_shut 145 = .ok (.ifCond .ne 11, 3) := chk_nth ocX11_shut_3 (k := 1) rfl
theorem dX11_shut_148 : decode cX11_shut 148 = .ok (.iload 5, 2) := chk_nth ocX11_shut_3 (k := 2) rfl
theorem dX11_shut_150 : decode cX11_shut 150 = .ok (.invokestatic 308, 3) := chk_nth ocX11_shut_3 (k := 3) rfl
theorem dX11_shut_153 : decode cX11_shut 153 = .ok (.goto 5, 3) := chk_nth ocX11_shut_3 (k := 4) rfl
theorem dX11_shut_156 : decode cX11_shut 156 = .ok (.iload 5, 2) := chk_nth ocX11_shut_3 (k := 5) rfl
theorem dX11_shut_158 : decode cX11_shut 158 = .ok (.ireturn, 1) := chk_nth ocX11_shut_3 (k := 6) rfl
def tcX11_needed_0 : List (Instr × Nat) := [(.aload_n 0, 1), (.getfield 12, 3), (.iload_n 1, 1), (.invokevirtual 148, 3), (.ifCond .eq 14, 3), (.aload_n 0, 1), (.getfield 12, 3), (.iload_n 2, 1), (.invokevirtual 253, 3), (.ifCond .ne 6, 3), (.bipush (-2), 2), (.ireturn, 1), (.aload_n 0, 1), (.iload_n 1, 1), (.iload_n 2, 1), (.iconst (-1), 1), (.aload_n 0, 1), (.getfield 20, 3), (.invokevirtual 233, 3), (.iconst (-1), 1), (.if_icmp .ne 5, 3), (.iconst 0, 1), (.ireturn, 1), (.iconst 0, 1)]
theorem ocX11_needed_0 : chk (cX11_needed.data.toList.drop 0) tcX11_needed_0 = true := by decide +kernel
theorem dX11_needed_0 : decode cX11_needed 0 = .ok (.aload_n 0, 1) := chk_nth ocX11_needed_0 (k := 0) rfl
theorem dX11_needed_1 : decode cX11_needed 1 = .ok (.getfield 12, 3) := chk_nth ocX11_needed_0 (k := 1) rfl
theorem dX11_needed_4 : decode cX11_needed 4 = .ok (.iload_n 1, 1) := chk_nth ocX11_needed_0 (k := 2) rfl
theorem dX11_needed_5 : decode cX11_needed 5 = .ok (.invokevirtual 148, 3) := chk_nth ocX11_needed_0 (k := 3) rfl
theorem dX11_needed_8 : decode cX11_needed 8 = .ok (.ifCond .eq 14, 3) := chk_nth ocX11_needed_0 (k := 4) rfl
theorem dX11_needed_11 : decode cX11_needed 11 = .ok (.aload_n 0, 1) := chk_nth ocX11_needed_0 (k := 5) rfl
theorem dX11_needed_12 : decode cX11_needed 12 = .ok (.getfield 12, 3) := chk_nth ocX11_needed_0 (k := 6) rfl
theorem dX11_needed_15 : decode cX11_needed 15 = .ok (.iload_n 2, 1) := chk_nth ocX11_needed_0 (k := 7) rfl
theorem dX11_needed_16 : decode cX11_needed 16 = .ok (.invokevirtual 253, 3) := chk_nth ocX11_needed_0 (k := 8) rfl
theorem dX11_needed_19 : decode cX11_needed 19 = .ok (.ifCond .ne 6, 3) := chk_nth ocX11_needed_0 (k := 9) rfl
theorem dX11_needed_22 : decode cX11_needed 22 = .ok (.bipush (-2), 2) := chk_nth ocX11_needed_0 (k := 10) rfl
theorem dX11_needed_24 : decode cX11_needed 24 = .ok (.ireturn, 1) := chk_nth ocX11_needed_0 (k := 11) rfl
theorem dX11_needed_25 : decode cX11_needed 25 = .ok (.aload_n 0, 1) := chk_nth ocX11_needed_0 (k := 12) rfl
theorem dX11_needed_26 : decode cX11_needed 26 = .ok (.iload_n 1, 1) := chk_nth ocX11_needed_0 (k := 13) rfl
theorem dX11_needed_27 : decode cX11_needed 27 = .ok (.iload_n 2, 1) := chk_nth ocX11_needed_0 (k := 14) rfl
theorem dX11_needed_28 : decode cX11_needed 28 = .ok (.iconst (-1), 1) := chk_nth ocX11_needed_0 (k := 15) rfl
theorem dX11_needed_29 : decode cX11_needed 29 = .ok (.aload_n 0, 1) := chk_nth ocX11_needed_0 (k := 16) rfl
theorem dX11_needed_30 : decode cX11_needed 30 = .ok (.getfield 20, 3) := chk_nth ocX11_needed_0 (k := 17) rfl
theorem dX11_needed_33 : decode cX11_needed 33 = .ok (.invokevirtual 233, 3) := chk_nth ocX11_needed_0 (k := 18) rfl
theorem dX11_needed_36 : decode cX11_needed 36 = .ok (.iconst (-1), 1) := chk_nth ocX11_needed_0 (k := 19) rfl
theorem dX11_needed_37 : decode cX11_needed 37 = .ok (.if_icmp .ne 5, 3) := chk_nth ocX11_needed_0 (k := 20) rfl
theorem dX11_needed_40 : decode cX11_needed 40 = .ok (.iconst 0, 1) := chk_nth ocX11_needed_0 (k := 21) rfl
theorem dX11_needed_41 : decode cX11_needed 41 = .ok (.ireturn, 1) := chk_nth ocX11_needed_0 (k := 22) rfl
theorem dX11_needed_42 : decode cX11_needed 42 = .ok (.iconst 0, 1) := chk_nth ocX11_needed_0 (k := 23) rfl
def tcX11_needed_1 : List (Instr × Nat) := [(.istore_n 3, 1), (.iconst 0, 1), (.istore 4, 2), (.iload 4, 2), (.aload_n 0, 1), (.getfield 12, 3), (.getfield 160, 3), (.if_icmp .ge 42, 3), (.aload_n 0, 1), (.getfield 20, 3), (.iload 4, 2), (.invokevirtual 141, 3), (.iconst 3, 1), (.if_icmp .eq 23, 3), (.aload_n 0, 1), (.iload_n 1, 1), (.iload_n 2, 1), (.iconst 1, 1), (.iload 4, 2), (.ishl, 1), (.invokevirtual 313, 3), (.ifCond .eq 10, 3), (.iload_n 3, 1), (.iconst 1, 1)]
theorem ocX11_needed_1 : chk (cX11_needed.data.toList.drop 43) tcX11_needed_1 = true := by decide +kernel
theorem dX11_needed_43 : decode cX11_needed 43 = .ok (.istore_n 3, 1) := chk_nth ocX11_needed_1 (k := 0) rfl
theorem dX11_needed_44 : decode cX11_needed 44 = .ok (.iconst 0, 1) := chk_nth ocX11_needed_1 (k := 1) rfl
theorem dX11_needed_45 : decode cX11_needed 45 = .ok (.istore 4, 2) := chk_nth ocX11_needed_1 (k := 2) rfl
theorem dX11_needed_47 : decode cX11_needed 47 = .ok (.iload 4, 2) := chk_nth ocX11_needed_1 (k := 3) rfl
theorem dX11_needed_49 : decode cX11_needed 49 = .ok (.aload_n 0, 1) := chk_nth ocX11_needed_1 (k := 4) rfl
theorem dX11_needed_50 : decode cX11_needed 50 = .ok (.getfield 12, 3) := chk_nth ocX11_needed_1 (k := 5) rfl
theorem dX11_needed_53 : decode cX11_needed 53 = .ok (.getfield 160, 3) := chk_nth ocX11_needed_1 (k := 6) rfl
theorem dX11_needed_56 : decode cX11_needed 56 = .ok (.if_icmp .ge 42, 3) := chk_nth ocX11_needed_1 (k := 7) rfl
theorem dX11_needed_59 : decode cX11_needed 59 = .ok (.aload_n 0, 1) := chk_nth ocX11_needed_1 (k := 8) rfl
theorem dX11_needed_60 : decode cX11_needed 60 = .ok (.getfield 20, 3) := chk_nth ocX11_needed_1 (k := 9) rfl
theorem dX11_needed_63 : decode cX11_needed 63 = .ok (.iload 4, 2) := chk_nth ocX11_needed_1 (k := 10) rfl
theorem dX11_needed_65 : decode cX11_needed 65 = .ok (.invokevirtual 141, 3) := chk_nth ocX11_needed_1 (k := 11) rfl
theorem dX11_needed_68 : decode cX11_needed 68 = .ok (.iconst 3, 1) := chk_nth ocX11_needed_1 (k := 12) rfl
theorem dX11_needed_69 : decode cX11_needed 69 = .ok (.if_icmp .eq 23, 3) := chk_nth ocX11_needed_1 (k := 13) rfl
theorem dX11_needed_72 : decode cX11_needed 72 = .ok (.aload_n 0, 1) := chk_nth ocX11_needed_1 (k := 14) rfl
theorem dX11_needed_73 : decode cX11_needed 73 = .ok (.iload_n 1, 1) := chk_nth ocX11_needed_1 (k := 15) rfl
theorem dX11_needed_74 : decode cX11_needed 74 = .ok (.iload_n 2, 1) := chk_nth ocX11_needed_1 (k := 16) rfl
theorem dX11_needed_75 : decode cX11_needed 75 = .ok (.iconst 1, 1) := chk_nth ocX11_needed_1 (k := 17) rfl
theorem dX11_needed_76 : decode cX11_needed 76 = .ok (.iload 4, 2) := chk_nth ocX11_needed_1 (k := 18) rfl
theorem dX11_needed_78 : decode cX11_needed 78 = .ok (.ishl, 1) := chk_nth ocX11_needed_1 (k := 19) rfl
theorem dX11_needed_79 : decode cX11_needed 79 = .ok (.invokevirtual 313, 3) := chk_nth ocX11_needed_1 (k := 20) rfl
theorem dX11_needed_82 : decode cX11_needed 82 = .ok (.ifCond .eq 10, 3) := chk_nth ocX11_needed_1 (k := 21) rfl
theorem dX11_needed_85 : decode cX11_needed 85 = .ok (.iload_n 3, 1) := chk_nth ocX11_needed_1 (k := 22) rfl
theorem dX11_needed_86 : decode cX11_needed 86 = .ok (.iconst 1, 1) := chk_nth ocX11_needed_1 (k := 23) rfl
def tcX11_needed_2 : List (Instr × Nat) := [(.iload 4, 2), (.ishl, 1), (.ior, 1), (.istore_n 3, 1), (.iinc 4 1, 3), (.goto (-48), 3), (.iload_n 3, 1), (.ireturn, 1)]
theorem ocX11_needed_2 : chk (cX11_needed.data.toList.drop 87) tcX11_needed_2 = true := by decide +kernel
theorem dX11_needed_87 : decode cX11_needed 87 = .ok (.iload 4, 2) := chk_nth ocX11_needed_2 (k := 0) rfl
theorem dX11_needed_89 : decode cX11_needed 89 = .ok (.ishl, 1) := chk_nth ocX11_needed_2 (k := 1) rfl
theorem dX11_needed_90 : decode cX11_needed 90 = .ok (.ior, 1) := chk_nth ocX11_needed_2 (k := 2) rfl
theorem dX11_needed_91 : decode cX11_needed 91 = .ok (.istore_n 3, 1) := chk_nth ocX11_needed_2 (k := 3) rfl
theorem dX11_needed_92 : decode cX11_needed 92 = .ok (.iinc 4 1, 3) := chk_nth ocX11_needed_2 (k := 4) rfl
theorem dX11_needed_95 : decode cX11_needed 95 = .ok (.goto (-48), 3) := chk_nth ocX11_needed_2 (k := 5) rfl
theorem dX11_needed_98 : decode cX11_needed 98 = .ok (.iload_n 3, 1) := chk_nth ocX11_needed_2 (k := 6) rfl
theorem dX11_needed_99 : decode cX11_needed 99 = .ok (.ireturn, 1) := chk_nth ocX11_needed_2 (k := 7) rfl
def tcX11_shutsOff_0 : List (Instr × Nat) := [(.aload_n 0, 1), (.getfield 29, 3), (.aload_n 0, 1), (.getfield 20, 3), (.invokevirtual 170, 3), (.aload_n 0, 1), (.getfield 29, 3), (.iload_n 3, 1), (.aload_n 0, 1), (.getfield 12, 3), (.getfield 160, 3), (.invokevirtual 317, 3), (.aload_n 0, 1), (.iload_n 1, 1), (.iload_n 2, 1), (.iconst (-1), 1), (.aload_n 0, 1), (.getfield 29, 3), (.invokevirtual 233, 3), (.iconst (-1), 1), (.if_icmp .ne 7, 3), (.iconst 1, 1), (.goto 4, 3), (.iconst 0, 1)]
theorem ocX11_shutsOff_0 : chk (cX11_shutsOff.data.toList.drop 0) tcX11_shutsOff_0 = true := by decide +kernel
theorem dX11_shutsOff_0 : decode cX11_shutsOff 0 = .ok (.aload_n 0, 1) := chk_nth ocX11_shutsOff_0 (k := 0) rfl
theorem dX11_shutsOff_1 : decode cX11_shutsOff 1 = .ok (.getfield 29, 3) := chk_nth ocX11_shutsOff_0 (k := 1) rfl
theorem dX11_shutsOff_4 : decode cX11_shutsOff 4 = .ok (.aload_n 0, 1) := chk_nth ocX11_shutsOff_0 (k := 2) rfl
theorem dX11_shutsOff_5 : decode cX11_shutsOff 5 = .ok (.getfield 20, 3) := chk_nth ocX11_shutsOff_0 (k := 3) rfl
theorem dX11_shutsOff_8 : decode cX11_shutsOff 8 = .ok (.invokevirtual 170, 3) := chk_nth ocX11_shutsOff_0 (k := 4) rfl
theorem dX11_shutsOff_11 : decode cX11_shutsOff 11 = .ok (.aload_n 0, 1) := chk_nth ocX11_shutsOff_0 (k := 5) rfl
theorem dX11_shutsOff_12 : decode cX11_shutsOff 12 = .ok (.getfield 29, 3) := chk_nth ocX11_shutsOff_0 (k := 6) rfl
theorem dX11_shutsOff_15 : decode cX11_shutsOff 15 = .ok (.iload_n 3, 1) := chk_nth ocX11_shutsOff_0 (k := 7) rfl
theorem dX11_shutsOff_16 : decode cX11_shutsOff 16 = .ok (.aload_n 0, 1) := chk_nth ocX11_shutsOff_0 (k := 8) rfl
theorem dX11_shutsOff_17 : decode cX11_shutsOff 17 = .ok (.getfield 12, 3) := chk_nth ocX11_shutsOff_0 (k := 9) rfl
theorem dX11_shutsOff_20 : decode cX11_shutsOff 20 = .ok (.getfield 160, 3) := chk_nth ocX11_shutsOff_0 (k := 10) rfl
theorem dX11_shutsOff_23 : decode cX11_shutsOff 23 = .ok (.invokevirtual 317, 3) := chk_nth ocX11_shutsOff_0 (k := 11) rfl
theorem dX11_shutsOff_26 : decode cX11_shutsOff 26 = .ok (.aload_n 0, 1) := chk_nth ocX11_shutsOff_0 (k := 12) rfl
theorem dX11_shutsOff_27 : decode cX11_shutsOff 27 = .ok (.iload_n 1, 1) := chk_nth ocX11_shutsOff_0 (k := 13) rfl
theorem dX11_shutsOff_28 : decode cX11_shutsOff 28 = .ok (.iload_n 2, 1) := chk_nth ocX11_shutsOff_0 (k := 14) rfl
theorem dX11_shutsOff_29 : decode cX11_shutsOff 29 = .ok (.iconst (-1), 1) := chk_nth ocX11_shutsOff_0 (k := 15) rfl
theorem dX11_shutsOff_30 : decode cX11_shutsOff 30 = .ok (.aload_n 0, 1) := chk_nth ocX11_shutsOff_0 (k := 16) rfl
theorem dX11_shutsOff_31 : decode cX11_shutsOff 31 = .ok (.getfield 29, 3) := chk_nth ocX11_shutsOff_0 (k := 17) rfl
theorem dX11_shutsOff_34 : decode cX11_shutsOff 34 = .ok (.invokevirtual 233, 3) := chk_nth ocX11_shutsOff_0 (k := 18) rfl
theorem dX11_shutsOff_37 : decode cX11_shutsOff 37 = .ok (.iconst (-1), 1) := chk_nth ocX11_shutsOff_0 (k := 19) rfl
theorem dX11_shutsOff_38 : decode cX11_shutsOff 38 = .ok (.if_icmp .ne 7, 3) := chk_nth ocX11_shutsOff_0 (k := 20) rfl
theorem dX11_shutsOff_41 : decode cX11_shutsOff 41 = .ok (.iconst 1, 1) := chk_nth ocX11_shutsOff_0 (k := 21) rfl
theorem dX11_shutsOff_42 : decode cX11_shutsOff 42 = .ok (.goto 4, 3) := chk_nth ocX11_shutsOff_0 (k := 22) rfl
theorem dX11_shutsOff_45 : decode cX11_shutsOff 45 = .ok (.iconst 0, 1) := chk_nth ocX11_shutsOff_0 (k := 23) rfl
def tcX11_shutsOff_1 : List (Instr × Nat) := [(.ireturn, 1)]
theorem ocX11_shutsOff_1 : chk (cX11_shutsOff.data.toList.drop 46) tcX11_shutsOff_1 = true := by decide +kernel
theorem dX11_shutsOff_46 : decode cX11_shutsOff 46 = .ok (.ireturn, 1) := chk_nth ocX11_shutsOff_1 (k := 0) rfl
def tcX11_from_0 : List (Instr × Nat) := [(.aload_n 0, 1), (.iload_n 1, 1), (.invokevirtual 204, 3), (.astore 4, 2), (.aload_n 0, 1), (.aload 4, 2), (.iload_n 2, 1), (.iload_n 3, 1), (.invokevirtual 320, 3), (.istore 5, 2), (.iload 5, 2), (.ifCond .eq 6, 3), (.iload 5, 2), (.ireturn, 1), (.iconst 0, 1), (.istore 6, 2), (.iconst 0, 1), (.istore 7, 2), (.iload 7, 2), (.aload_n 0, 1), (.getfield 12, 3), (.getfield 324, 3), (.if_icmp .ge 35, 3), (.aload_n 0, 1)]
theorem ocX11_from_0 : chk (cX11_from.data.toList.drop 0) tcX11_from_0 = true := by decide +kernel
theorem dX11_from_0 : decode cX11_from 0 = .ok (.aload_n 0, 1) := chk_nth ocX11_from_0 (k := 0) rfl
theorem dX11_from_1 : decode cX11_from 1 = .ok (.iload_n 1, 1) := chk_nth ocX11_from_0 (k := 1) rfl
theorem dX11_from_2 : decode cX11_from 2 = .ok (.invokevirtual 204, 3) := chk_nth ocX11_from_0 (k := 2) rfl
theorem dX11_from_5 : decode cX11_from 5 = .ok (.astore 4, 2) := chk_nth ocX11_from_0 (k := 3) rfl
theorem dX11_from_7 : decode cX11_from 7 = .ok (.aload_n 0, 1) := chk_nth ocX11_from_0 (k := 4) rfl
theorem dX11_from_8 : decode cX11_from 8 = .ok (.aload 4, 2) := chk_nth ocX11_from_0 (k := 5) rfl
theorem dX11_from_10 : decode cX11_from 10 = .ok (.iload_n 2, 1) := chk_nth ocX11_from_0 (k := 6) rfl
theorem dX11_from_11 : decode cX11_from 11 = .ok (.iload_n 3, 1) := chk_nth ocX11_from_0 (k := 7) rfl
theorem dX11_from_12 : decode cX11_from 12 = .ok (.invokevirtual 320, 3) := chk_nth ocX11_from_0 (k := 8) rfl
theorem dX11_from_15 : decode cX11_from 15 = .ok (.istore 5, 2) := chk_nth ocX11_from_0 (k := 9) rfl
theorem dX11_from_17 : decode cX11_from 17 = .ok (.iload 5, 2) := chk_nth ocX11_from_0 (k := 10) rfl
theorem dX11_from_19 : decode cX11_from 19 = .ok (.ifCond .eq 6, 3) := chk_nth ocX11_from_0 (k := 11) rfl
theorem dX11_from_22 : decode cX11_from 22 = .ok (.iload 5, 2) := chk_nth ocX11_from_0 (k := 12) rfl
theorem dX11_from_24 : decode cX11_from 24 = .ok (.ireturn, 1) := chk_nth ocX11_from_0 (k := 13) rfl
theorem dX11_from_25 : decode cX11_from 25 = .ok (.iconst 0, 1) := chk_nth ocX11_from_0 (k := 14) rfl
theorem dX11_from_26 : decode cX11_from 26 = .ok (.istore 6, 2) := chk_nth ocX11_from_0 (k := 15) rfl
theorem dX11_from_28 : decode cX11_from 28 = .ok (.iconst 0, 1) := chk_nth ocX11_from_0 (k := 16) rfl
theorem dX11_from_29 : decode cX11_from 29 = .ok (.istore 7, 2) := chk_nth ocX11_from_0 (k := 17) rfl
theorem dX11_from_31 : decode cX11_from 31 = .ok (.iload 7, 2) := chk_nth ocX11_from_0 (k := 18) rfl
theorem dX11_from_33 : decode cX11_from 33 = .ok (.aload_n 0, 1) := chk_nth ocX11_from_0 (k := 19) rfl
theorem dX11_from_34 : decode cX11_from 34 = .ok (.getfield 12, 3) := chk_nth ocX11_from_0 (k := 20) rfl
theorem dX11_from_37 : decode cX11_from 37 = .ok (.getfield 324, 3) := chk_nth ocX11_from_0 (k := 21) rfl
theorem dX11_from_40 : decode cX11_from 40 = .ok (.if_icmp .ge 35, 3) := chk_nth ocX11_from_0 (k := 22) rfl
theorem dX11_from_43 : decode cX11_from 43 = .ok (.aload_n 0, 1) := chk_nth ocX11_from_0 (k := 23) rfl
def tcX11_from_1 : List (Instr × Nat) := [(.aload 4, 2), (.iload_n 2, 1), (.iload 7, 2), (.aload_n 0, 1), (.getfield 20, 3), (.invokevirtual 327, 3), (.iload_n 3, 1), (.if_icmp .ne 12, 3), (.iload 6, 2), (.iconst 1, 1), (.iload 7, 2), (.ishl, 1), (.ior, 1), (.istore 6, 2), (.iinc 7 1, 3), (.goto (-41), 3), (.iload 6, 2), (.ireturn, 1)]
theorem ocX11_from_1 : chk (cX11_from.data.toList.drop 44) tcX11_from_1 = true := by decide +kernel
theorem dX11_from_44 : decode cX11_from 44 = .ok (.aload 4, 2) := chk_nth ocX11_from_1 (k := 0) rfl
theorem dX11_from_46 : decode cX11_from 46 = .ok (.iload_n 2, 1) := chk_nth ocX11_from_1 (k := 1) rfl
theorem dX11_from_47 : decode cX11_from 47 = .ok (.iload 7, 2) := chk_nth ocX11_from_1 (k := 2) rfl
theorem dX11_from_49 : decode cX11_from 49 = .ok (.aload_n 0, 1) := chk_nth ocX11_from_1 (k := 3) rfl
theorem dX11_from_50 : decode cX11_from 50 = .ok (.getfield 20, 3) := chk_nth ocX11_from_1 (k := 4) rfl
theorem dX11_from_53 : decode cX11_from 53 = .ok (.invokevirtual 327, 3) := chk_nth ocX11_from_1 (k := 5) rfl
theorem dX11_from_56 : decode cX11_from 56 = .ok (.iload_n 3, 1) := chk_nth ocX11_from_1 (k := 6) rfl
theorem dX11_from_57 : decode cX11_from 57 = .ok (.if_icmp .ne 12, 3) := chk_nth ocX11_from_1 (k := 7) rfl
theorem dX11_from_60 : decode cX11_from 60 = .ok (.iload 6, 2) := chk_nth ocX11_from_1 (k := 8) rfl
theorem dX11_from_62 : decode cX11_from 62 = .ok (.iconst 1, 1) := chk_nth ocX11_from_1 (k := 9) rfl
theorem dX11_from_63 : decode cX11_from 63 = .ok (.iload 7, 2) := chk_nth ocX11_from_1 (k := 10) rfl
theorem dX11_from_65 : decode cX11_from 65 = .ok (.ishl, 1) := chk_nth ocX11_from_1 (k := 11) rfl
theorem dX11_from_66 : decode cX11_from 66 = .ok (.ior, 1) := chk_nth ocX11_from_1 (k := 12) rfl
theorem dX11_from_67 : decode cX11_from 67 = .ok (.istore 6, 2) := chk_nth ocX11_from_1 (k := 13) rfl
theorem dX11_from_69 : decode cX11_from 69 = .ok (.iinc 7 1, 3) := chk_nth ocX11_from_1 (k := 14) rfl
theorem dX11_from_72 : decode cX11_from 72 = .ok (.goto (-41), 3) := chk_nth ocX11_from_1 (k := 15) rfl
theorem dX11_from_75 : decode cX11_from 75 = .ok (.iload 6, 2) := chk_nth ocX11_from_1 (k := 16) rfl
theorem dX11_from_77 : decode cX11_from 77 = .ok (.ireturn, 1) := chk_nth ocX11_from_1 (k := 17) rfl
def tcX11_bollardsBy_0 : List (Instr × Nat) := [(.aload_n 0, 1), (.iload_n 1, 1), (.invokevirtual 204, 3), (.astore 4, 2), (.aload_n 0, 1), (.aload 4, 2), (.iload_n 2, 1), (.iload_n 3, 1), (.invokevirtual 320, 3), (.istore 5, 2), (.iload 5, 2), (.ifCond .eq 6, 3), (.iload 5, 2), (.ireturn, 1), (.aload_n 0, 1), (.aload 4, 2), (.iload_n 2, 1), (.iload_n 3, 1), (.invokevirtual 331, 3), (.ireturn, 1)]
theorem ocX11_bollardsBy_0 : chk (cX11_bollardsBy.data.toList.drop 0) tcX11_bollardsBy_0 = true := by decide +kernel
theorem dX11_bollardsBy_0 : decode cX11_bollardsBy 0 = .ok (.aload_n 0, 1) := chk_nth ocX11_bollardsBy_0 (k := 0) rfl
theorem dX11_bollardsBy_1 : decode cX11_bollardsBy 1 = .ok (.iload_n 1, 1) := chk_nth ocX11_bollardsBy_0 (k := 1) rfl
theorem dX11_bollardsBy_2 : decode cX11_bollardsBy 2 = .ok (.invokevirtual 204, 3) := chk_nth ocX11_bollardsBy_0 (k := 2) rfl
theorem dX11_bollardsBy_5 : decode cX11_bollardsBy 5 = .ok (.astore 4, 2) := chk_nth ocX11_bollardsBy_0 (k := 3) rfl
theorem dX11_bollardsBy_7 : decode cX11_bollardsBy 7 = .ok (.aload_n 0, 1) := chk_nth ocX11_bollardsBy_0 (k := 4) rfl
theorem dX11_bollardsBy_8 : decode cX11_bollardsBy 8 = .ok (.aload 4, 2) := chk_nth ocX11_bollardsBy_0 (k := 5) rfl
theorem dX11_bollardsBy_10 : decode cX11_bollardsBy 10 = .ok (.iload_n 2, 1) := chk_nth ocX11_bollardsBy_0 (k := 6) rfl
theorem dX11_bollardsBy_11 : decode cX11_bollardsBy 11 = .ok (.iload_n 3, 1) := chk_nth ocX11_bollardsBy_0 (k := 7) rfl
theorem dX11_bollardsBy_12 : decode cX11_bollardsBy 12 = .ok (.invokevirtual 320, 3) := chk_nth ocX11_bollardsBy_0 (k := 8) rfl
theorem dX11_bollardsBy_15 : decode cX11_bollardsBy 15 = .ok (.istore 5, 2) := chk_nth ocX11_bollardsBy_0 (k := 9) rfl
theorem dX11_bollardsBy_17 : decode cX11_bollardsBy 17 = .ok (.iload 5, 2) := chk_nth ocX11_bollardsBy_0 (k := 10) rfl
theorem dX11_bollardsBy_19 : decode cX11_bollardsBy 19 = .ok (.ifCond .eq 6, 3) := chk_nth ocX11_bollardsBy_0 (k := 11) rfl
theorem dX11_bollardsBy_22 : decode cX11_bollardsBy 22 = .ok (.iload 5, 2) := chk_nth ocX11_bollardsBy_0 (k := 12) rfl
theorem dX11_bollardsBy_24 : decode cX11_bollardsBy 24 = .ok (.ireturn, 1) := chk_nth ocX11_bollardsBy_0 (k := 13) rfl
theorem dX11_bollardsBy_25 : decode cX11_bollardsBy 25 = .ok (.aload_n 0, 1) := chk_nth ocX11_bollardsBy_0 (k := 14) rfl
theorem dX11_bollardsBy_26 : decode cX11_bollardsBy 26 = .ok (.aload 4, 2) := chk_nth ocX11_bollardsBy_0 (k := 15) rfl
theorem dX11_bollardsBy_28 : decode cX11_bollardsBy 28 = .ok (.iload_n 2, 1) := chk_nth ocX11_bollardsBy_0 (k := 16) rfl
theorem dX11_bollardsBy_29 : decode cX11_bollardsBy 29 = .ok (.iload_n 3, 1) := chk_nth ocX11_bollardsBy_0 (k := 17) rfl
theorem dX11_bollardsBy_30 : decode cX11_bollardsBy 30 = .ok (.invokevirtual 331, 3) := chk_nth ocX11_bollardsBy_0 (k := 18) rfl
theorem dX11_bollardsBy_33 : decode cX11_bollardsBy 33 = .ok (.ireturn, 1) := chk_nth ocX11_bollardsBy_0 (k := 19) rfl
def tcX11_attempt_0 : List (Instr × Nat) := [(.aload_n 0, 1), (.iload_n 1, 1), (.invokevirtual 204, 3), (.astore 4, 2), (.aload_n 0, 1), (.aload 4, 2), (.iload_n 2, 1), (.iload_n 3, 1), (.invokevirtual 320, 3), (.istore 5, 2), (.iload 5, 2), (.ifCond .eq 6, 3), (.iload 5, 2), (.ireturn, 1), (.aload_n 0, 1), (.aload 4, 2), (.iload_n 2, 1), (.iload_n 3, 1), (.invokevirtual 331, 3), (.istore 6, 2), (.iload 6, 2), (.ifCond .ne 5, 3), (.iconst (-1), 1), (.ireturn, 1)]
theorem ocX11_attempt_0 : chk (cX11_attempt.data.toList.drop 0) tcX11_attempt_0 = true := by decide +kernel
theorem dX11_attempt_0 : decode cX11_attempt 0 = .ok (.aload_n 0, 1) := chk_nth ocX11_attempt_0 (k := 0) rfl
theorem dX11_attempt_1 : decode cX11_attempt 1 = .ok (.iload_n 1, 1) := chk_nth ocX11_attempt_0 (k := 1) rfl
theorem dX11_attempt_2 : decode cX11_attempt 2 = .ok (.invokevirtual 204, 3) := chk_nth ocX11_attempt_0 (k := 2) rfl
theorem dX11_attempt_5 : decode cX11_attempt 5 = .ok (.astore 4, 2) := chk_nth ocX11_attempt_0 (k := 3) rfl
theorem dX11_attempt_7 : decode cX11_attempt 7 = .ok (.aload_n 0, 1) := chk_nth ocX11_attempt_0 (k := 4) rfl
theorem dX11_attempt_8 : decode cX11_attempt 8 = .ok (.aload 4, 2) := chk_nth ocX11_attempt_0 (k := 5) rfl
theorem dX11_attempt_10 : decode cX11_attempt 10 = .ok (.iload_n 2, 1) := chk_nth ocX11_attempt_0 (k := 6) rfl
theorem dX11_attempt_11 : decode cX11_attempt 11 = .ok (.iload_n 3, 1) := chk_nth ocX11_attempt_0 (k := 7) rfl
theorem dX11_attempt_12 : decode cX11_attempt 12 = .ok (.invokevirtual 320, 3) := chk_nth ocX11_attempt_0 (k := 8) rfl
theorem dX11_attempt_15 : decode cX11_attempt 15 = .ok (.istore 5, 2) := chk_nth ocX11_attempt_0 (k := 9) rfl
theorem dX11_attempt_17 : decode cX11_attempt 17 = .ok (.iload 5, 2) := chk_nth ocX11_attempt_0 (k := 10) rfl
theorem dX11_attempt_19 : decode cX11_attempt 19 = .ok (.ifCond .eq 6, 3) := chk_nth ocX11_attempt_0 (k := 11) rfl
theorem dX11_attempt_22 : decode cX11_attempt 22 = .ok (.iload 5, 2) := chk_nth ocX11_attempt_0 (k := 12) rfl
theorem dX11_attempt_24 : decode cX11_attempt 24 = .ok (.ireturn, 1) := chk_nth ocX11_attempt_0 (k := 13) rfl
theorem dX11_attempt_25 : decode cX11_attempt 25 = .ok (.aload_n 0, 1) := chk_nth ocX11_attempt_0 (k := 14) rfl
theorem dX11_attempt_26 : decode cX11_attempt 26 = .ok (.aload 4, 2) := chk_nth ocX11_attempt_0 (k := 15) rfl
theorem dX11_attempt_28 : decode cX11_attempt 28 = .ok (.iload_n 2, 1) := chk_nth ocX11_attempt_0 (k := 16) rfl
theorem dX11_attempt_29 : decode cX11_attempt 29 = .ok (.iload_n 3, 1) := chk_nth ocX11_attempt_0 (k := 17) rfl
theorem dX11_attempt_30 : decode cX11_attempt 30 = .ok (.invokevirtual 331, 3) := chk_nth ocX11_attempt_0 (k := 18) rfl
theorem dX11_attempt_33 : decode cX11_attempt 33 = .ok (.istore 6, 2) := chk_nth ocX11_attempt_0 (k := 19) rfl
theorem dX11_attempt_35 : decode cX11_attempt 35 = .ok (.iload 6, 2) := chk_nth ocX11_attempt_0 (k := 20) rfl
theorem dX11_attempt_37 : decode cX11_attempt 37 = .ok (.ifCond .ne 5, 3) := chk_nth ocX11_attempt_0 (k := 21) rfl
theorem dX11_attempt_40 : decode cX11_attempt 40 = .ok (.iconst (-1), 1) := chk_nth ocX11_attempt_0 (k := 22) rfl
theorem dX11_attempt_41 : decode cX11_attempt 41 = .ok (.ireturn, 1) := chk_nth ocX11_attempt_0 (k := 23) rfl
def tcX11_attempt_1 : List (Instr × Nat) := [(.iconst (-1), 1), (.istore 7, 2), (.bipush 11, 2), (.istore 8, 2), (.iconst 0, 1), (.istore 9, 2), (.iload 9, 2), (.aload_n 0, 1), (.getfield 12, 3), (.getfield 160, 3), (.if_icmp .ge 35, 3), (.aload_n 0, 1), (.iload_n 2, 1), (.iload 9, 2), (.iload 6, 2), (.invokevirtual 334, 3), (.istore 10, 2), (.iload 10, 2), (.iload 8, 2), (.if_icmp .ge 11, 3), (.iload 9, 2), (.istore 7, 2), (.iload 10, 2), (.istore 8, 2)]
theorem ocX11_attempt_1 : chk (cX11_attempt.data.toList.drop 42) tcX11_attempt_1 = true := by decide +kernel
theorem dX11_attempt_42 : decode cX11_attempt 42 = .ok (.iconst (-1), 1) := chk_nth ocX11_attempt_1 (k := 0) rfl
theorem dX11_attempt_43 : decode cX11_attempt 43 = .ok (.istore 7, 2) := chk_nth ocX11_attempt_1 (k := 1) rfl
theorem dX11_attempt_45 : decode cX11_attempt 45 = .ok (.bipush 11, 2) := chk_nth ocX11_attempt_1 (k := 2) rfl
theorem dX11_attempt_47 : decode cX11_attempt 47 = .ok (.istore 8, 2) := chk_nth ocX11_attempt_1 (k := 3) rfl
theorem dX11_attempt_49 : decode cX11_attempt 49 = .ok (.iconst 0, 1) := chk_nth ocX11_attempt_1 (k := 4) rfl
theorem dX11_attempt_50 : decode cX11_attempt 50 = .ok (.istore 9, 2) := chk_nth ocX11_attempt_1 (k := 5) rfl
theorem dX11_attempt_52 : decode cX11_attempt 52 = .ok (.iload 9, 2) := chk_nth ocX11_attempt_1 (k := 6) rfl
theorem dX11_attempt_54 : decode cX11_attempt 54 = .ok (.aload_n 0, 1) := chk_nth ocX11_attempt_1 (k := 7) rfl
theorem dX11_attempt_55 : decode cX11_attempt 55 = .ok (.getfield 12, 3) := chk_nth ocX11_attempt_1 (k := 8) rfl
theorem dX11_attempt_58 : decode cX11_attempt 58 = .ok (.getfield 160, 3) := chk_nth ocX11_attempt_1 (k := 9) rfl
theorem dX11_attempt_61 : decode cX11_attempt 61 = .ok (.if_icmp .ge 35, 3) := chk_nth ocX11_attempt_1 (k := 10) rfl
theorem dX11_attempt_64 : decode cX11_attempt 64 = .ok (.aload_n 0, 1) := chk_nth ocX11_attempt_1 (k := 11) rfl
theorem dX11_attempt_65 : decode cX11_attempt 65 = .ok (.iload_n 2, 1) := chk_nth ocX11_attempt_1 (k := 12) rfl
theorem dX11_attempt_66 : decode cX11_attempt 66 = .ok (.iload 9, 2) := chk_nth ocX11_attempt_1 (k := 13) rfl
theorem dX11_attempt_68 : decode cX11_attempt 68 = .ok (.iload 6, 2) := chk_nth ocX11_attempt_1 (k := 14) rfl
theorem dX11_attempt_70 : decode cX11_attempt 70 = .ok (.invokevirtual 334, 3) := chk_nth ocX11_attempt_1 (k := 15) rfl
theorem dX11_attempt_73 : decode cX11_attempt 73 = .ok (.istore 10, 2) := chk_nth ocX11_attempt_1 (k := 16) rfl
theorem dX11_attempt_75 : decode cX11_attempt 75 = .ok (.iload 10, 2) := chk_nth ocX11_attempt_1 (k := 17) rfl
theorem dX11_attempt_77 : decode cX11_attempt 77 = .ok (.iload 8, 2) := chk_nth ocX11_attempt_1 (k := 18) rfl
theorem dX11_attempt_79 : decode cX11_attempt 79 = .ok (.if_icmp .ge 11, 3) := chk_nth ocX11_attempt_1 (k := 19) rfl
theorem dX11_attempt_82 : decode cX11_attempt 82 = .ok (.iload 9, 2) := chk_nth ocX11_attempt_1 (k := 20) rfl
theorem dX11_attempt_84 : decode cX11_attempt 84 = .ok (.istore 7, 2) := chk_nth ocX11_attempt_1 (k := 21) rfl
theorem dX11_attempt_86 : decode cX11_attempt 86 = .ok (.iload 10, 2) := chk_nth ocX11_attempt_1 (k := 22) rfl
theorem dX11_attempt_88 : decode cX11_attempt 88 = .ok (.istore 8, 2) := chk_nth ocX11_attempt_1 (k := 23) rfl
def tcX11_attempt_2 : List (Instr × Nat) := [(.iinc 9 1, 3), (.goto (-41), 3), (.iload 7, 2), (.ireturn, 1)]
theorem ocX11_attempt_2 : chk (cX11_attempt.data.toList.drop 90) tcX11_attempt_2 = true := by decide +kernel
theorem dX11_attempt_90 : decode cX11_attempt 90 = .ok (.iinc 9 1, 3) := chk_nth ocX11_attempt_2 (k := 0) rfl
theorem dX11_attempt_93 : decode cX11_attempt 93 = .ok (.goto (-41), 3) := chk_nth ocX11_attempt_2 (k := 1) rfl
theorem dX11_attempt_96 : decode cX11_attempt 96 = .ok (.iload 7, 2) := chk_nth ocX11_attempt_2 (k := 2) rfl
theorem dX11_attempt_98 : decode cX11_attempt 98 = .ok (.ireturn, 1) := chk_nth ocX11_attempt_2 (k := 3) rfl
def tcX11_refusesTook_0 : List (Instr × Nat) := [(.aload_n 1, 1), (.ifnull 14, 3), (.aload_n 0, 1), (.getfield 12, 3), (.iload_n 2, 1), (.invokevirtual 148, 3), (.ifCond .ne 6, 3), (.bipush (-2), 2), (.ireturn, 1), (.aload_n 1, 1), (.invokevirtual 208, 3), (.ifCond .eq 6, 3), (.bipush (-6), 2), (.ireturn, 1), (.aload_n 1, 1), (.getfield 337, 3), (.iconst 1, 1), (.if_icmp .lt 12, 3), (.aload_n 1, 1), (.getfield 337, 3), (.bipush 10, 2), (.if_icmp .le 6, 3), (.bipush (-4), 2), (.ireturn, 1)]
theorem ocX11_refusesTook_0 : chk (cX11_refusesTook.data.toList.drop 0) tcX11_refusesTook_0 = true := by decide +kernel
theorem dX11_refusesTook_0 : decode cX11_refusesTook 0 = .ok (.aload_n 1, 1) := chk_nth ocX11_refusesTook_0 (k := 0) rfl
theorem dX11_refusesTook_1 : decode cX11_refusesTook 1 = .ok (.ifnull 14, 3) := chk_nth ocX11_refusesTook_0 (k := 1) rfl
theorem dX11_refusesTook_4 : decode cX11_refusesTook 4 = .ok (.aload_n 0, 1) := chk_nth ocX11_refusesTook_0 (k := 2) rfl
theorem dX11_refusesTook_5 : decode cX11_refusesTook 5 = .ok (.getfield 12, 3) := chk_nth ocX11_refusesTook_0 (k := 3) rfl
theorem dX11_refusesTook_8 : decode cX11_refusesTook 8 = .ok (.iload_n 2, 1) := chk_nth ocX11_refusesTook_0 (k := 4) rfl
theorem dX11_refusesTook_9 : decode cX11_refusesTook 9 = .ok (.invokevirtual 148, 3) := chk_nth ocX11_refusesTook_0 (k := 5) rfl
theorem dX11_refusesTook_12 : decode cX11_refusesTook 12 = .ok (.ifCond .ne 6, 3) := chk_nth ocX11_refusesTook_0 (k := 6) rfl
theorem dX11_refusesTook_15 : decode cX11_refusesTook 15 = .ok (.bipush (-2), 2) := chk_nth ocX11_refusesTook_0 (k := 7) rfl
theorem dX11_refusesTook_17 : decode cX11_refusesTook 17 = .ok (.ireturn, 1) := chk_nth ocX11_refusesTook_0 (k := 8) rfl
theorem dX11_refusesTook_18 : decode cX11_refusesTook 18 = .ok (.aload_n 1, 1) := chk_nth ocX11_refusesTook_0 (k := 9) rfl
theorem dX11_refusesTook_19 : decode cX11_refusesTook 19 = .ok (.invokevirtual 208, 3) := chk_nth ocX11_refusesTook_0 (k := 10) rfl
theorem dX11_refusesTook_22 : decode cX11_refusesTook 22 = .ok (.ifCond .eq 6, 3) := chk_nth ocX11_refusesTook_0 (k := 11) rfl
theorem dX11_refusesTook_25 : decode cX11_refusesTook 25 = .ok (.bipush (-6), 2) := chk_nth ocX11_refusesTook_0 (k := 12) rfl
theorem dX11_refusesTook_27 : decode cX11_refusesTook 27 = .ok (.ireturn, 1) := chk_nth ocX11_refusesTook_0 (k := 13) rfl
theorem dX11_refusesTook_28 : decode cX11_refusesTook 28 = .ok (.aload_n 1, 1) := chk_nth ocX11_refusesTook_0 (k := 14) rfl
theorem dX11_refusesTook_29 : decode cX11_refusesTook 29 = .ok (.getfield 337, 3) := chk_nth ocX11_refusesTook_0 (k := 15) rfl
theorem dX11_refusesTook_32 : decode cX11_refusesTook 32 = .ok (.iconst 1, 1) := chk_nth ocX11_refusesTook_0 (k := 16) rfl
theorem dX11_refusesTook_33 : decode cX11_refusesTook 33 = .ok (.if_icmp .lt 12, 3) := chk_nth ocX11_refusesTook_0 (k := 17) rfl
theorem dX11_refusesTook_36 : decode cX11_refusesTook 36 = .ok (.aload_n 1, 1) := chk_nth ocX11_refusesTook_0 (k := 18) rfl
theorem dX11_refusesTook_37 : decode cX11_refusesTook 37 = .ok (.getfield 337, 3) := chk_nth ocX11_refusesTook_0 (k := 19) rfl
theorem dX11_refusesTook_40 : decode cX11_refusesTook 40 = .ok (.bipush 10, 2) := chk_nth ocX11_refusesTook_0 (k := 20) rfl
theorem dX11_refusesTook_42 : decode cX11_refusesTook 42 = .ok (.if_icmp .le 6, 3) := chk_nth ocX11_refusesTook_0 (k := 21) rfl
theorem dX11_refusesTook_45 : decode cX11_refusesTook 45 = .ok (.bipush (-4), 2) := chk_nth ocX11_refusesTook_0 (k := 22) rfl
theorem dX11_refusesTook_47 : decode cX11_refusesTook 47 = .ok (.ireturn, 1) := chk_nth ocX11_refusesTook_0 (k := 23) rfl
def tcX11_refusesTook_1 : List (Instr × Nat) := [(.iconst 0, 1), (.istore 4, 2), (.iload 4, 2), (.aload_n 1, 1), (.getfield 337, 3), (.if_icmp .ge 41, 3), (.aload_n 1, 1), (.iload 4, 2), (.invokevirtual 340, 3), (.lconst 0, 1), (.lcmp, 1), (.ifCond .lt 21, 3), (.aload_n 1, 1), (.iload 4, 2), (.invokevirtual 340, 3), (.aload_n 0, 1), (.getfield 12, 3), (.getfield 160, 3), (.i2l, 1), (.lcmp, 1), (.ifCond .lt 6, 3), (.bipush (-3), 2), (.ireturn, 1), (.iinc 4 1, 3)]
theorem ocX11_refusesTook_1 : chk (cX11_refusesTook.data.toList.drop 48) tcX11_refusesTook_1 = true := by decide +kernel
theorem dX11_refusesTook_48 : decode cX11_refusesTook 48 = .ok (.iconst 0, 1) := chk_nth ocX11_refusesTook_1 (k := 0) rfl
theorem dX11_refusesTook_49 : decode cX11_refusesTook 49 = .ok (.istore 4, 2) := chk_nth ocX11_refusesTook_1 (k := 1) rfl
theorem dX11_refusesTook_51 : decode cX11_refusesTook 51 = .ok (.iload 4, 2) := chk_nth ocX11_refusesTook_1 (k := 2) rfl
theorem dX11_refusesTook_53 : decode cX11_refusesTook 53 = .ok (.aload_n 1, 1) := chk_nth ocX11_refusesTook_1 (k := 3) rfl
theorem dX11_refusesTook_54 : decode cX11_refusesTook 54 = .ok (.getfield 337, 3) := chk_nth ocX11_refusesTook_1 (k := 4) rfl
theorem dX11_refusesTook_57 : decode cX11_refusesTook 57 = .ok (.if_icmp .ge 41, 3) := chk_nth ocX11_refusesTook_1 (k := 5) rfl
theorem dX11_refusesTook_60 : decode cX11_refusesTook 60 = .ok (.aload_n 1, 1) := chk_nth ocX11_refusesTook_1 (k := 6) rfl
theorem dX11_refusesTook_61 : decode cX11_refusesTook 61 = .ok (.iload 4, 2) := chk_nth ocX11_refusesTook_1 (k := 7) rfl
theorem dX11_refusesTook_63 : decode cX11_refusesTook 63 = .ok (.invokevirtual 340, 3) := chk_nth ocX11_refusesTook_1 (k := 8) rfl
theorem dX11_refusesTook_66 : decode cX11_refusesTook 66 = .ok (.lconst 0, 1) := chk_nth ocX11_refusesTook_1 (k := 9) rfl
theorem dX11_refusesTook_67 : decode cX11_refusesTook 67 = .ok (.lcmp, 1) := chk_nth ocX11_refusesTook_1 (k := 10) rfl
theorem dX11_refusesTook_68 : decode cX11_refusesTook 68 = .ok (.ifCond .lt 21, 3) := chk_nth ocX11_refusesTook_1 (k := 11) rfl
theorem dX11_refusesTook_71 : decode cX11_refusesTook 71 = .ok (.aload_n 1, 1) := chk_nth ocX11_refusesTook_1 (k := 12) rfl
theorem dX11_refusesTook_72 : decode cX11_refusesTook 72 = .ok (.iload 4, 2) := chk_nth ocX11_refusesTook_1 (k := 13) rfl
theorem dX11_refusesTook_74 : decode cX11_refusesTook 74 = .ok (.invokevirtual 340, 3) := chk_nth ocX11_refusesTook_1 (k := 14) rfl
theorem dX11_refusesTook_77 : decode cX11_refusesTook 77 = .ok (.aload_n 0, 1) := chk_nth ocX11_refusesTook_1 (k := 15) rfl
theorem dX11_refusesTook_78 : decode cX11_refusesTook 78 = .ok (.getfield 12, 3) := chk_nth ocX11_refusesTook_1 (k := 16) rfl
theorem dX11_refusesTook_81 : decode cX11_refusesTook 81 = .ok (.getfield 160, 3) := chk_nth ocX11_refusesTook_1 (k := 17) rfl
theorem dX11_refusesTook_84 : decode cX11_refusesTook 84 = .ok (.i2l, 1) := chk_nth ocX11_refusesTook_1 (k := 18) rfl
theorem dX11_refusesTook_85 : decode cX11_refusesTook 85 = .ok (.lcmp, 1) := chk_nth ocX11_refusesTook_1 (k := 19) rfl
theorem dX11_refusesTook_86 : decode cX11_refusesTook 86 = .ok (.ifCond .lt 6, 3) := chk_nth ocX11_refusesTook_1 (k := 20) rfl
theorem dX11_refusesTook_89 : decode cX11_refusesTook 89 = .ok (.bipush (-3), 2) := chk_nth ocX11_refusesTook_1 (k := 21) rfl
theorem dX11_refusesTook_91 : decode cX11_refusesTook 91 = .ok (.ireturn, 1) := chk_nth ocX11_refusesTook_1 (k := 22) rfl
theorem dX11_refusesTook_92 : decode cX11_refusesTook 92 = .ok (.iinc 4 1, 3) := chk_nth ocX11_refusesTook_1 (k := 23) rfl
def tcX11_refusesTook_2 : List (Instr × Nat) := [(.goto (-44), 3), (.iload_n 3, 1), (.invokestatic 344, 3), (.ifCond .eq 7, 3), (.iconst 0, 1), (.goto 5, 3), (.bipush (-3), 2), (.ireturn, 1)]
theorem ocX11_refusesTook_2 : chk (cX11_refusesTook.data.toList.drop 95) tcX11_refusesTook_2 = true := by decide +kernel
theorem dX11_refusesTook_95 : decode cX11_refusesTook 95 = .ok (.goto (-44), 3) := chk_nth ocX11_refusesTook_2 (k := 0) rfl
theorem dX11_refusesTook_98 : decode cX11_refusesTook 98 = .ok (.iload_n 3, 1) := chk_nth ocX11_refusesTook_2 (k := 1) rfl
theorem dX11_refusesTook_99 : decode cX11_refusesTook 99 = .ok (.invokestatic 344, 3) := chk_nth ocX11_refusesTook_2 (k := 2) rfl
theorem dX11_refusesTook_102 : decode cX11_refusesTook 102 = .ok (.ifCond .eq 7, 3) := chk_nth ocX11_refusesTook_2 (k := 3) rfl
theorem dX11_refusesTook_105 : decode cX11_refusesTook 105 = .ok (.iconst 0, 1) := chk_nth ocX11_refusesTook_2 (k := 4) rfl
theorem dX11_refusesTook_106 : decode cX11_refusesTook 106 = .ok (.goto 5, 3) := chk_nth ocX11_refusesTook_2 (k := 5) rfl
theorem dX11_refusesTook_109 : decode cX11_refusesTook 109 = .ok (.bipush (-3), 2) := chk_nth ocX11_refusesTook_2 (k := 6) rfl
theorem dX11_refusesTook_111 : decode cX11_refusesTook 111 = .ok (.ireturn, 1) := chk_nth ocX11_refusesTook_2 (k := 7) rfl
def tcX11_yearBehindRow_0 : List (Instr × Nat) := [(.aload_n 1, 1), (.ifnonnull 5, 3), (.iconst (-1), 1), (.ireturn, 1), (.iload_n 3, 1), (.bipush 20, 2), (.imul, 1), (.aload 4, 2), (.iload_n 2, 1), (.invokevirtual 154, 3), (.iadd, 1), (.istore 5, 2), (.iconst 0, 1), (.istore 6, 2), (.iload 6, 2), (.aload_n 1, 1), (.getfield 337, 3), (.if_icmp .ge 35, 3), (.iload 5, 2), (.ifCond .lt 30, 3), (.aload_n 0, 1), (.getfield 44, 3), (.iload_n 2, 1), (.aload_n 1, 1)]
theorem ocX11_yearBehindRow_0 : chk (cX11_yearBehindRow.data.toList.drop 0) tcX11_yearBehindRow_0 = true := by decide +kernel
theorem dX11_yearBehindRow_0 : decode cX11_yearBehindRow 0 = .ok (.aload_n 1, 1) := chk_nth ocX11_yearBehindRow_0 (k := 0) rfl
theorem dX11_yearBehindRow_1 : decode cX11_yearBehindRow 1 = .ok (.ifnonnull 5, 3) := chk_nth ocX11_yearBehindRow_0 (k := 1) rfl
theorem dX11_yearBehindRow_4 : decode cX11_yearBehindRow 4 = .ok (.iconst (-1), 1) := chk_nth ocX11_yearBehindRow_0 (k := 2) rfl
theorem dX11_yearBehindRow_5 : decode cX11_yearBehindRow 5 = .ok (.ireturn, 1) := chk_nth ocX11_yearBehindRow_0 (k := 3) rfl
theorem dX11_yearBehindRow_6 : decode cX11_yearBehindRow 6 = .ok (.iload_n 3, 1) := chk_nth ocX11_yearBehindRow_0 (k := 4) rfl
theorem dX11_yearBehindRow_7 : decode cX11_yearBehindRow 7 = .ok (.bipush 20, 2) := chk_nth ocX11_yearBehindRow_0 (k := 5) rfl
theorem dX11_yearBehindRow_9 : decode cX11_yearBehindRow 9 = .ok (.imul, 1) := chk_nth ocX11_yearBehindRow_0 (k := 6) rfl
theorem dX11_yearBehindRow_10 : decode cX11_yearBehindRow 10 = .ok (.aload 4, 2) := chk_nth ocX11_yearBehindRow_0 (k := 7) rfl
theorem dX11_yearBehindRow_12 : decode cX11_yearBehindRow 12 = .ok (.iload_n 2, 1) := chk_nth ocX11_yearBehindRow_0 (k := 8) rfl
theorem dX11_yearBehindRow_13 : decode cX11_yearBehindRow 13 = .ok (.invokevirtual 154, 3) := chk_nth ocX11_yearBehindRow_0 (k := 9) rfl
theorem dX11_yearBehindRow_16 : decode cX11_yearBehindRow 16 = .ok (.iadd, 1) := chk_nth ocX11_yearBehindRow_0 (k := 10) rfl
theorem dX11_yearBehindRow_17 : decode cX11_yearBehindRow 17 = .ok (.istore 5, 2) := chk_nth ocX11_yearBehindRow_0 (k := 11) rfl
theorem dX11_yearBehindRow_19 : decode cX11_yearBehindRow 19 = .ok (.iconst 0, 1) := chk_nth ocX11_yearBehindRow_0 (k := 12) rfl
theorem dX11_yearBehindRow_20 : decode cX11_yearBehindRow 20 = .ok (.istore 6, 2) := chk_nth ocX11_yearBehindRow_0 (k := 13) rfl
theorem dX11_yearBehindRow_22 : decode cX11_yearBehindRow 22 = .ok (.iload 6, 2) := chk_nth ocX11_yearBehindRow_0 (k := 14) rfl
theorem dX11_yearBehindRow_24 : decode cX11_yearBehindRow 24 = .ok (.aload_n 1, 1) := chk_nth ocX11_yearBehindRow_0 (k := 15) rfl
theorem dX11_yearBehindRow_25 : decode cX11_yearBehindRow 25 = .ok (.getfield 337, 3) := chk_nth ocX11_yearBehindRow_0 (k := 16) rfl
theorem dX11_yearBehindRow_28 : decode cX11_yearBehindRow 28 = .ok (.if_icmp .ge 35, 3) := chk_nth ocX11_yearBehindRow_0 (k := 17) rfl
theorem dX11_yearBehindRow_31 : decode cX11_yearBehindRow 31 = .ok (.iload 5, 2) := chk_nth ocX11_yearBehindRow_0 (k := 18) rfl
theorem dX11_yearBehindRow_33 : decode cX11_yearBehindRow 33 = .ok (.ifCond .lt 30, 3) := chk_nth ocX11_yearBehindRow_0 (k := 19) rfl
theorem dX11_yearBehindRow_36 : decode cX11_yearBehindRow 36 = .ok (.aload_n 0, 1) := chk_nth ocX11_yearBehindRow_0 (k := 20) rfl
theorem dX11_yearBehindRow_37 : decode cX11_yearBehindRow 37 = .ok (.getfield 44, 3) := chk_nth ocX11_yearBehindRow_0 (k := 21) rfl
theorem dX11_yearBehindRow_40 : decode cX11_yearBehindRow 40 = .ok (.iload_n 2, 1) := chk_nth ocX11_yearBehindRow_0 (k := 22) rfl
theorem dX11_yearBehindRow_41 : decode cX11_yearBehindRow 41 = .ok (.aload_n 1, 1) := chk_nth ocX11_yearBehindRow_0 (k := 23) rfl
def tcX11_yearBehindRow_1 : List (Instr × Nat) := [(.iload 6, 2), (.invokevirtual 340, 3), (.l2i, 1), (.iload 5, 2), (.aload 4, 2), (.invokevirtual 166, 3), (.istore 5, 2), (.iinc 6 1, 3), (.goto (-38), 3), (.iload 5, 2), (.ifCond .ge 7, 3), (.iconst (-1), 1), (.goto 8, 3), (.iload 5, 2), (.bipush 20, 2), (.irem, 1), (.ireturn, 1)]
theorem ocX11_yearBehindRow_1 : chk (cX11_yearBehindRow.data.toList.drop 42) tcX11_yearBehindRow_1 = true := by decide +kernel
theorem dX11_yearBehindRow_42 : decode cX11_yearBehindRow 42 = .ok (.iload 6, 2) := chk_nth ocX11_yearBehindRow_1 (k := 0) rfl
theorem dX11_yearBehindRow_44 : decode cX11_yearBehindRow 44 = .ok (.invokevirtual 340, 3) := chk_nth ocX11_yearBehindRow_1 (k := 1) rfl
theorem dX11_yearBehindRow_47 : decode cX11_yearBehindRow 47 = .ok (.l2i, 1) := chk_nth ocX11_yearBehindRow_1 (k := 2) rfl
theorem dX11_yearBehindRow_48 : decode cX11_yearBehindRow 48 = .ok (.iload 5, 2) := chk_nth ocX11_yearBehindRow_1 (k := 3) rfl
theorem dX11_yearBehindRow_50 : decode cX11_yearBehindRow 50 = .ok (.aload 4, 2) := chk_nth ocX11_yearBehindRow_1 (k := 4) rfl
theorem dX11_yearBehindRow_52 : decode cX11_yearBehindRow 52 = .ok (.invokevirtual 166, 3) := chk_nth ocX11_yearBehindRow_1 (k := 5) rfl
theorem dX11_yearBehindRow_55 : decode cX11_yearBehindRow 55 = .ok (.istore 5, 2) := chk_nth ocX11_yearBehindRow_1 (k := 6) rfl
theorem dX11_yearBehindRow_57 : decode cX11_yearBehindRow 57 = .ok (.iinc 6 1, 3) := chk_nth ocX11_yearBehindRow_1 (k := 7) rfl
theorem dX11_yearBehindRow_60 : decode cX11_yearBehindRow 60 = .ok (.goto (-38), 3) := chk_nth ocX11_yearBehindRow_1 (k := 8) rfl
theorem dX11_yearBehindRow_63 : decode cX11_yearBehindRow 63 = .ok (.iload 5, 2) := chk_nth ocX11_yearBehindRow_1 (k := 9) rfl
theorem dX11_yearBehindRow_65 : decode cX11_yearBehindRow 65 = .ok (.ifCond .ge 7, 3) := chk_nth ocX11_yearBehindRow_1 (k := 10) rfl
theorem dX11_yearBehindRow_68 : decode cX11_yearBehindRow 68 = .ok (.iconst (-1), 1) := chk_nth ocX11_yearBehindRow_1 (k := 11) rfl
theorem dX11_yearBehindRow_69 : decode cX11_yearBehindRow 69 = .ok (.goto 8, 3) := chk_nth ocX11_yearBehindRow_1 (k := 12) rfl
theorem dX11_yearBehindRow_72 : decode cX11_yearBehindRow 72 = .ok (.iload 5, 2) := chk_nth ocX11_yearBehindRow_1 (k := 13) rfl
theorem dX11_yearBehindRow_74 : decode cX11_yearBehindRow 74 = .ok (.bipush 20, 2) := chk_nth ocX11_yearBehindRow_1 (k := 14) rfl
theorem dX11_yearBehindRow_76 : decode cX11_yearBehindRow 76 = .ok (.irem, 1) := chk_nth ocX11_yearBehindRow_1 (k := 15) rfl
theorem dX11_yearBehindRow_77 : decode cX11_yearBehindRow 77 = .ok (.ireturn, 1) := chk_nth ocX11_yearBehindRow_1 (k := 16) rfl
def tcX11_bollardsTold_0 : List (Instr × Nat) := [(.aload_n 0, 1), (.getfield 29, 3), (.aload_n 0, 1), (.getfield 20, 3), (.invokevirtual 170, 3), (.iconst 0, 1), (.istore 4, 2), (.iconst 0, 1), (.istore 5, 2), (.iload 5, 2), (.bipush 9, 2), (.if_icmp .gt 49, 3), (.aload_n 0, 1), (.getfield 29, 3), (.iload 5, 2), (.putfield 188, 3), (.aload_n 0, 1), (.aload_n 1, 1), (.iload_n 2, 1), (.aload_n 0, 1), (.getfield 20, 3), (.iload_n 2, 1), (.invokevirtual 151, 3), (.aload_n 0, 1)]
theorem ocX11_bollardsTold_0 : chk (cX11_bollardsTold.data.toList.drop 0) tcX11_bollardsTold_0 = true := by decide +kernel
theorem dX11_bollardsTold_0 : decode cX11_bollardsTold 0 = .ok (.aload_n 0, 1) := chk_nth ocX11_bollardsTold_0 (k := 0) rfl
theorem dX11_bollardsTold_1 : decode cX11_bollardsTold 1 = .ok (.getfield 29, 3) := chk_nth ocX11_bollardsTold_0 (k := 1) rfl
theorem dX11_bollardsTold_4 : decode cX11_bollardsTold 4 = .ok (.aload_n 0, 1) := chk_nth ocX11_bollardsTold_0 (k := 2) rfl
theorem dX11_bollardsTold_5 : decode cX11_bollardsTold 5 = .ok (.getfield 20, 3) := chk_nth ocX11_bollardsTold_0 (k := 3) rfl
theorem dX11_bollardsTold_8 : decode cX11_bollardsTold 8 = .ok (.invokevirtual 170, 3) := chk_nth ocX11_bollardsTold_0 (k := 4) rfl
theorem dX11_bollardsTold_11 : decode cX11_bollardsTold 11 = .ok (.iconst 0, 1) := chk_nth ocX11_bollardsTold_0 (k := 5) rfl
theorem dX11_bollardsTold_12 : decode cX11_bollardsTold 12 = .ok (.istore 4, 2) := chk_nth ocX11_bollardsTold_0 (k := 6) rfl
theorem dX11_bollardsTold_14 : decode cX11_bollardsTold 14 = .ok (.iconst 0, 1) := chk_nth ocX11_bollardsTold_0 (k := 7) rfl
theorem dX11_bollardsTold_15 : decode cX11_bollardsTold 15 = .ok (.istore 5, 2) := chk_nth ocX11_bollardsTold_0 (k := 8) rfl
theorem dX11_bollardsTold_17 : decode cX11_bollardsTold 17 = .ok (.iload 5, 2) := chk_nth ocX11_bollardsTold_0 (k := 9) rfl
theorem dX11_bollardsTold_19 : decode cX11_bollardsTold 19 = .ok (.bipush 9, 2) := chk_nth ocX11_bollardsTold_0 (k := 10) rfl
theorem dX11_bollardsTold_21 : decode cX11_bollardsTold 21 = .ok (.if_icmp .gt 49, 3) := chk_nth ocX11_bollardsTold_0 (k := 11) rfl
theorem dX11_bollardsTold_24 : decode cX11_bollardsTold 24 = .ok (.aload_n 0, 1) := chk_nth ocX11_bollardsTold_0 (k := 12) rfl
theorem dX11_bollardsTold_25 : decode cX11_bollardsTold 25 = .ok (.getfield 29, 3) := chk_nth ocX11_bollardsTold_0 (k := 13) rfl
theorem dX11_bollardsTold_28 : decode cX11_bollardsTold 28 = .ok (.iload 5, 2) := chk_nth ocX11_bollardsTold_0 (k := 14) rfl
theorem dX11_bollardsTold_30 : decode cX11_bollardsTold 30 = .ok (.putfield 188, 3) := chk_nth ocX11_bollardsTold_0 (k := 15) rfl
theorem dX11_bollardsTold_33 : decode cX11_bollardsTold 33 = .ok (.aload_n 0, 1) := chk_nth ocX11_bollardsTold_0 (k := 16) rfl
theorem dX11_bollardsTold_34 : decode cX11_bollardsTold 34 = .ok (.aload_n 1, 1) := chk_nth ocX11_bollardsTold_0 (k := 17) rfl
theorem dX11_bollardsTold_35 : decode cX11_bollardsTold 35 = .ok (.iload_n 2, 1) := chk_nth ocX11_bollardsTold_0 (k := 18) rfl
theorem dX11_bollardsTold_36 : decode cX11_bollardsTold 36 = .ok (.aload_n 0, 1) := chk_nth ocX11_bollardsTold_0 (k := 19) rfl
theorem dX11_bollardsTold_37 : decode cX11_bollardsTold 37 = .ok (.getfield 20, 3) := chk_nth ocX11_bollardsTold_0 (k := 20) rfl
theorem dX11_bollardsTold_40 : decode cX11_bollardsTold 40 = .ok (.iload_n 2, 1) := chk_nth ocX11_bollardsTold_0 (k := 21) rfl
theorem dX11_bollardsTold_41 : decode cX11_bollardsTold 41 = .ok (.invokevirtual 151, 3) := chk_nth ocX11_bollardsTold_0 (k := 22) rfl
theorem dX11_bollardsTold_44 : decode cX11_bollardsTold 44 = .ok (.aload_n 0, 1) := chk_nth ocX11_bollardsTold_0 (k := 23) rfl
def tcX11_bollardsTold_1 : List (Instr × Nat) := [(.getfield 29, 3), (.invokevirtual 327, 3), (.iload_n 3, 1), (.if_icmp .ne 12, 3), (.iload 4, 2), (.iconst 1, 1), (.iload 5, 2), (.ishl, 1), (.ior, 1), (.istore 4, 2), (.iinc 5 1, 3), (.goto (-50), 3), (.iload 4, 2), (.ireturn, 1)]
theorem ocX11_bollardsTold_1 : chk (cX11_bollardsTold.data.toList.drop 45) tcX11_bollardsTold_1 = true := by decide +kernel
theorem dX11_bollardsTold_45 : decode cX11_bollardsTold 45 = .ok (.getfield 29, 3) := chk_nth ocX11_bollardsTold_1 (k := 0) rfl
theorem dX11_bollardsTold_48 : decode cX11_bollardsTold 48 = .ok (.invokevirtual 327, 3) := chk_nth ocX11_bollardsTold_1 (k := 1) rfl
theorem dX11_bollardsTold_51 : decode cX11_bollardsTold 51 = .ok (.iload_n 3, 1) := chk_nth ocX11_bollardsTold_1 (k := 2) rfl
theorem dX11_bollardsTold_52 : decode cX11_bollardsTold 52 = .ok (.if_icmp .ne 12, 3) := chk_nth ocX11_bollardsTold_1 (k := 3) rfl
theorem dX11_bollardsTold_55 : decode cX11_bollardsTold 55 = .ok (.iload 4, 2) := chk_nth ocX11_bollardsTold_1 (k := 4) rfl
theorem dX11_bollardsTold_57 : decode cX11_bollardsTold 57 = .ok (.iconst 1, 1) := chk_nth ocX11_bollardsTold_1 (k := 5) rfl
theorem dX11_bollardsTold_58 : decode cX11_bollardsTold 58 = .ok (.iload 5, 2) := chk_nth ocX11_bollardsTold_1 (k := 6) rfl
theorem dX11_bollardsTold_60 : decode cX11_bollardsTold 60 = .ok (.ishl, 1) := chk_nth ocX11_bollardsTold_1 (k := 7) rfl
theorem dX11_bollardsTold_61 : decode cX11_bollardsTold 61 = .ok (.ior, 1) := chk_nth ocX11_bollardsTold_1 (k := 8) rfl
theorem dX11_bollardsTold_62 : decode cX11_bollardsTold 62 = .ok (.istore 4, 2) := chk_nth ocX11_bollardsTold_1 (k := 9) rfl
theorem dX11_bollardsTold_64 : decode cX11_bollardsTold 64 = .ok (.iinc 5 1, 3) := chk_nth ocX11_bollardsTold_1 (k := 10) rfl
theorem dX11_bollardsTold_67 : decode cX11_bollardsTold 67 = .ok (.goto (-50), 3) := chk_nth ocX11_bollardsTold_1 (k := 11) rfl
theorem dX11_bollardsTold_70 : decode cX11_bollardsTold 70 = .ok (.iload 4, 2) := chk_nth ocX11_bollardsTold_1 (k := 12) rfl
theorem dX11_bollardsTold_72 : decode cX11_bollardsTold 72 = .ok (.ireturn, 1) := chk_nth ocX11_bollardsTold_1 (k := 13) rfl
def tcX11_mostAlike_0 : List (Instr × Nat) := [(.aload_n 0, 1), (.getfield 29, 3), (.aload_n 0, 1), (.getfield 20, 3), (.invokevirtual 170, 3), (.aload_n 0, 1), (.getfield 100, 3), (.iconst 0, 1), (.invokestatic 347, 3), (.iconst 0, 1), (.istore 4, 2), (.iconst 0, 1), (.istore 5, 2), (.iload 5, 2), (.bipush 9, 2), (.if_icmp .gt 109, 3), (.iload_n 3, 1), (.iload 5, 2), (.ishr, 1), (.iconst 1, 1), (.iand, 1), (.ifCond .ne 6, 3), (.goto 91, 3), (.aload_n 0, 1)]
theorem ocX11_mostAlike_0 : chk (cX11_mostAlike.data.toList.drop 0) tcX11_mostAlike_0 = true := by decide +kernel
theorem dX11_mostAlike_0 : decode cX11_mostAlike 0 = .ok (.aload_n 0, 1) := chk_nth ocX11_mostAlike_0 (k := 0) rfl
theorem dX11_mostAlike_1 : decode cX11_mostAlike 1 = .ok (.getfield 29, 3) := chk_nth ocX11_mostAlike_0 (k := 1) rfl
theorem dX11_mostAlike_4 : decode cX11_mostAlike 4 = .ok (.aload_n 0, 1) := chk_nth ocX11_mostAlike_0 (k := 2) rfl
theorem dX11_mostAlike_5 : decode cX11_mostAlike 5 = .ok (.getfield 20, 3) := chk_nth ocX11_mostAlike_0 (k := 3) rfl
theorem dX11_mostAlike_8 : decode cX11_mostAlike 8 = .ok (.invokevirtual 170, 3) := chk_nth ocX11_mostAlike_0 (k := 4) rfl
theorem dX11_mostAlike_11 : decode cX11_mostAlike 11 = .ok (.aload_n 0, 1) := chk_nth ocX11_mostAlike_0 (k := 5) rfl
theorem dX11_mostAlike_12 : decode cX11_mostAlike 12 = .ok (.getfield 100, 3) := chk_nth ocX11_mostAlike_0 (k := 6) rfl
theorem dX11_mostAlike_15 : decode cX11_mostAlike 15 = .ok (.iconst 0, 1) := chk_nth ocX11_mostAlike_0 (k := 7) rfl
theorem dX11_mostAlike_16 : decode cX11_mostAlike 16 = .ok (.invokestatic 347, 3) := chk_nth ocX11_mostAlike_0 (k := 8) rfl
theorem dX11_mostAlike_19 : decode cX11_mostAlike 19 = .ok (.iconst 0, 1) := chk_nth ocX11_mostAlike_0 (k := 9) rfl
theorem dX11_mostAlike_20 : decode cX11_mostAlike 20 = .ok (.istore 4, 2) := chk_nth ocX11_mostAlike_0 (k := 10) rfl
theorem dX11_mostAlike_22 : decode cX11_mostAlike 22 = .ok (.iconst 0, 1) := chk_nth ocX11_mostAlike_0 (k := 11) rfl
theorem dX11_mostAlike_23 : decode cX11_mostAlike 23 = .ok (.istore 5, 2) := chk_nth ocX11_mostAlike_0 (k := 12) rfl
theorem dX11_mostAlike_25 : decode cX11_mostAlike 25 = .ok (.iload 5, 2) := chk_nth ocX11_mostAlike_0 (k := 13) rfl
theorem dX11_mostAlike_27 : decode cX11_mostAlike 27 = .ok (.bipush 9, 2) := chk_nth ocX11_mostAlike_0 (k := 14) rfl
theorem dX11_mostAlike_29 : decode cX11_mostAlike 29 = .ok (.if_icmp .gt 109, 3) := chk_nth ocX11_mostAlike_0 (k := 15) rfl
theorem dX11_mostAlike_32 : decode cX11_mostAlike 32 = .ok (.iload_n 3, 1) := chk_nth ocX11_mostAlike_0 (k := 16) rfl
theorem dX11_mostAlike_33 : decode cX11_mostAlike 33 = .ok (.iload 5, 2) := chk_nth ocX11_mostAlike_0 (k := 17) rfl
theorem dX11_mostAlike_35 : decode cX11_mostAlike 35 = .ok (.ishr, 1) := chk_nth ocX11_mostAlike_0 (k := 18) rfl
theorem dX11_mostAlike_36 : decode cX11_mostAlike 36 = .ok (.iconst 1, 1) := chk_nth ocX11_mostAlike_0 (k := 19) rfl
theorem dX11_mostAlike_37 : decode cX11_mostAlike 37 = .ok (.iand, 1) := chk_nth ocX11_mostAlike_0 (k := 20) rfl
theorem dX11_mostAlike_38 : decode cX11_mostAlike 38 = .ok (.ifCond .ne 6, 3) := chk_nth ocX11_mostAlike_0 (k := 21) rfl
theorem dX11_mostAlike_41 : decode cX11_mostAlike 41 = .ok (.goto 91, 3) := chk_nth ocX11_mostAlike_0 (k := 22) rfl
theorem dX11_mostAlike_44 : decode cX11_mostAlike 44 = .ok (.aload_n 0, 1) := chk_nth ocX11_mostAlike_0 (k := 23) rfl
def tcX11_mostAlike_1 : List (Instr × Nat) := [(.getfield 29, 3), (.iload 5, 2), (.putfield 188, 3), (.aload_n 0, 1), (.getfield 44, 3), (.iload_n 1, 1), (.iload_n 2, 1), (.aload_n 0, 1), (.getfield 20, 3), (.iload_n 1, 1), (.invokevirtual 163, 3), (.aload_n 0, 1), (.getfield 29, 3), (.invokevirtual 166, 3), (.istore 6, 2), (.iload 6, 2), (.ifCond .ge 14, 3), (.aload_n 0, 1), (.getfield 20, 3), (.iload_n 1, 1), (.invokevirtual 154, 3), (.goto 8, 3), (.iload 6, 2), (.bipush 20, 2)]
theorem ocX11_mostAlike_1 : chk (cX11_mostAlike.data.toList.drop 45) tcX11_mostAlike_1 = true := by decide +kernel
theorem dX11_mostAlike_45 : decode cX11_mostAlike 45 = .ok (.getfield 29, 3) := chk_nth ocX11_mostAlike_1 (k := 0) rfl
theorem dX11_mostAlike_48 : decode cX11_mostAlike 48 = .ok (.iload 5, 2) := chk_nth ocX11_mostAlike_1 (k := 1) rfl
theorem dX11_mostAlike_50 : decode cX11_mostAlike 50 = .ok (.putfield 188, 3) := chk_nth ocX11_mostAlike_1 (k := 2) rfl
theorem dX11_mostAlike_53 : decode cX11_mostAlike 53 = .ok (.aload_n 0, 1) := chk_nth ocX11_mostAlike_1 (k := 3) rfl
theorem dX11_mostAlike_54 : decode cX11_mostAlike 54 = .ok (.getfield 44, 3) := chk_nth ocX11_mostAlike_1 (k := 4) rfl
theorem dX11_mostAlike_57 : decode cX11_mostAlike 57 = .ok (.iload_n 1, 1) := chk_nth ocX11_mostAlike_1 (k := 5) rfl
theorem dX11_mostAlike_58 : decode cX11_mostAlike 58 = .ok (.iload_n 2, 1) := chk_nth ocX11_mostAlike_1 (k := 6) rfl
theorem dX11_mostAlike_59 : decode cX11_mostAlike 59 = .ok (.aload_n 0, 1) := chk_nth ocX11_mostAlike_1 (k := 7) rfl
theorem dX11_mostAlike_60 : decode cX11_mostAlike 60 = .ok (.getfield 20, 3) := chk_nth ocX11_mostAlike_1 (k := 8) rfl
theorem dX11_mostAlike_63 : decode cX11_mostAlike 63 = .ok (.iload_n 1, 1) := chk_nth ocX11_mostAlike_1 (k := 9) rfl
theorem dX11_mostAlike_64 : decode cX11_mostAlike 64 = .ok (.invokevirtual 163, 3) := chk_nth ocX11_mostAlike_1 (k := 10) rfl
theorem dX11_mostAlike_67 : decode cX11_mostAlike 67 = .ok (.aload_n 0, 1) := chk_nth ocX11_mostAlike_1 (k := 11) rfl
theorem dX11_mostAlike_68 : decode cX11_mostAlike 68 = .ok (.getfield 29, 3) := chk_nth ocX11_mostAlike_1 (k := 12) rfl
theorem dX11_mostAlike_71 : decode cX11_mostAlike 71 = .ok (.invokevirtual 166, 3) := chk_nth ocX11_mostAlike_1 (k := 13) rfl
theorem dX11_mostAlike_74 : decode cX11_mostAlike 74 = .ok (.istore 6, 2) := chk_nth ocX11_mostAlike_1 (k := 14) rfl
theorem dX11_mostAlike_76 : decode cX11_mostAlike 76 = .ok (.iload 6, 2) := chk_nth ocX11_mostAlike_1 (k := 15) rfl
theorem dX11_mostAlike_78 : decode cX11_mostAlike 78 = .ok (.ifCond .ge 14, 3) := chk_nth ocX11_mostAlike_1 (k := 16) rfl
theorem dX11_mostAlike_81 : decode cX11_mostAlike 81 = .ok (.aload_n 0, 1) := chk_nth ocX11_mostAlike_1 (k := 17) rfl
theorem dX11_mostAlike_82 : decode cX11_mostAlike 82 = .ok (.getfield 20, 3) := chk_nth ocX11_mostAlike_1 (k := 18) rfl
theorem dX11_mostAlike_85 : decode cX11_mostAlike 85 = .ok (.iload_n 1, 1) := chk_nth ocX11_mostAlike_1 (k := 19) rfl
theorem dX11_mostAlike_86 : decode cX11_mostAlike 86 = .ok (.invokevirtual 154, 3) := chk_nth ocX11_mostAlike_1 (k := 20) rfl
theorem dX11_mostAlike_89 : decode cX11_mostAlike 89 = .ok (.goto 8, 3) := chk_nth ocX11_mostAlike_1 (k := 21) rfl
theorem dX11_mostAlike_92 : decode cX11_mostAlike 92 = .ok (.iload 6, 2) := chk_nth ocX11_mostAlike_1 (k := 22) rfl
theorem dX11_mostAlike_94 : decode cX11_mostAlike 94 = .ok (.bipush 20, 2) := chk_nth ocX11_mostAlike_1 (k := 23) rfl
def tcX11_mostAlike_2 : List (Instr × Nat) := [(.irem, 1), (.istore 7, 2), (.iload 7, 2), (.invokestatic 344, 3), (.ifCond .eq 28, 3), (.aload_n 0, 1), (.getfield 100, 3), (.iload 7, 2), (.dup2, 1), (.iaload, 1), (.iconst 1, 1), (.iadd, 1), (.iastore, 1), (.iload 4, 2), (.aload_n 0, 1), (.getfield 100, 3), (.iload 7, 2), (.iaload, 1), (.invokestatic 271, 3), (.istore 4, 2), (.iinc 5 1, 3), (.goto (-110), 3), (.iload 4, 2), (.ireturn, 1)]
theorem ocX11_mostAlike_2 : chk (cX11_mostAlike.data.toList.drop 96) tcX11_mostAlike_2 = true := by decide +kernel
theorem dX11_mostAlike_96 : decode cX11_mostAlike 96 = .ok (.irem, 1) := chk_nth ocX11_mostAlike_2 (k := 0) rfl
theorem dX11_mostAlike_97 : decode cX11_mostAlike 97 = .ok (.istore 7, 2) := chk_nth ocX11_mostAlike_2 (k := 1) rfl
theorem dX11_mostAlike_99 : decode cX11_mostAlike 99 = .ok (.iload 7, 2) := chk_nth ocX11_mostAlike_2 (k := 2) rfl
theorem dX11_mostAlike_101 : decode cX11_mostAlike 101 = .ok (.invokestatic 344, 3) := chk_nth ocX11_mostAlike_2 (k := 3) rfl
theorem dX11_mostAlike_104 : decode cX11_mostAlike 104 = .ok (.ifCond .eq 28, 3) := chk_nth ocX11_mostAlike_2 (k := 4) rfl
theorem dX11_mostAlike_107 : decode cX11_mostAlike 107 = .ok (.aload_n 0, 1) := chk_nth ocX11_mostAlike_2 (k := 5) rfl
theorem dX11_mostAlike_108 : decode cX11_mostAlike 108 = .ok (.getfield 100, 3) := chk_nth ocX11_mostAlike_2 (k := 6) rfl
theorem dX11_mostAlike_111 : decode cX11_mostAlike 111 = .ok (.iload 7, 2) := chk_nth ocX11_mostAlike_2 (k := 7) rfl
theorem dX11_mostAlike_113 : decode cX11_mostAlike 113 = .ok (.dup2, 1) := chk_nth ocX11_mostAlike_2 (k := 8) rfl
theorem dX11_mostAlike_114 : decode cX11_mostAlike 114 = .ok (.iaload, 1) := chk_nth ocX11_mostAlike_2 (k := 9) rfl
theorem dX11_mostAlike_115 : decode cX11_mostAlike 115 = .ok (.iconst 1, 1) := chk_nth ocX11_mostAlike_2 (k := 10) rfl
theorem dX11_mostAlike_116 : decode cX11_mostAlike 116 = .ok (.iadd, 1) := chk_nth ocX11_mostAlike_2 (k := 11) rfl
theorem dX11_mostAlike_117 : decode cX11_mostAlike 117 = .ok (.iastore, 1) := chk_nth ocX11_mostAlike_2 (k := 12) rfl
theorem dX11_mostAlike_118 : decode cX11_mostAlike 118 = .ok (.iload 4, 2) := chk_nth ocX11_mostAlike_2 (k := 13) rfl
theorem dX11_mostAlike_120 : decode cX11_mostAlike 120 = .ok (.aload_n 0, 1) := chk_nth ocX11_mostAlike_2 (k := 14) rfl
theorem dX11_mostAlike_121 : decode cX11_mostAlike 121 = .ok (.getfield 100, 3) := chk_nth ocX11_mostAlike_2 (k := 15) rfl
theorem dX11_mostAlike_124 : decode cX11_mostAlike 124 = .ok (.iload 7, 2) := chk_nth ocX11_mostAlike_2 (k := 16) rfl
theorem dX11_mostAlike_126 : decode cX11_mostAlike 126 = .ok (.iaload, 1) := chk_nth ocX11_mostAlike_2 (k := 17) rfl
theorem dX11_mostAlike_127 : decode cX11_mostAlike 127 = .ok (.invokestatic 271, 3) := chk_nth ocX11_mostAlike_2 (k := 18) rfl
theorem dX11_mostAlike_130 : decode cX11_mostAlike 130 = .ok (.istore 4, 2) := chk_nth ocX11_mostAlike_2 (k := 19) rfl
theorem dX11_mostAlike_132 : decode cX11_mostAlike 132 = .ok (.iinc 5 1, 3) := chk_nth ocX11_mostAlike_2 (k := 20) rfl
theorem dX11_mostAlike_135 : decode cX11_mostAlike 135 = .ok (.goto (-110), 3) := chk_nth ocX11_mostAlike_2 (k := 21) rfl
theorem dX11_mostAlike_138 : decode cX11_mostAlike 138 = .ok (.iload 4, 2) := chk_nth ocX11_mostAlike_2 (k := 22) rfl
theorem dX11_mostAlike_140 : decode cX11_mostAlike 140 = .ok (.ireturn, 1) := chk_nth ocX11_mostAlike_2 (k := 23) rfl
def tcX11_forces_0 : List (Instr × Nat) := [(.aload_n 0, 1), (.getfield 12, 3), (.iload_n 1, 1), (.invokevirtual 148, 3), (.ifCond .eq 14, 3), (.aload_n 0, 1), (.getfield 12, 3), (.iload_n 2, 1), (.invokevirtual 253, 3), (.ifCond .ne 6, 3), (.bipush (-2), 2), (.ireturn, 1), (.aload_n 0, 1), (.getfield 79, 3), (.iload_n 1, 1), (.iload_n 2, 1), (.aload_n 0, 1), (.getfield 20, 3), (.invokevirtual 353, 3), (.aload_n 0, 1), (.getfield 79, 3), (.invokevirtual 356, 3), (.ireturn, 1)]
theorem ocX11_forces_0 : chk (cX11_forces.data.toList.drop 0) tcX11_forces_0 = true := by decide +kernel
theorem dX11_forces_0 : decode cX11_forces 0 = .ok (.aload_n 0, 1) := chk_nth ocX11_forces_0 (k := 0) rfl
theorem dX11_forces_1 : decode cX11_forces 1 = .ok (.getfield 12, 3) := chk_nth ocX11_forces_0 (k := 1) rfl
theorem dX11_forces_4 : decode cX11_forces 4 = .ok (.iload_n 1, 1) := chk_nth ocX11_forces_0 (k := 2) rfl
theorem dX11_forces_5 : decode cX11_forces 5 = .ok (.invokevirtual 148, 3) := chk_nth ocX11_forces_0 (k := 3) rfl
theorem dX11_forces_8 : decode cX11_forces 8 = .ok (.ifCond .eq 14, 3) := chk_nth ocX11_forces_0 (k := 4) rfl
theorem dX11_forces_11 : decode cX11_forces 11 = .ok (.aload_n 0, 1) := chk_nth ocX11_forces_0 (k := 5) rfl
theorem dX11_forces_12 : decode cX11_forces 12 = .ok (.getfield 12, 3) := chk_nth ocX11_forces_0 (k := 6) rfl
theorem dX11_forces_15 : decode cX11_forces 15 = .ok (.iload_n 2, 1) := chk_nth ocX11_forces_0 (k := 7) rfl
theorem dX11_forces_16 : decode cX11_forces 16 = .ok (.invokevirtual 253, 3) := chk_nth ocX11_forces_0 (k := 8) rfl
theorem dX11_forces_19 : decode cX11_forces 19 = .ok (.ifCond .ne 6, 3) := chk_nth ocX11_forces_0 (k := 9) rfl
theorem dX11_forces_22 : decode cX11_forces 22 = .ok (.bipush (-2), 2) := chk_nth ocX11_forces_0 (k := 10) rfl
theorem dX11_forces_24 : decode cX11_forces 24 = .ok (.ireturn, 1) := chk_nth ocX11_forces_0 (k := 11) rfl
theorem dX11_forces_25 : decode cX11_forces 25 = .ok (.aload_n 0, 1) := chk_nth ocX11_forces_0 (k := 12) rfl
theorem dX11_forces_26 : decode cX11_forces 26 = .ok (.getfield 79, 3) := chk_nth ocX11_forces_0 (k := 13) rfl
theorem dX11_forces_29 : decode cX11_forces 29 = .ok (.iload_n 1, 1) := chk_nth ocX11_forces_0 (k := 14) rfl
theorem dX11_forces_30 : decode cX11_forces 30 = .ok (.iload_n 2, 1) := chk_nth ocX11_forces_0 (k := 15) rfl
theorem dX11_forces_31 : decode cX11_forces 31 = .ok (.aload_n 0, 1) := chk_nth ocX11_forces_0 (k := 16) rfl
theorem dX11_forces_32 : decode cX11_forces 32 = .ok (.getfield 20, 3) := chk_nth ocX11_forces_0 (k := 17) rfl
theorem dX11_forces_35 : decode cX11_forces 35 = .ok (.invokevirtual 353, 3) := chk_nth ocX11_forces_0 (k := 18) rfl
theorem dX11_forces_38 : decode cX11_forces 38 = .ok (.aload_n 0, 1) := chk_nth ocX11_forces_0 (k := 19) rfl
theorem dX11_forces_39 : decode cX11_forces 39 = .ok (.getfield 79, 3) := chk_nth ocX11_forces_0 (k := 20) rfl
theorem dX11_forces_42 : decode cX11_forces 42 = .ok (.invokevirtual 356, 3) := chk_nth ocX11_forces_0 (k := 21) rfl
theorem dX11_forces_45 : decode cX11_forces 45 = .ok (.ireturn, 1) := chk_nth ocX11_forces_0 (k := 22) rfl
def tcX11_best_0 : List (Instr × Nat) := [(.aload_n 0, 1), (.getfield 12, 3), (.iload_n 1, 1), (.invokevirtual 148, 3), (.ifCond .eq 14, 3), (.aload_n 0, 1), (.getfield 12, 3), (.iload_n 2, 1), (.invokevirtual 253, 3), (.ifCond .ne 6, 3), (.bipush (-2), 2), (.ireturn, 1), (.aload_n 0, 1), (.getfield 79, 3), (.iload_n 1, 1), (.iload_n 2, 1), (.aload_n 0, 1), (.getfield 20, 3), (.invokevirtual 353, 3), (.aload_n 0, 1), (.getfield 79, 3), (.invokevirtual 359, 3), (.ireturn, 1)]
theorem ocX11_best_0 : chk (cX11_best.data.toList.drop 0) tcX11_best_0 = true := by decide +kernel
theorem dX11_best_0 : decode cX11_best 0 = .ok (.aload_n 0, 1) := chk_nth ocX11_best_0 (k := 0) rfl
theorem dX11_best_1 : decode cX11_best 1 = .ok (.getfield 12, 3) := chk_nth ocX11_best_0 (k := 1) rfl
theorem dX11_best_4 : decode cX11_best 4 = .ok (.iload_n 1, 1) := chk_nth ocX11_best_0 (k := 2) rfl
theorem dX11_best_5 : decode cX11_best 5 = .ok (.invokevirtual 148, 3) := chk_nth ocX11_best_0 (k := 3) rfl
theorem dX11_best_8 : decode cX11_best 8 = .ok (.ifCond .eq 14, 3) := chk_nth ocX11_best_0 (k := 4) rfl
theorem dX11_best_11 : decode cX11_best 11 = .ok (.aload_n 0, 1) := chk_nth ocX11_best_0 (k := 5) rfl
theorem dX11_best_12 : decode cX11_best 12 = .ok (.getfield 12, 3) := chk_nth ocX11_best_0 (k := 6) rfl
theorem dX11_best_15 : decode cX11_best 15 = .ok (.iload_n 2, 1) := chk_nth ocX11_best_0 (k := 7) rfl
theorem dX11_best_16 : decode cX11_best 16 = .ok (.invokevirtual 253, 3) := chk_nth ocX11_best_0 (k := 8) rfl
theorem dX11_best_19 : decode cX11_best 19 = .ok (.ifCond .ne 6, 3) := chk_nth ocX11_best_0 (k := 9) rfl
theorem dX11_best_22 : decode cX11_best 22 = .ok (.bipush (-2), 2) := chk_nth ocX11_best_0 (k := 10) rfl
theorem dX11_best_24 : decode cX11_best 24 = .ok (.ireturn, 1) := chk_nth ocX11_best_0 (k := 11) rfl
theorem dX11_best_25 : decode cX11_best 25 = .ok (.aload_n 0, 1) := chk_nth ocX11_best_0 (k := 12) rfl
theorem dX11_best_26 : decode cX11_best 26 = .ok (.getfield 79, 3) := chk_nth ocX11_best_0 (k := 13) rfl
theorem dX11_best_29 : decode cX11_best 29 = .ok (.iload_n 1, 1) := chk_nth ocX11_best_0 (k := 14) rfl
theorem dX11_best_30 : decode cX11_best 30 = .ok (.iload_n 2, 1) := chk_nth ocX11_best_0 (k := 15) rfl
theorem dX11_best_31 : decode cX11_best 31 = .ok (.aload_n 0, 1) := chk_nth ocX11_best_0 (k := 16) rfl
theorem dX11_best_32 : decode cX11_best 32 = .ok (.getfield 20, 3) := chk_nth ocX11_best_0 (k := 17) rfl
theorem dX11_best_35 : decode cX11_best 35 = .ok (.invokevirtual 353, 3) := chk_nth ocX11_best_0 (k := 18) rfl
theorem dX11_best_38 : decode cX11_best 38 = .ok (.aload_n 0, 1) := chk_nth ocX11_best_0 (k := 19) rfl
theorem dX11_best_39 : decode cX11_best 39 = .ok (.getfield 79, 3) := chk_nth ocX11_best_0 (k := 20) rfl
theorem dX11_best_42 : decode cX11_best 42 = .ok (.invokevirtual 359, 3) := chk_nth ocX11_best_0 (k := 21) rfl
theorem dX11_best_45 : decode cX11_best 45 = .ok (.ireturn, 1) := chk_nth ocX11_best_0 (k := 22) rfl
def tcX11_chance_0 : List (Instr × Nat) := [(.aload_n 0, 1), (.getfield 12, 3), (.iload_n 1, 1), (.invokevirtual 148, 3), (.ifCond .eq 25, 3), (.aload_n 0, 1), (.getfield 12, 3), (.iload_n 2, 1), (.invokevirtual 253, 3), (.ifCond .eq 14, 3), (.iload 4, 2), (.ifCond .lt 9, 3), (.iload 4, 2), (.iconst 1, 1), (.if_icmp .le 6, 3), (.bipush (-2), 2), (.ireturn, 1), (.iload_n 3, 1), (.ifCond .lt 9, 3), (.iload_n 3, 1), (.bipush 6, 2), (.if_icmp .le 6, 3), (.bipush (-3), 2), (.ireturn, 1)]
theorem ocX11_chance_0 : chk (cX11_chance.data.toList.drop 0) tcX11_chance_0 = true := by decide +kernel
theorem dX11_chance_0 : decode cX11_chance 0 = .ok (.aload_n 0, 1) := chk_nth ocX11_chance_0 (k := 0) rfl
theorem dX11_chance_1 : decode cX11_chance 1 = .ok (.getfield 12, 3) := chk_nth ocX11_chance_0 (k := 1) rfl
theorem dX11_chance_4 : decode cX11_chance 4 = .ok (.iload_n 1, 1) := chk_nth ocX11_chance_0 (k := 2) rfl
theorem dX11_chance_5 : decode cX11_chance 5 = .ok (.invokevirtual 148, 3) := chk_nth ocX11_chance_0 (k := 3) rfl
theorem dX11_chance_8 : decode cX11_chance 8 = .ok (.ifCond .eq 25, 3) := chk_nth ocX11_chance_0 (k := 4) rfl
theorem dX11_chance_11 : decode cX11_chance 11 = .ok (.aload_n 0, 1) := chk_nth ocX11_chance_0 (k := 5) rfl
theorem dX11_chance_12 : decode cX11_chance 12 = .ok (.getfield 12, 3) := chk_nth ocX11_chance_0 (k := 6) rfl
theorem dX11_chance_15 : decode cX11_chance 15 = .ok (.iload_n 2, 1) := chk_nth ocX11_chance_0 (k := 7) rfl
theorem dX11_chance_16 : decode cX11_chance 16 = .ok (.invokevirtual 253, 3) := chk_nth ocX11_chance_0 (k := 8) rfl
theorem dX11_chance_19 : decode cX11_chance 19 = .ok (.ifCond .eq 14, 3) := chk_nth ocX11_chance_0 (k := 9) rfl
theorem dX11_chance_22 : decode cX11_chance 22 = .ok (.iload 4, 2) := chk_nth ocX11_chance_0 (k := 10) rfl
theorem dX11_chance_24 : decode cX11_chance 24 = .ok (.ifCond .lt 9, 3) := chk_nth ocX11_chance_0 (k := 11) rfl
theorem dX11_chance_27 : decode cX11_chance 27 = .ok (.iload 4, 2) := chk_nth ocX11_chance_0 (k := 12) rfl
theorem dX11_chance_29 : decode cX11_chance 29 = .ok (.iconst 1, 1) := chk_nth ocX11_chance_0 (k := 13) rfl
theorem dX11_chance_30 : decode cX11_chance 30 = .ok (.if_icmp .le 6, 3) := chk_nth ocX11_chance_0 (k := 14) rfl
theorem dX11_chance_33 : decode cX11_chance 33 = .ok (.bipush (-2), 2) := chk_nth ocX11_chance_0 (k := 15) rfl
theorem dX11_chance_35 : decode cX11_chance 35 = .ok (.ireturn, 1) := chk_nth ocX11_chance_0 (k := 16) rfl
theorem dX11_chance_36 : decode cX11_chance 36 = .ok (.iload_n 3, 1) := chk_nth ocX11_chance_0 (k := 17) rfl
theorem dX11_chance_37 : decode cX11_chance 37 = .ok (.ifCond .lt 9, 3) := chk_nth ocX11_chance_0 (k := 18) rfl
theorem dX11_chance_40 : decode cX11_chance 40 = .ok (.iload_n 3, 1) := chk_nth ocX11_chance_0 (k := 19) rfl
theorem dX11_chance_41 : decode cX11_chance 41 = .ok (.bipush 6, 2) := chk_nth ocX11_chance_0 (k := 20) rfl
theorem dX11_chance_43 : decode cX11_chance 43 = .ok (.if_icmp .le 6, 3) := chk_nth ocX11_chance_0 (k := 21) rfl
theorem dX11_chance_46 : decode cX11_chance 46 = .ok (.bipush (-3), 2) := chk_nth ocX11_chance_0 (k := 22) rfl
theorem dX11_chance_48 : decode cX11_chance 48 = .ok (.ireturn, 1) := chk_nth ocX11_chance_0 (k := 23) rfl
def tcX11_chance_1 : List (Instr × Nat) := [(.aload_n 0, 1), (.getfield 72, 3), (.iload_n 1, 1), (.aload_n 0, 1), (.getfield 20, 3), (.iload_n 1, 1), (.invokevirtual 163, 3), (.iload_n 3, 1), (.aload_n 0, 1), (.getfield 20, 3), (.iconst 1, 1), (.invokevirtual 245, 3), (.aload_n 0, 1), (.getfield 72, 3), (.iload_n 2, 1), (.iconst (-1), 1), (.invokevirtual 249, 3), (.aload_n 0, 1), (.getfield 72, 3), (.getfield 362, 3), (.iload 4, 2), (.invokestatic 366, 3), (.ireturn, 1)]
theorem ocX11_chance_1 : chk (cX11_chance.data.toList.drop 49) tcX11_chance_1 = true := by decide +kernel
theorem dX11_chance_49 : decode cX11_chance 49 = .ok (.aload_n 0, 1) := chk_nth ocX11_chance_1 (k := 0) rfl
theorem dX11_chance_50 : decode cX11_chance 50 = .ok (.getfield 72, 3) := chk_nth ocX11_chance_1 (k := 1) rfl
theorem dX11_chance_53 : decode cX11_chance 53 = .ok (.iload_n 1, 1) := chk_nth ocX11_chance_1 (k := 2) rfl
theorem dX11_chance_54 : decode cX11_chance 54 = .ok (.aload_n 0, 1) := chk_nth ocX11_chance_1 (k := 3) rfl
theorem dX11_chance_55 : decode cX11_chance 55 = .ok (.getfield 20, 3) := chk_nth ocX11_chance_1 (k := 4) rfl
theorem dX11_chance_58 : decode cX11_chance 58 = .ok (.iload_n 1, 1) := chk_nth ocX11_chance_1 (k := 5) rfl
theorem dX11_chance_59 : decode cX11_chance 59 = .ok (.invokevirtual 163, 3) := chk_nth ocX11_chance_1 (k := 6) rfl
theorem dX11_chance_62 : decode cX11_chance 62 = .ok (.iload_n 3, 1) := chk_nth ocX11_chance_1 (k := 7) rfl
theorem dX11_chance_63 : decode cX11_chance 63 = .ok (.aload_n 0, 1) := chk_nth ocX11_chance_1 (k := 8) rfl
theorem dX11_chance_64 : decode cX11_chance 64 = .ok (.getfield 20, 3) := chk_nth ocX11_chance_1 (k := 9) rfl
theorem dX11_chance_67 : decode cX11_chance 67 = .ok (.iconst 1, 1) := chk_nth ocX11_chance_1 (k := 10) rfl
theorem dX11_chance_68 : decode cX11_chance 68 = .ok (.invokevirtual 245, 3) := chk_nth ocX11_chance_1 (k := 11) rfl
theorem dX11_chance_71 : decode cX11_chance 71 = .ok (.aload_n 0, 1) := chk_nth ocX11_chance_1 (k := 12) rfl
theorem dX11_chance_72 : decode cX11_chance 72 = .ok (.getfield 72, 3) := chk_nth ocX11_chance_1 (k := 13) rfl
theorem dX11_chance_75 : decode cX11_chance 75 = .ok (.iload_n 2, 1) := chk_nth ocX11_chance_1 (k := 14) rfl
theorem dX11_chance_76 : decode cX11_chance 76 = .ok (.iconst (-1), 1) := chk_nth ocX11_chance_1 (k := 15) rfl
theorem dX11_chance_77 : decode cX11_chance 77 = .ok (.invokevirtual 249, 3) := chk_nth ocX11_chance_1 (k := 16) rfl
theorem dX11_chance_80 : decode cX11_chance 80 = .ok (.aload_n 0, 1) := chk_nth ocX11_chance_1 (k := 17) rfl
theorem dX11_chance_81 : decode cX11_chance 81 = .ok (.getfield 72, 3) := chk_nth ocX11_chance_1 (k := 18) rfl
theorem dX11_chance_84 : decode cX11_chance 84 = .ok (.getfield 362, 3) := chk_nth ocX11_chance_1 (k := 19) rfl
theorem dX11_chance_87 : decode cX11_chance 87 = .ok (.iload 4, 2) := chk_nth ocX11_chance_1 (k := 20) rfl
theorem dX11_chance_89 : decode cX11_chance 89 = .ok (.invokestatic 366, 3) := chk_nth ocX11_chance_1 (k := 21) rfl
theorem dX11_chance_92 : decode cX11_chance 92 = .ok (.ireturn, 1) := chk_nth ocX11_chance_1 (k := 22) rfl
def tcX11_mean_0 : List (Instr × Nat) := [(.aload_n 0, 1), (.getfield 12, 3), (.iload_n 1, 1), (.invokevirtual 148, 3), (.ifCond .eq 12, 3), (.iload_n 3, 1), (.ifCond .lt 8, 3), (.iload_n 3, 1), (.iconst 1, 1), (.if_icmp .le 6, 3), (.bipush (-2), 2), (.ireturn, 1), (.iload_n 2, 1), (.ifCond .lt 9, 3), (.iload_n 2, 1), (.bipush 6, 2), (.if_icmp .le 6, 3), (.bipush (-3), 2), (.ireturn, 1), (.aload_n 0, 1), (.getfield 72, 3), (.iload_n 1, 1), (.aload_n 0, 1), (.getfield 20, 3)]
theorem ocX11_mean_0 : chk (cX11_mean.data.toList.drop 0) tcX11_mean_0 = true := by decide +kernel
theorem dX11_mean_0 : decode cX11_mean 0 = .ok (.aload_n 0, 1) := chk_nth ocX11_mean_0 (k := 0) rfl
theorem dX11_mean_1 : decode cX11_mean 1 = .ok (.getfield 12, 3) := chk_nth ocX11_mean_0 (k := 1) rfl
theorem dX11_mean_4 : decode cX11_mean 4 = .ok (.iload_n 1, 1) := chk_nth ocX11_mean_0 (k := 2) rfl
theorem dX11_mean_5 : decode cX11_mean 5 = .ok (.invokevirtual 148, 3) := chk_nth ocX11_mean_0 (k := 3) rfl
theorem dX11_mean_8 : decode cX11_mean 8 = .ok (.ifCond .eq 12, 3) := chk_nth ocX11_mean_0 (k := 4) rfl
theorem dX11_mean_11 : decode cX11_mean 11 = .ok (.iload_n 3, 1) := chk_nth ocX11_mean_0 (k := 5) rfl
theorem dX11_mean_12 : decode cX11_mean 12 = .ok (.ifCond .lt 8, 3) := chk_nth ocX11_mean_0 (k := 6) rfl
theorem dX11_mean_15 : decode cX11_mean 15 = .ok (.iload_n 3, 1) := chk_nth ocX11_mean_0 (k := 7) rfl
theorem dX11_mean_16 : decode cX11_mean 16 = .ok (.iconst 1, 1) := chk_nth ocX11_mean_0 (k := 8) rfl
theorem dX11_mean_17 : decode cX11_mean 17 = .ok (.if_icmp .le 6, 3) := chk_nth ocX11_mean_0 (k := 9) rfl
theorem dX11_mean_20 : decode cX11_mean 20 = .ok (.bipush (-2), 2) := chk_nth ocX11_mean_0 (k := 10) rfl
theorem dX11_mean_22 : decode cX11_mean 22 = .ok (.ireturn, 1) := chk_nth ocX11_mean_0 (k := 11) rfl
theorem dX11_mean_23 : decode cX11_mean 23 = .ok (.iload_n 2, 1) := chk_nth ocX11_mean_0 (k := 12) rfl
theorem dX11_mean_24 : decode cX11_mean 24 = .ok (.ifCond .lt 9, 3) := chk_nth ocX11_mean_0 (k := 13) rfl
theorem dX11_mean_27 : decode cX11_mean 27 = .ok (.iload_n 2, 1) := chk_nth ocX11_mean_0 (k := 14) rfl
theorem dX11_mean_28 : decode cX11_mean 28 = .ok (.bipush 6, 2) := chk_nth ocX11_mean_0 (k := 15) rfl
theorem dX11_mean_30 : decode cX11_mean 30 = .ok (.if_icmp .le 6, 3) := chk_nth ocX11_mean_0 (k := 16) rfl
theorem dX11_mean_33 : decode cX11_mean 33 = .ok (.bipush (-3), 2) := chk_nth ocX11_mean_0 (k := 17) rfl
theorem dX11_mean_35 : decode cX11_mean 35 = .ok (.ireturn, 1) := chk_nth ocX11_mean_0 (k := 18) rfl
theorem dX11_mean_36 : decode cX11_mean 36 = .ok (.aload_n 0, 1) := chk_nth ocX11_mean_0 (k := 19) rfl
theorem dX11_mean_37 : decode cX11_mean 37 = .ok (.getfield 72, 3) := chk_nth ocX11_mean_0 (k := 20) rfl
theorem dX11_mean_40 : decode cX11_mean 40 = .ok (.iload_n 1, 1) := chk_nth ocX11_mean_0 (k := 21) rfl
theorem dX11_mean_41 : decode cX11_mean 41 = .ok (.aload_n 0, 1) := chk_nth ocX11_mean_0 (k := 22) rfl
theorem dX11_mean_42 : decode cX11_mean 42 = .ok (.getfield 20, 3) := chk_nth ocX11_mean_0 (k := 23) rfl
def tcX11_mean_1 : List (Instr × Nat) := [(.iload_n 1, 1), (.invokevirtual 163, 3), (.iload_n 2, 1), (.aload_n 0, 1), (.getfield 20, 3), (.iconst 1, 1), (.invokevirtual 245, 3), (.aload_n 0, 1), (.getfield 72, 3), (.invokevirtual 370, 3), (.aload_n 0, 1), (.getfield 72, 3), (.getfield 362, 3), (.iload_n 3, 1), (.invokestatic 366, 3), (.ireturn, 1)]
theorem ocX11_mean_1 : chk (cX11_mean.data.toList.drop 45) tcX11_mean_1 = true := by decide +kernel
theorem dX11_mean_45 : decode cX11_mean 45 = .ok (.iload_n 1, 1) := chk_nth ocX11_mean_1 (k := 0) rfl
theorem dX11_mean_46 : decode cX11_mean 46 = .ok (.invokevirtual 163, 3) := chk_nth ocX11_mean_1 (k := 1) rfl
theorem dX11_mean_49 : decode cX11_mean 49 = .ok (.iload_n 2, 1) := chk_nth ocX11_mean_1 (k := 2) rfl
theorem dX11_mean_50 : decode cX11_mean 50 = .ok (.aload_n 0, 1) := chk_nth ocX11_mean_1 (k := 3) rfl
theorem dX11_mean_51 : decode cX11_mean 51 = .ok (.getfield 20, 3) := chk_nth ocX11_mean_1 (k := 4) rfl
theorem dX11_mean_54 : decode cX11_mean 54 = .ok (.iconst 1, 1) := chk_nth ocX11_mean_1 (k := 5) rfl
theorem dX11_mean_55 : decode cX11_mean 55 = .ok (.invokevirtual 245, 3) := chk_nth ocX11_mean_1 (k := 6) rfl
theorem dX11_mean_58 : decode cX11_mean 58 = .ok (.aload_n 0, 1) := chk_nth ocX11_mean_1 (k := 7) rfl
theorem dX11_mean_59 : decode cX11_mean 59 = .ok (.getfield 72, 3) := chk_nth ocX11_mean_1 (k := 8) rfl
theorem dX11_mean_62 : decode cX11_mean 62 = .ok (.invokevirtual 370, 3) := chk_nth ocX11_mean_1 (k := 9) rfl
theorem dX11_mean_65 : decode cX11_mean 65 = .ok (.aload_n 0, 1) := chk_nth ocX11_mean_1 (k := 10) rfl
theorem dX11_mean_66 : decode cX11_mean 66 = .ok (.getfield 72, 3) := chk_nth ocX11_mean_1 (k := 11) rfl
theorem dX11_mean_69 : decode cX11_mean 69 = .ok (.getfield 362, 3) := chk_nth ocX11_mean_1 (k := 12) rfl
theorem dX11_mean_72 : decode cX11_mean 72 = .ok (.iload_n 3, 1) := chk_nth ocX11_mean_1 (k := 13) rfl
theorem dX11_mean_73 : decode cX11_mean 73 = .ok (.invokestatic 366, 3) := chk_nth ocX11_mean_1 (k := 14) rfl
theorem dX11_mean_76 : decode cX11_mean 76 = .ok (.ireturn, 1) := chk_nth ocX11_mean_1 (k := 15) rfl
def tcX11_likeliest_0 : List (Instr × Nat) := [(.aload_n 0, 1), (.getfield 12, 3), (.iload_n 1, 1), (.invokevirtual 148, 3), (.ifCond .ne 6, 3), (.bipush (-2), 2), (.ireturn, 1), (.iload_n 2, 1), (.ifCond .lt 9, 3), (.iload_n 2, 1), (.bipush 6, 2), (.if_icmp .le 6, 3), (.bipush (-3), 2), (.ireturn, 1), (.aload_n 0, 1), (.getfield 72, 3), (.iload_n 1, 1), (.aload_n 0, 1), (.getfield 20, 3), (.iload_n 1, 1), (.invokevirtual 163, 3), (.iload_n 2, 1), (.aload_n 0, 1), (.getfield 20, 3)]
theorem ocX11_likeliest_0 : chk (cX11_likeliest.data.toList.drop 0) tcX11_likeliest_0 = true := by decide +kernel
theorem dX11_likeliest_0 : decode cX11_likeliest 0 = .ok (.aload_n 0, 1) := chk_nth ocX11_likeliest_0 (k := 0) rfl
theorem dX11_likeliest_1 : decode cX11_likeliest 1 = .ok (.getfield 12, 3) := chk_nth ocX11_likeliest_0 (k := 1) rfl
theorem dX11_likeliest_4 : decode cX11_likeliest 4 = .ok (.iload_n 1, 1) := chk_nth ocX11_likeliest_0 (k := 2) rfl
theorem dX11_likeliest_5 : decode cX11_likeliest 5 = .ok (.invokevirtual 148, 3) := chk_nth ocX11_likeliest_0 (k := 3) rfl
theorem dX11_likeliest_8 : decode cX11_likeliest 8 = .ok (.ifCond .ne 6, 3) := chk_nth ocX11_likeliest_0 (k := 4) rfl
theorem dX11_likeliest_11 : decode cX11_likeliest 11 = .ok (.bipush (-2), 2) := chk_nth ocX11_likeliest_0 (k := 5) rfl
theorem dX11_likeliest_13 : decode cX11_likeliest 13 = .ok (.ireturn, 1) := chk_nth ocX11_likeliest_0 (k := 6) rfl
theorem dX11_likeliest_14 : decode cX11_likeliest 14 = .ok (.iload_n 2, 1) := chk_nth ocX11_likeliest_0 (k := 7) rfl
theorem dX11_likeliest_15 : decode cX11_likeliest 15 = .ok (.ifCond .lt 9, 3) := chk_nth ocX11_likeliest_0 (k := 8) rfl
theorem dX11_likeliest_18 : decode cX11_likeliest 18 = .ok (.iload_n 2, 1) := chk_nth ocX11_likeliest_0 (k := 9) rfl
theorem dX11_likeliest_19 : decode cX11_likeliest 19 = .ok (.bipush 6, 2) := chk_nth ocX11_likeliest_0 (k := 10) rfl
theorem dX11_likeliest_21 : decode cX11_likeliest 21 = .ok (.if_icmp .le 6, 3) := chk_nth ocX11_likeliest_0 (k := 11) rfl
theorem dX11_likeliest_24 : decode cX11_likeliest 24 = .ok (.bipush (-3), 2) := chk_nth ocX11_likeliest_0 (k := 12) rfl
theorem dX11_likeliest_26 : decode cX11_likeliest 26 = .ok (.ireturn, 1) := chk_nth ocX11_likeliest_0 (k := 13) rfl
theorem dX11_likeliest_27 : decode cX11_likeliest 27 = .ok (.aload_n 0, 1) := chk_nth ocX11_likeliest_0 (k := 14) rfl
theorem dX11_likeliest_28 : decode cX11_likeliest 28 = .ok (.getfield 72, 3) := chk_nth ocX11_likeliest_0 (k := 15) rfl
theorem dX11_likeliest_31 : decode cX11_likeliest 31 = .ok (.iload_n 1, 1) := chk_nth ocX11_likeliest_0 (k := 16) rfl
theorem dX11_likeliest_32 : decode cX11_likeliest 32 = .ok (.aload_n 0, 1) := chk_nth ocX11_likeliest_0 (k := 17) rfl
theorem dX11_likeliest_33 : decode cX11_likeliest 33 = .ok (.getfield 20, 3) := chk_nth ocX11_likeliest_0 (k := 18) rfl
theorem dX11_likeliest_36 : decode cX11_likeliest 36 = .ok (.iload_n 1, 1) := chk_nth ocX11_likeliest_0 (k := 19) rfl
theorem dX11_likeliest_37 : decode cX11_likeliest 37 = .ok (.invokevirtual 163, 3) := chk_nth ocX11_likeliest_0 (k := 20) rfl
theorem dX11_likeliest_40 : decode cX11_likeliest 40 = .ok (.iload_n 2, 1) := chk_nth ocX11_likeliest_0 (k := 21) rfl
theorem dX11_likeliest_41 : decode cX11_likeliest 41 = .ok (.aload_n 0, 1) := chk_nth ocX11_likeliest_0 (k := 22) rfl
theorem dX11_likeliest_42 : decode cX11_likeliest 42 = .ok (.getfield 20, 3) := chk_nth ocX11_likeliest_0 (k := 23) rfl
def tcX11_likeliest_1 : List (Instr × Nat) := [(.iconst 1, 1), (.invokevirtual 245, 3), (.iconst 0, 1), (.istore_n 3, 1), (.iconst 1, 1), (.istore 4, 2), (.iload 4, 2), (.aload_n 0, 1), (.getfield 12, 3), (.getfield 324, 3), (.if_icmp .ge 35, 3), (.aload_n 0, 1), (.getfield 72, 3), (.iload 4, 2), (.iconst (-1), 1), (.invokevirtual 249, 3), (.aload_n 0, 1), (.getfield 72, 3), (.iload_n 3, 1), (.iconst (-1), 1), (.invokevirtual 249, 3), (.lcmp, 1), (.ifCond .le 6, 3), (.iload 4, 2)]
theorem ocX11_likeliest_1 : chk (cX11_likeliest.data.toList.drop 45) tcX11_likeliest_1 = true := by decide +kernel
theorem dX11_likeliest_45 : decode cX11_likeliest 45 = .ok (.iconst 1, 1) := chk_nth ocX11_likeliest_1 (k := 0) rfl
theorem dX11_likeliest_46 : decode cX11_likeliest 46 = .ok (.invokevirtual 245, 3) := chk_nth ocX11_likeliest_1 (k := 1) rfl
theorem dX11_likeliest_49 : decode cX11_likeliest 49 = .ok (.iconst 0, 1) := chk_nth ocX11_likeliest_1 (k := 2) rfl
theorem dX11_likeliest_50 : decode cX11_likeliest 50 = .ok (.istore_n 3, 1) := chk_nth ocX11_likeliest_1 (k := 3) rfl
theorem dX11_likeliest_51 : decode cX11_likeliest 51 = .ok (.iconst 1, 1) := chk_nth ocX11_likeliest_1 (k := 4) rfl
theorem dX11_likeliest_52 : decode cX11_likeliest 52 = .ok (.istore 4, 2) := chk_nth ocX11_likeliest_1 (k := 5) rfl
theorem dX11_likeliest_54 : decode cX11_likeliest 54 = .ok (.iload 4, 2) := chk_nth ocX11_likeliest_1 (k := 6) rfl
theorem dX11_likeliest_56 : decode cX11_likeliest 56 = .ok (.aload_n 0, 1) := chk_nth ocX11_likeliest_1 (k := 7) rfl
theorem dX11_likeliest_57 : decode cX11_likeliest 57 = .ok (.getfield 12, 3) := chk_nth ocX11_likeliest_1 (k := 8) rfl
theorem dX11_likeliest_60 : decode cX11_likeliest 60 = .ok (.getfield 324, 3) := chk_nth ocX11_likeliest_1 (k := 9) rfl
theorem dX11_likeliest_63 : decode cX11_likeliest 63 = .ok (.if_icmp .ge 35, 3) := chk_nth ocX11_likeliest_1 (k := 10) rfl
theorem dX11_likeliest_66 : decode cX11_likeliest 66 = .ok (.aload_n 0, 1) := chk_nth ocX11_likeliest_1 (k := 11) rfl
theorem dX11_likeliest_67 : decode cX11_likeliest 67 = .ok (.getfield 72, 3) := chk_nth ocX11_likeliest_1 (k := 12) rfl
theorem dX11_likeliest_70 : decode cX11_likeliest 70 = .ok (.iload 4, 2) := chk_nth ocX11_likeliest_1 (k := 13) rfl
theorem dX11_likeliest_72 : decode cX11_likeliest 72 = .ok (.iconst (-1), 1) := chk_nth ocX11_likeliest_1 (k := 14) rfl
theorem dX11_likeliest_73 : decode cX11_likeliest 73 = .ok (.invokevirtual 249, 3) := chk_nth ocX11_likeliest_1 (k := 15) rfl
theorem dX11_likeliest_76 : decode cX11_likeliest 76 = .ok (.aload_n 0, 1) := chk_nth ocX11_likeliest_1 (k := 16) rfl
theorem dX11_likeliest_77 : decode cX11_likeliest 77 = .ok (.getfield 72, 3) := chk_nth ocX11_likeliest_1 (k := 17) rfl
theorem dX11_likeliest_80 : decode cX11_likeliest 80 = .ok (.iload_n 3, 1) := chk_nth ocX11_likeliest_1 (k := 18) rfl
theorem dX11_likeliest_81 : decode cX11_likeliest 81 = .ok (.iconst (-1), 1) := chk_nth ocX11_likeliest_1 (k := 19) rfl
theorem dX11_likeliest_82 : decode cX11_likeliest 82 = .ok (.invokevirtual 249, 3) := chk_nth ocX11_likeliest_1 (k := 20) rfl
theorem dX11_likeliest_85 : decode cX11_likeliest 85 = .ok (.lcmp, 1) := chk_nth ocX11_likeliest_1 (k := 21) rfl
theorem dX11_likeliest_86 : decode cX11_likeliest 86 = .ok (.ifCond .le 6, 3) := chk_nth ocX11_likeliest_1 (k := 22) rfl
theorem dX11_likeliest_89 : decode cX11_likeliest 89 = .ok (.iload 4, 2) := chk_nth ocX11_likeliest_1 (k := 23) rfl
def tcX11_likeliest_2 : List (Instr × Nat) := [(.istore_n 3, 1), (.iinc 4 1, 3), (.goto (-41), 3), (.iload_n 3, 1), (.ireturn, 1)]
theorem ocX11_likeliest_2 : chk (cX11_likeliest.data.toList.drop 91) tcX11_likeliest_2 = true := by decide +kernel
theorem dX11_likeliest_91 : decode cX11_likeliest 91 = .ok (.istore_n 3, 1) := chk_nth ocX11_likeliest_2 (k := 0) rfl
theorem dX11_likeliest_92 : decode cX11_likeliest 92 = .ok (.iinc 4 1, 3) := chk_nth ocX11_likeliest_2 (k := 1) rfl
theorem dX11_likeliest_95 : decode cX11_likeliest 95 = .ok (.goto (-41), 3) := chk_nth ocX11_likeliest_2 (k := 2) rfl
theorem dX11_likeliest_98 : decode cX11_likeliest 98 = .ok (.iload_n 3, 1) := chk_nth ocX11_likeliest_2 (k := 3) rfl
theorem dX11_likeliest_99 : decode cX11_likeliest 99 = .ok (.ireturn, 1) := chk_nth ocX11_likeliest_2 (k := 4) rfl
def tcX11_inLowestTerms_0 : List (Instr × Nat) := [(.lload_n 0, 1), (.lload_n 2, 1), (.invokestatic 374, 3), (.lstore 5, 2), (.lload 5, 2), (.lconst 1, 1), (.lcmp, 1), (.ifCond .ge 5, 3), (.iconst 0, 1), (.ireturn, 1), (.iload 4, 2), (.ifCond .ne 7, 3), (.lload_n 0, 1), (.goto 4, 3), (.lload_n 2, 1), (.lload 5, 2), (.ldiv, 1), (.l2i, 1), (.ireturn, 1)]
theorem ocX11_inLowestTerms_0 : chk (cX11_inLowestTerms.data.toList.drop 0) tcX11_inLowestTerms_0 = true := by decide +kernel
theorem dX11_inLowestTerms_0 : decode cX11_inLowestTerms 0 = .ok (.lload_n 0, 1) := chk_nth ocX11_inLowestTerms_0 (k := 0) rfl
theorem dX11_inLowestTerms_1 : decode cX11_inLowestTerms 1 = .ok (.lload_n 2, 1) := chk_nth ocX11_inLowestTerms_0 (k := 1) rfl
theorem dX11_inLowestTerms_2 : decode cX11_inLowestTerms 2 = .ok (.invokestatic 374, 3) := chk_nth ocX11_inLowestTerms_0 (k := 2) rfl
theorem dX11_inLowestTerms_5 : decode cX11_inLowestTerms 5 = .ok (.lstore 5, 2) := chk_nth ocX11_inLowestTerms_0 (k := 3) rfl
theorem dX11_inLowestTerms_7 : decode cX11_inLowestTerms 7 = .ok (.lload 5, 2) := chk_nth ocX11_inLowestTerms_0 (k := 4) rfl
theorem dX11_inLowestTerms_9 : decode cX11_inLowestTerms 9 = .ok (.lconst 1, 1) := chk_nth ocX11_inLowestTerms_0 (k := 5) rfl
theorem dX11_inLowestTerms_10 : decode cX11_inLowestTerms 10 = .ok (.lcmp, 1) := chk_nth ocX11_inLowestTerms_0 (k := 6) rfl
theorem dX11_inLowestTerms_11 : decode cX11_inLowestTerms 11 = .ok (.ifCond .ge 5, 3) := chk_nth ocX11_inLowestTerms_0 (k := 7) rfl
theorem dX11_inLowestTerms_14 : decode cX11_inLowestTerms 14 = .ok (.iconst 0, 1) := chk_nth ocX11_inLowestTerms_0 (k := 8) rfl
theorem dX11_inLowestTerms_15 : decode cX11_inLowestTerms 15 = .ok (.ireturn, 1) := chk_nth ocX11_inLowestTerms_0 (k := 9) rfl
theorem dX11_inLowestTerms_16 : decode cX11_inLowestTerms 16 = .ok (.iload 4, 2) := chk_nth ocX11_inLowestTerms_0 (k := 10) rfl
theorem dX11_inLowestTerms_18 : decode cX11_inLowestTerms 18 = .ok (.ifCond .ne 7, 3) := chk_nth ocX11_inLowestTerms_0 (k := 11) rfl
theorem dX11_inLowestTerms_21 : decode cX11_inLowestTerms 21 = .ok (.lload_n 0, 1) := chk_nth ocX11_inLowestTerms_0 (k := 12) rfl
theorem dX11_inLowestTerms_22 : decode cX11_inLowestTerms 22 = .ok (.goto 4, 3) := chk_nth ocX11_inLowestTerms_0 (k := 13) rfl
theorem dX11_inLowestTerms_25 : decode cX11_inLowestTerms 25 = .ok (.lload_n 2, 1) := chk_nth ocX11_inLowestTerms_0 (k := 14) rfl
theorem dX11_inLowestTerms_26 : decode cX11_inLowestTerms 26 = .ok (.lload 5, 2) := chk_nth ocX11_inLowestTerms_0 (k := 15) rfl
theorem dX11_inLowestTerms_28 : decode cX11_inLowestTerms 28 = .ok (.ldiv, 1) := chk_nth ocX11_inLowestTerms_0 (k := 16) rfl
theorem dX11_inLowestTerms_29 : decode cX11_inLowestTerms 29 = .ok (.l2i, 1) := chk_nth ocX11_inLowestTerms_0 (k := 17) rfl
theorem dX11_inLowestTerms_30 : decode cX11_inLowestTerms 30 = .ok (.ireturn, 1) := chk_nth ocX11_inLowestTerms_0 (k := 18) rfl
def tcX11_commonDivisor_0 : List (Instr × Nat) := [(.lload_n 0, 1), (.lstore 4, 2), (.lload_n 2, 1), (.lstore 6, 2), (.iconst 0, 1), (.istore 8, 2), (.iload 8, 2), (.sipush 128, 3), (.if_icmp .ge 31, 3), (.lload 6, 2), (.lconst 0, 1), (.lcmp, 1), (.ifCond .eq 24, 3), (.lload 4, 2), (.lload 6, 2), (.lrem, 1), (.lstore 9, 2), (.lload 6, 2), (.lstore 4, 2), (.lload 9, 2), (.lstore 6, 2), (.iinc 8 1, 3), (.goto (-33), 3), (.lload 4, 2)]
theorem ocX11_commonDivisor_0 : chk (cX11_commonDivisor.data.toList.drop 0) tcX11_commonDivisor_0 = true := by decide +kernel
theorem dX11_commonDivisor_0 : decode cX11_commonDivisor 0 = .ok (.lload_n 0, 1) := chk_nth ocX11_commonDivisor_0 (k := 0) rfl
theorem dX11_commonDivisor_1 : decode cX11_commonDivisor 1 = .ok (.lstore 4, 2) := chk_nth ocX11_commonDivisor_0 (k := 1) rfl
theorem dX11_commonDivisor_3 : decode cX11_commonDivisor 3 = .ok (.lload_n 2, 1) := chk_nth ocX11_commonDivisor_0 (k := 2) rfl
theorem dX11_commonDivisor_4 : decode cX11_commonDivisor 4 = .ok (.lstore 6, 2) := chk_nth ocX11_commonDivisor_0 (k := 3) rfl
theorem dX11_commonDivisor_6 : decode cX11_commonDivisor 6 = .ok (.iconst 0, 1) := chk_nth ocX11_commonDivisor_0 (k := 4) rfl
theorem dX11_commonDivisor_7 : decode cX11_commonDivisor 7 = .ok (.istore 8, 2) := chk_nth ocX11_commonDivisor_0 (k := 5) rfl
theorem dX11_commonDivisor_9 : decode cX11_commonDivisor 9 = .ok (.iload 8, 2) := chk_nth ocX11_commonDivisor_0 (k := 6) rfl
theorem dX11_commonDivisor_11 : decode cX11_commonDivisor 11 = .ok (.sipush 128, 3) := chk_nth ocX11_commonDivisor_0 (k := 7) rfl
theorem dX11_commonDivisor_14 : decode cX11_commonDivisor 14 = .ok (.if_icmp .ge 31, 3) := chk_nth ocX11_commonDivisor_0 (k := 8) rfl
theorem dX11_commonDivisor_17 : decode cX11_commonDivisor 17 = .ok (.lload 6, 2) := chk_nth ocX11_commonDivisor_0 (k := 9) rfl
theorem dX11_commonDivisor_19 : decode cX11_commonDivisor 19 = .ok (.lconst 0, 1) := chk_nth ocX11_commonDivisor_0 (k := 10) rfl
theorem dX11_commonDivisor_20 : decode cX11_commonDivisor 20 = .ok (.lcmp, 1) := chk_nth ocX11_commonDivisor_0 (k := 11) rfl
theorem dX11_commonDivisor_21 : decode cX11_commonDivisor 21 = .ok (.ifCond .eq 24, 3) := chk_nth ocX11_commonDivisor_0 (k := 12) rfl
theorem dX11_commonDivisor_24 : decode cX11_commonDivisor 24 = .ok (.lload 4, 2) := chk_nth ocX11_commonDivisor_0 (k := 13) rfl
theorem dX11_commonDivisor_26 : decode cX11_commonDivisor 26 = .ok (.lload 6, 2) := chk_nth ocX11_commonDivisor_0 (k := 14) rfl
theorem dX11_commonDivisor_28 : decode cX11_commonDivisor 28 = .ok (.lrem, 1) := chk_nth ocX11_commonDivisor_0 (k := 15) rfl
theorem dX11_commonDivisor_29 : decode cX11_commonDivisor 29 = .ok (.lstore 9, 2) := chk_nth ocX11_commonDivisor_0 (k := 16) rfl
theorem dX11_commonDivisor_31 : decode cX11_commonDivisor 31 = .ok (.lload 6, 2) := chk_nth ocX11_commonDivisor_0 (k := 17) rfl
theorem dX11_commonDivisor_33 : decode cX11_commonDivisor 33 = .ok (.lstore 4, 2) := chk_nth ocX11_commonDivisor_0 (k := 18) rfl
theorem dX11_commonDivisor_35 : decode cX11_commonDivisor 35 = .ok (.lload 9, 2) := chk_nth ocX11_commonDivisor_0 (k := 19) rfl
theorem dX11_commonDivisor_37 : decode cX11_commonDivisor 37 = .ok (.lstore 6, 2) := chk_nth ocX11_commonDivisor_0 (k := 20) rfl
theorem dX11_commonDivisor_39 : decode cX11_commonDivisor 39 = .ok (.iinc 8 1, 3) := chk_nth ocX11_commonDivisor_0 (k := 21) rfl
theorem dX11_commonDivisor_42 : decode cX11_commonDivisor 42 = .ok (.goto (-33), 3) := chk_nth ocX11_commonDivisor_0 (k := 22) rfl
theorem dX11_commonDivisor_45 : decode cX11_commonDivisor 45 = .ok (.lload 4, 2) := chk_nth ocX11_commonDivisor_0 (k := 23) rfl
def tcX11_commonDivisor_1 : List (Instr × Nat) := [(.lreturn, 1)]
theorem ocX11_commonDivisor_1 : chk (cX11_commonDivisor.data.toList.drop 47) tcX11_commonDivisor_1 = true := by decide +kernel
theorem dX11_commonDivisor_47 : decode cX11_commonDivisor 47 = .ok (.lreturn, 1) := chk_nth ocX11_commonDivisor_1 (k := 0) rfl
def tcX11_numbers_0 : List (Instr × Nat) := [(.aload_n 0, 1), (.iload_n 1, 1), (.invokevirtual 204, 3), (.astore 4, 2), (.aload 4, 2), (.ifnull 12, 3), (.iload_n 2, 1), (.ifCond .lt 8, 3), (.iload_n 2, 1), (.iconst 4, 1), (.if_icmp .lt 6, 3), (.bipush (-2), 2), (.ireturn, 1), (.iload_n 3, 1), (.ifCond .lt 9, 3), (.iload_n 3, 1), (.bipush 40, 2), (.if_icmp .le 6, 3), (.bipush (-3), 2), (.ireturn, 1), (.aload 4, 2), (.iload_n 2, 1), (.iload_n 3, 1), (.invokevirtual 378, 3)]
theorem ocX11_numbers_0 : chk (cX11_numbers.data.toList.drop 0) tcX11_numbers_0 = true := by decide +kernel
theorem dX11_numbers_0 : decode cX11_numbers 0 = .ok (.aload_n 0, 1) := chk_nth ocX11_numbers_0 (k := 0) rfl
theorem dX11_numbers_1 : decode cX11_numbers 1 = .ok (.iload_n 1, 1) := chk_nth ocX11_numbers_0 (k := 1) rfl
theorem dX11_numbers_2 : decode cX11_numbers 2 = .ok (.invokevirtual 204, 3) := chk_nth ocX11_numbers_0 (k := 2) rfl
theorem dX11_numbers_5 : decode cX11_numbers 5 = .ok (.astore 4, 2) := chk_nth ocX11_numbers_0 (k := 3) rfl
theorem dX11_numbers_7 : decode cX11_numbers 7 = .ok (.aload 4, 2) := chk_nth ocX11_numbers_0 (k := 4) rfl
theorem dX11_numbers_9 : decode cX11_numbers 9 = .ok (.ifnull 12, 3) := chk_nth ocX11_numbers_0 (k := 5) rfl
theorem dX11_numbers_12 : decode cX11_numbers 12 = .ok (.iload_n 2, 1) := chk_nth ocX11_numbers_0 (k := 6) rfl
theorem dX11_numbers_13 : decode cX11_numbers 13 = .ok (.ifCond .lt 8, 3) := chk_nth ocX11_numbers_0 (k := 7) rfl
theorem dX11_numbers_16 : decode cX11_numbers 16 = .ok (.iload_n 2, 1) := chk_nth ocX11_numbers_0 (k := 8) rfl
theorem dX11_numbers_17 : decode cX11_numbers 17 = .ok (.iconst 4, 1) := chk_nth ocX11_numbers_0 (k := 9) rfl
theorem dX11_numbers_18 : decode cX11_numbers 18 = .ok (.if_icmp .lt 6, 3) := chk_nth ocX11_numbers_0 (k := 10) rfl
theorem dX11_numbers_21 : decode cX11_numbers 21 = .ok (.bipush (-2), 2) := chk_nth ocX11_numbers_0 (k := 11) rfl
theorem dX11_numbers_23 : decode cX11_numbers 23 = .ok (.ireturn, 1) := chk_nth ocX11_numbers_0 (k := 12) rfl
theorem dX11_numbers_24 : decode cX11_numbers 24 = .ok (.iload_n 3, 1) := chk_nth ocX11_numbers_0 (k := 13) rfl
theorem dX11_numbers_25 : decode cX11_numbers 25 = .ok (.ifCond .lt 9, 3) := chk_nth ocX11_numbers_0 (k := 14) rfl
theorem dX11_numbers_28 : decode cX11_numbers 28 = .ok (.iload_n 3, 1) := chk_nth ocX11_numbers_0 (k := 15) rfl
theorem dX11_numbers_29 : decode cX11_numbers 29 = .ok (.bipush 40, 2) := chk_nth ocX11_numbers_0 (k := 16) rfl
theorem dX11_numbers_31 : decode cX11_numbers 31 = .ok (.if_icmp .le 6, 3) := chk_nth ocX11_numbers_0 (k := 17) rfl
theorem dX11_numbers_34 : decode cX11_numbers 34 = .ok (.bipush (-3), 2) := chk_nth ocX11_numbers_0 (k := 18) rfl
theorem dX11_numbers_36 : decode cX11_numbers 36 = .ok (.ireturn, 1) := chk_nth ocX11_numbers_0 (k := 19) rfl
theorem dX11_numbers_37 : decode cX11_numbers 37 = .ok (.aload 4, 2) := chk_nth ocX11_numbers_0 (k := 20) rfl
theorem dX11_numbers_39 : decode cX11_numbers 39 = .ok (.iload_n 2, 1) := chk_nth ocX11_numbers_0 (k := 21) rfl
theorem dX11_numbers_40 : decode cX11_numbers 40 = .ok (.iload_n 3, 1) := chk_nth ocX11_numbers_0 (k := 22) rfl
theorem dX11_numbers_41 : decode cX11_numbers 41 = .ok (.invokevirtual 378, 3) := chk_nth ocX11_numbers_0 (k := 23) rfl
def tcX11_numbers_1 : List (Instr × Nat) := [(.iconst 0, 1), (.ireturn, 1)]
theorem ocX11_numbers_1 : chk (cX11_numbers.data.toList.drop 44) tcX11_numbers_1 = true := by decide +kernel
theorem dX11_numbers_44 : decode cX11_numbers 44 = .ok (.iconst 0, 1) := chk_nth ocX11_numbers_1 (k := 0) rfl
theorem dX11_numbers_45 : decode cX11_numbers 45 = .ok (.ireturn, 1) := chk_nth ocX11_numbers_1 (k := 1) rfl
def tcX11_write_0 : List (Instr × Nat) := [(.aload_n 0, 1), (.iload_n 1, 1), (.invokevirtual 204, 3), (.astore 5, 2), (.aload 5, 2), (.ifnonnull 7, 3), (.ldc2_w 380, 3), (.lreturn, 1), (.aload 5, 2), (.invokevirtual 208, 3), (.ifCond .eq 7, 3), (.ldc2_w 382, 3), (.lreturn, 1), (.aload 5, 2), (.iload_n 2, 1), (.invokevirtual 384, 3), (.ifCond .ne 7, 3), (.ldc2_w 387, 3), (.lreturn, 1), (.aload 5, 2), (.iload_n 2, 1), (.lload_n 3, 1), (.invokevirtual 389, 3), (.aload 5, 2)]
theorem ocX11_write_0 : chk (cX11_write.data.toList.drop 0) tcX11_write_0 = true := by decide +kernel
theorem dX11_write_0 : decode cX11_write 0 = .ok (.aload_n 0, 1) := chk_nth ocX11_write_0 (k := 0) rfl
theorem dX11_write_1 : decode cX11_write 1 = .ok (.iload_n 1, 1) := chk_nth ocX11_write_0 (k := 1) rfl
theorem dX11_write_2 : decode cX11_write 2 = .ok (.invokevirtual 204, 3) := chk_nth ocX11_write_0 (k := 2) rfl
theorem dX11_write_5 : decode cX11_write 5 = .ok (.astore 5, 2) := chk_nth ocX11_write_0 (k := 3) rfl
theorem dX11_write_7 : decode cX11_write 7 = .ok (.aload 5, 2) := chk_nth ocX11_write_0 (k := 4) rfl
theorem dX11_write_9 : decode cX11_write 9 = .ok (.ifnonnull 7, 3) := chk_nth ocX11_write_0 (k := 5) rfl
theorem dX11_write_12 : decode cX11_write 12 = .ok (.ldc2_w 380, 3) := chk_nth ocX11_write_0 (k := 6) rfl
theorem dX11_write_15 : decode cX11_write 15 = .ok (.lreturn, 1) := chk_nth ocX11_write_0 (k := 7) rfl
theorem dX11_write_16 : decode cX11_write 16 = .ok (.aload 5, 2) := chk_nth ocX11_write_0 (k := 8) rfl
theorem dX11_write_18 : decode cX11_write 18 = .ok (.invokevirtual 208, 3) := chk_nth ocX11_write_0 (k := 9) rfl
theorem dX11_write_21 : decode cX11_write 21 = .ok (.ifCond .eq 7, 3) := chk_nth ocX11_write_0 (k := 10) rfl
theorem dX11_write_24 : decode cX11_write 24 = .ok (.ldc2_w 382, 3) := chk_nth ocX11_write_0 (k := 11) rfl
theorem dX11_write_27 : decode cX11_write 27 = .ok (.lreturn, 1) := chk_nth ocX11_write_0 (k := 12) rfl
theorem dX11_write_28 : decode cX11_write 28 = .ok (.aload 5, 2) := chk_nth ocX11_write_0 (k := 13) rfl
theorem dX11_write_30 : decode cX11_write 30 = .ok (.iload_n 2, 1) := chk_nth ocX11_write_0 (k := 14) rfl
theorem dX11_write_31 : decode cX11_write 31 = .ok (.invokevirtual 384, 3) := chk_nth ocX11_write_0 (k := 15) rfl
theorem dX11_write_34 : decode cX11_write 34 = .ok (.ifCond .ne 7, 3) := chk_nth ocX11_write_0 (k := 16) rfl
theorem dX11_write_37 : decode cX11_write 37 = .ok (.ldc2_w 387, 3) := chk_nth ocX11_write_0 (k := 17) rfl
theorem dX11_write_40 : decode cX11_write 40 = .ok (.lreturn, 1) := chk_nth ocX11_write_0 (k := 18) rfl
theorem dX11_write_41 : decode cX11_write 41 = .ok (.aload 5, 2) := chk_nth ocX11_write_0 (k := 19) rfl
theorem dX11_write_43 : decode cX11_write 43 = .ok (.iload_n 2, 1) := chk_nth ocX11_write_0 (k := 20) rfl
theorem dX11_write_44 : decode cX11_write 44 = .ok (.lload_n 3, 1) := chk_nth ocX11_write_0 (k := 21) rfl
theorem dX11_write_45 : decode cX11_write 45 = .ok (.invokevirtual 389, 3) := chk_nth ocX11_write_0 (k := 22) rfl
theorem dX11_write_48 : decode cX11_write 48 = .ok (.aload 5, 2) := chk_nth ocX11_write_0 (k := 23) rfl
def tcX11_write_1 : List (Instr × Nat) := [(.iload_n 2, 1), (.invokevirtual 340, 3), (.lreturn, 1)]
theorem ocX11_write_1 : chk (cX11_write.data.toList.drop 50) tcX11_write_1 = true := by decide +kernel
theorem dX11_write_50 : decode cX11_write 50 = .ok (.iload_n 2, 1) := chk_nth ocX11_write_1 (k := 0) rfl
theorem dX11_write_51 : decode cX11_write 51 = .ok (.invokevirtual 340, 3) := chk_nth ocX11_write_1 (k := 1) rfl
theorem dX11_write_54 : decode cX11_write 54 = .ok (.lreturn, 1) := chk_nth ocX11_write_1 (k := 2) rfl
def tcX11_lists_0 : List (Instr × Nat) := [(.aload_n 0, 1), (.iload_n 1, 1), (.invokevirtual 204, 3), (.astore 5, 2), (.aload 5, 2), (.ifnull 25, 3), (.aload_n 0, 1), (.getfield 12, 3), (.iload_n 2, 1), (.invokevirtual 148, 3), (.ifCond .eq 14, 3), (.aload_n 0, 1), (.getfield 12, 3), (.iload_n 3, 1), (.invokevirtual 253, 3), (.ifCond .ne 6, 3), (.bipush (-2), 2), (.ireturn, 1), (.aload 5, 2), (.invokevirtual 208, 3), (.ifCond .eq 6, 3), (.bipush (-6), 2), (.ireturn, 1), (.aload_n 0, 1)]
theorem ocX11_lists_0 : chk (cX11_lists.data.toList.drop 0) tcX11_lists_0 = true := by decide +kernel
theorem dX11_lists_0 : decode cX11_lists 0 = .ok (.aload_n 0, 1) := chk_nth ocX11_lists_0 (k := 0) rfl
theorem dX11_lists_1 : decode cX11_lists 1 = .ok (.iload_n 1, 1) := chk_nth ocX11_lists_0 (k := 1) rfl
theorem dX11_lists_2 : decode cX11_lists 2 = .ok (.invokevirtual 204, 3) := chk_nth ocX11_lists_0 (k := 2) rfl
theorem dX11_lists_5 : decode cX11_lists 5 = .ok (.astore 5, 2) := chk_nth ocX11_lists_0 (k := 3) rfl
theorem dX11_lists_7 : decode cX11_lists 7 = .ok (.aload 5, 2) := chk_nth ocX11_lists_0 (k := 4) rfl
theorem dX11_lists_9 : decode cX11_lists 9 = .ok (.ifnull 25, 3) := chk_nth ocX11_lists_0 (k := 5) rfl
theorem dX11_lists_12 : decode cX11_lists 12 = .ok (.aload_n 0, 1) := chk_nth ocX11_lists_0 (k := 6) rfl
theorem dX11_lists_13 : decode cX11_lists 13 = .ok (.getfield 12, 3) := chk_nth ocX11_lists_0 (k := 7) rfl
theorem dX11_lists_16 : decode cX11_lists 16 = .ok (.iload_n 2, 1) := chk_nth ocX11_lists_0 (k := 8) rfl
theorem dX11_lists_17 : decode cX11_lists 17 = .ok (.invokevirtual 148, 3) := chk_nth ocX11_lists_0 (k := 9) rfl
theorem dX11_lists_20 : decode cX11_lists 20 = .ok (.ifCond .eq 14, 3) := chk_nth ocX11_lists_0 (k := 10) rfl
theorem dX11_lists_23 : decode cX11_lists 23 = .ok (.aload_n 0, 1) := chk_nth ocX11_lists_0 (k := 11) rfl
theorem dX11_lists_24 : decode cX11_lists 24 = .ok (.getfield 12, 3) := chk_nth ocX11_lists_0 (k := 12) rfl
theorem dX11_lists_27 : decode cX11_lists 27 = .ok (.iload_n 3, 1) := chk_nth ocX11_lists_0 (k := 13) rfl
theorem dX11_lists_28 : decode cX11_lists 28 = .ok (.invokevirtual 253, 3) := chk_nth ocX11_lists_0 (k := 14) rfl
theorem dX11_lists_31 : decode cX11_lists 31 = .ok (.ifCond .ne 6, 3) := chk_nth ocX11_lists_0 (k := 15) rfl
theorem dX11_lists_34 : decode cX11_lists 34 = .ok (.bipush (-2), 2) := chk_nth ocX11_lists_0 (k := 16) rfl
theorem dX11_lists_36 : decode cX11_lists 36 = .ok (.ireturn, 1) := chk_nth ocX11_lists_0 (k := 17) rfl
theorem dX11_lists_37 : decode cX11_lists 37 = .ok (.aload 5, 2) := chk_nth ocX11_lists_0 (k := 18) rfl
theorem dX11_lists_39 : decode cX11_lists 39 = .ok (.invokevirtual 208, 3) := chk_nth ocX11_lists_0 (k := 19) rfl
theorem dX11_lists_42 : decode cX11_lists 42 = .ok (.ifCond .eq 6, 3) := chk_nth ocX11_lists_0 (k := 20) rfl
theorem dX11_lists_45 : decode cX11_lists 45 = .ok (.bipush (-6), 2) := chk_nth ocX11_lists_0 (k := 21) rfl
theorem dX11_lists_47 : decode cX11_lists 47 = .ok (.ireturn, 1) := chk_nth ocX11_lists_0 (k := 22) rfl
theorem dX11_lists_48 : decode cX11_lists 48 = .ok (.aload_n 0, 1) := chk_nth ocX11_lists_0 (k := 23) rfl
def tcX11_lists_1 : List (Instr × Nat) := [(.iload_n 2, 1), (.iload_n 3, 1), (.iload 4, 2), (.invokevirtual 229, 3), (.istore 6, 2), (.iload 6, 2), (.ifCond .eq 6, 3), (.iload 6, 2), (.ireturn, 1), (.aload_n 0, 1), (.iload_n 2, 1), (.iload_n 3, 1), (.iload 4, 2), (.aload_n 0, 1), (.getfield 20, 3), (.invokevirtual 233, 3), (.istore 7, 2), (.iload 7, 2), (.iconst (-1), 1), (.if_icmp .ne 6, 3), (.bipush (-5), 2), (.ireturn, 1), (.aload_n 0, 1), (.getfield 62, 3)]
theorem ocX11_lists_1 : chk (cX11_lists.data.toList.drop 49) tcX11_lists_1 = true := by decide +kernel
theorem dX11_lists_49 : decode cX11_lists 49 = .ok (.iload_n 2, 1) := chk_nth ocX11_lists_1 (k := 0) rfl
theorem dX11_lists_50 : decode cX11_lists 50 = .ok (.iload_n 3, 1) := chk_nth ocX11_lists_1 (k := 1) rfl
theorem dX11_lists_51 : decode cX11_lists 51 = .ok (.iload 4, 2) := chk_nth ocX11_lists_1 (k := 2) rfl
theorem dX11_lists_53 : decode cX11_lists 53 = .ok (.invokevirtual 229, 3) := chk_nth ocX11_lists_1 (k := 3) rfl
theorem dX11_lists_56 : decode cX11_lists 56 = .ok (.istore 6, 2) := chk_nth ocX11_lists_1 (k := 4) rfl
theorem dX11_lists_58 : decode cX11_lists 58 = .ok (.iload 6, 2) := chk_nth ocX11_lists_1 (k := 5) rfl
theorem dX11_lists_60 : decode cX11_lists 60 = .ok (.ifCond .eq 6, 3) := chk_nth ocX11_lists_1 (k := 6) rfl
theorem dX11_lists_63 : decode cX11_lists 63 = .ok (.iload 6, 2) := chk_nth ocX11_lists_1 (k := 7) rfl
theorem dX11_lists_65 : decode cX11_lists 65 = .ok (.ireturn, 1) := chk_nth ocX11_lists_1 (k := 8) rfl
theorem dX11_lists_66 : decode cX11_lists 66 = .ok (.aload_n 0, 1) := chk_nth ocX11_lists_1 (k := 9) rfl
theorem dX11_lists_67 : decode cX11_lists 67 = .ok (.iload_n 2, 1) := chk_nth ocX11_lists_1 (k := 10) rfl
theorem dX11_lists_68 : decode cX11_lists 68 = .ok (.iload_n 3, 1) := chk_nth ocX11_lists_1 (k := 11) rfl
theorem dX11_lists_69 : decode cX11_lists 69 = .ok (.iload 4, 2) := chk_nth ocX11_lists_1 (k := 12) rfl
theorem dX11_lists_71 : decode cX11_lists 71 = .ok (.aload_n 0, 1) := chk_nth ocX11_lists_1 (k := 13) rfl
theorem dX11_lists_72 : decode cX11_lists 72 = .ok (.getfield 20, 3) := chk_nth ocX11_lists_1 (k := 14) rfl
theorem dX11_lists_75 : decode cX11_lists 75 = .ok (.invokevirtual 233, 3) := chk_nth ocX11_lists_1 (k := 15) rfl
theorem dX11_lists_78 : decode cX11_lists 78 = .ok (.istore 7, 2) := chk_nth ocX11_lists_1 (k := 16) rfl
theorem dX11_lists_80 : decode cX11_lists 80 = .ok (.iload 7, 2) := chk_nth ocX11_lists_1 (k := 17) rfl
theorem dX11_lists_82 : decode cX11_lists 82 = .ok (.iconst (-1), 1) := chk_nth ocX11_lists_1 (k := 18) rfl
theorem dX11_lists_83 : decode cX11_lists 83 = .ok (.if_icmp .ne 6, 3) := chk_nth ocX11_lists_1 (k := 19) rfl
theorem dX11_lists_86 : decode cX11_lists 86 = .ok (.bipush (-5), 2) := chk_nth ocX11_lists_1 (k := 20) rfl
theorem dX11_lists_88 : decode cX11_lists 88 = .ok (.ireturn, 1) := chk_nth ocX11_lists_1 (k := 21) rfl
theorem dX11_lists_89 : decode cX11_lists 89 = .ok (.aload_n 0, 1) := chk_nth ocX11_lists_1 (k := 22) rfl
theorem dX11_lists_90 : decode cX11_lists 90 = .ok (.getfield 62, 3) := chk_nth ocX11_lists_1 (k := 23) rfl
def tcX11_lists_2 : List (Instr × Nat) := [(.iload 7, 2), (.invokevirtual 236, 3), (.aload 5, 2), (.getfield 337, 3), (.invokestatic 266, 3), (.istore 8, 2), (.iconst 0, 1), (.istore 9, 2), (.iload 9, 2), (.iload 8, 2), (.if_icmp .ge 28, 3), (.aload 5, 2), (.iload 9, 2), (.aload_n 0, 1), (.getfield 62, 3), (.iload 7, 2), (.iload 9, 2), (.invokevirtual 239, 3), (.i2l, 1), (.invokevirtual 389, 3), (.iinc 9 1, 3), (.goto (-29), 3), (.iload 8, 2), (.ireturn, 1)]
theorem ocX11_lists_2 : chk (cX11_lists.data.toList.drop 93) tcX11_lists_2 = true := by decide +kernel
theorem dX11_lists_93 : decode cX11_lists 93 = .ok (.iload 7, 2) := chk_nth ocX11_lists_2 (k := 0) rfl
theorem dX11_lists_95 : decode cX11_lists 95 = .ok (.invokevirtual 236, 3) := chk_nth ocX11_lists_2 (k := 1) rfl
theorem dX11_lists_98 : decode cX11_lists 98 = .ok (.aload 5, 2) := chk_nth ocX11_lists_2 (k := 2) rfl
theorem dX11_lists_100 : decode cX11_lists 100 = .ok (.getfield 337, 3) := chk_nth ocX11_lists_2 (k := 3) rfl
theorem dX11_lists_103 : decode cX11_lists 103 = .ok (.invokestatic 266, 3) := chk_nth ocX11_lists_2 (k := 4) rfl
theorem dX11_lists_106 : decode cX11_lists 106 = .ok (.istore 8, 2) := chk_nth ocX11_lists_2 (k := 5) rfl
theorem dX11_lists_108 : decode cX11_lists 108 = .ok (.iconst 0, 1) := chk_nth ocX11_lists_2 (k := 6) rfl
theorem dX11_lists_109 : decode cX11_lists 109 = .ok (.istore 9, 2) := chk_nth ocX11_lists_2 (k := 7) rfl
theorem dX11_lists_111 : decode cX11_lists 111 = .ok (.iload 9, 2) := chk_nth ocX11_lists_2 (k := 8) rfl
theorem dX11_lists_113 : decode cX11_lists 113 = .ok (.iload 8, 2) := chk_nth ocX11_lists_2 (k := 9) rfl
theorem dX11_lists_115 : decode cX11_lists 115 = .ok (.if_icmp .ge 28, 3) := chk_nth ocX11_lists_2 (k := 10) rfl
theorem dX11_lists_118 : decode cX11_lists 118 = .ok (.aload 5, 2) := chk_nth ocX11_lists_2 (k := 11) rfl
theorem dX11_lists_120 : decode cX11_lists 120 = .ok (.iload 9, 2) := chk_nth ocX11_lists_2 (k := 12) rfl
theorem dX11_lists_122 : decode cX11_lists 122 = .ok (.aload_n 0, 1) := chk_nth ocX11_lists_2 (k := 13) rfl
theorem dX11_lists_123 : decode cX11_lists 123 = .ok (.getfield 62, 3) := chk_nth ocX11_lists_2 (k := 14) rfl
theorem dX11_lists_126 : decode cX11_lists 126 = .ok (.iload 7, 2) := chk_nth ocX11_lists_2 (k := 15) rfl
theorem dX11_lists_128 : decode cX11_lists 128 = .ok (.iload 9, 2) := chk_nth ocX11_lists_2 (k := 16) rfl
theorem dX11_lists_130 : decode cX11_lists 130 = .ok (.invokevirtual 239, 3) := chk_nth ocX11_lists_2 (k := 17) rfl
theorem dX11_lists_133 : decode cX11_lists 133 = .ok (.i2l, 1) := chk_nth ocX11_lists_2 (k := 18) rfl
theorem dX11_lists_134 : decode cX11_lists 134 = .ok (.invokevirtual 389, 3) := chk_nth ocX11_lists_2 (k := 19) rfl
theorem dX11_lists_137 : decode cX11_lists 137 = .ok (.iinc 9 1, 3) := chk_nth ocX11_lists_2 (k := 20) rfl
theorem dX11_lists_140 : decode cX11_lists 140 = .ok (.goto (-29), 3) := chk_nth ocX11_lists_2 (k := 21) rfl
theorem dX11_lists_143 : decode cX11_lists 143 = .ok (.iload 8, 2) := chk_nth ocX11_lists_2 (k := 22) rfl
theorem dX11_lists_145 : decode cX11_lists 145 = .ok (.ireturn, 1) := chk_nth ocX11_lists_2 (k := 23) rfl
def tcX11_image_0 : List (Instr × Nat) := [(.aload_n 0, 1), (.iload_n 1, 1), (.invokevirtual 393, 3), (.astore_n 2, 1), (.aload_n 2, 1), (.ifnonnull 6, 3), (.bipush (-2), 2), (.ireturn, 1), (.aload_n 2, 1), (.aload_n 0, 1), (.getfield 12, 3), (.invokevirtual 397, 3), (.aload_n 0, 1), (.dup, 1), (.getfield 399, 3), (.iconst 1, 1), (.iload_n 1, 1), (.ishl, 1), (.ior, 1), (.putfield 399, 3), (.iconst 0, 1), (.ireturn, 1)]
theorem ocX11_image_0 : chk (cX11_image.data.toList.drop 0) tcX11_image_0 = true := by decide +kernel
theorem dX11_image_0 : decode cX11_image 0 = .ok (.aload_n 0, 1) := chk_nth ocX11_image_0 (k := 0) rfl
theorem dX11_image_1 : decode cX11_image 1 = .ok (.iload_n 1, 1) := chk_nth ocX11_image_0 (k := 1) rfl
theorem dX11_image_2 : decode cX11_image 2 = .ok (.invokevirtual 393, 3) := chk_nth ocX11_image_0 (k := 2) rfl
theorem dX11_image_5 : decode cX11_image 5 = .ok (.astore_n 2, 1) := chk_nth ocX11_image_0 (k := 3) rfl
theorem dX11_image_6 : decode cX11_image 6 = .ok (.aload_n 2, 1) := chk_nth ocX11_image_0 (k := 4) rfl
theorem dX11_image_7 : decode cX11_image 7 = .ok (.ifnonnull 6, 3) := chk_nth ocX11_image_0 (k := 5) rfl
theorem dX11_image_10 : decode cX11_image 10 = .ok (.bipush (-2), 2) := chk_nth ocX11_image_0 (k := 6) rfl
theorem dX11_image_12 : decode cX11_image 12 = .ok (.ireturn, 1) := chk_nth ocX11_image_0 (k := 7) rfl
theorem dX11_image_13 : decode cX11_image 13 = .ok (.aload_n 2, 1) := chk_nth ocX11_image_0 (k := 8) rfl
theorem dX11_image_14 : decode cX11_image 14 = .ok (.aload_n 0, 1) := chk_nth ocX11_image_0 (k := 9) rfl
theorem dX11_image_15 : decode cX11_image 15 = .ok (.getfield 12, 3) := chk_nth ocX11_image_0 (k := 10) rfl
theorem dX11_image_18 : decode cX11_image 18 = .ok (.invokevirtual 397, 3) := chk_nth ocX11_image_0 (k := 11) rfl
theorem dX11_image_21 : decode cX11_image 21 = .ok (.aload_n 0, 1) := chk_nth ocX11_image_0 (k := 12) rfl
theorem dX11_image_22 : decode cX11_image 22 = .ok (.dup, 1) := chk_nth ocX11_image_0 (k := 13) rfl
theorem dX11_image_23 : decode cX11_image 23 = .ok (.getfield 399, 3) := chk_nth ocX11_image_0 (k := 14) rfl
theorem dX11_image_26 : decode cX11_image 26 = .ok (.iconst 1, 1) := chk_nth ocX11_image_0 (k := 15) rfl
theorem dX11_image_27 : decode cX11_image 27 = .ok (.iload_n 1, 1) := chk_nth ocX11_image_0 (k := 16) rfl
theorem dX11_image_28 : decode cX11_image 28 = .ok (.ishl, 1) := chk_nth ocX11_image_0 (k := 17) rfl
theorem dX11_image_29 : decode cX11_image 29 = .ok (.ior, 1) := chk_nth ocX11_image_0 (k := 18) rfl
theorem dX11_image_30 : decode cX11_image 30 = .ok (.putfield 399, 3) := chk_nth ocX11_image_0 (k := 19) rfl
theorem dX11_image_33 : decode cX11_image 33 = .ok (.iconst 0, 1) := chk_nth ocX11_image_0 (k := 20) rfl
theorem dX11_image_34 : decode cX11_image 34 = .ok (.ireturn, 1) := chk_nth ocX11_image_0 (k := 21) rfl
def tcX11_restore_0 : List (Instr × Nat) := [(.aload_n 0, 1), (.iload_n 1, 1), (.invokevirtual 393, 3), (.astore_n 2, 1), (.aload_n 2, 1), (.ifnonnull 6, 3), (.bipush (-2), 2), (.ireturn, 1), (.aload_n 0, 1), (.getfield 399, 3), (.iload_n 1, 1), (.ishr, 1), (.iconst 1, 1), (.iand, 1), (.ifCond .ne 6, 3), (.bipush (-5), 2), (.ireturn, 1), (.aload_n 0, 1), (.aload_n 2, 1), (.invokevirtual 122, 3), (.iconst 0, 1), (.ireturn, 1)]
theorem ocX11_restore_0 : chk (cX11_restore.data.toList.drop 0) tcX11_restore_0 = true := by decide +kernel
theorem dX11_restore_0 : decode cX11_restore 0 = .ok (.aload_n 0, 1) := chk_nth ocX11_restore_0 (k := 0) rfl
theorem dX11_restore_1 : decode cX11_restore 1 = .ok (.iload_n 1, 1) := chk_nth ocX11_restore_0 (k := 1) rfl
theorem dX11_restore_2 : decode cX11_restore 2 = .ok (.invokevirtual 393, 3) := chk_nth ocX11_restore_0 (k := 2) rfl
theorem dX11_restore_5 : decode cX11_restore 5 = .ok (.astore_n 2, 1) := chk_nth ocX11_restore_0 (k := 3) rfl
theorem dX11_restore_6 : decode cX11_restore 6 = .ok (.aload_n 2, 1) := chk_nth ocX11_restore_0 (k := 4) rfl
theorem dX11_restore_7 : decode cX11_restore 7 = .ok (.ifnonnull 6, 3) := chk_nth ocX11_restore_0 (k := 5) rfl
theorem dX11_restore_10 : decode cX11_restore 10 = .ok (.bipush (-2), 2) := chk_nth ocX11_restore_0 (k := 6) rfl
theorem dX11_restore_12 : decode cX11_restore 12 = .ok (.ireturn, 1) := chk_nth ocX11_restore_0 (k := 7) rfl
theorem dX11_restore_13 : decode cX11_restore 13 = .ok (.aload_n 0, 1) := chk_nth ocX11_restore_0 (k := 8) rfl
theorem dX11_restore_14 : decode cX11_restore 14 = .ok (.getfield 399, 3) := chk_nth ocX11_restore_0 (k := 9) rfl
theorem dX11_restore_17 : decode cX11_restore 17 = .ok (.iload_n 1, 1) := chk_nth ocX11_restore_0 (k := 10) rfl
theorem dX11_restore_18 : decode cX11_restore 18 = .ok (.ishr, 1) := chk_nth ocX11_restore_0 (k := 11) rfl
theorem dX11_restore_19 : decode cX11_restore 19 = .ok (.iconst 1, 1) := chk_nth ocX11_restore_0 (k := 12) rfl
theorem dX11_restore_20 : decode cX11_restore 20 = .ok (.iand, 1) := chk_nth ocX11_restore_0 (k := 13) rfl
theorem dX11_restore_21 : decode cX11_restore 21 = .ok (.ifCond .ne 6, 3) := chk_nth ocX11_restore_0 (k := 14) rfl
theorem dX11_restore_24 : decode cX11_restore 24 = .ok (.bipush (-5), 2) := chk_nth ocX11_restore_0 (k := 15) rfl
theorem dX11_restore_26 : decode cX11_restore 26 = .ok (.ireturn, 1) := chk_nth ocX11_restore_0 (k := 16) rfl
theorem dX11_restore_27 : decode cX11_restore 27 = .ok (.aload_n 0, 1) := chk_nth ocX11_restore_0 (k := 17) rfl
theorem dX11_restore_28 : decode cX11_restore 28 = .ok (.aload_n 2, 1) := chk_nth ocX11_restore_0 (k := 18) rfl
theorem dX11_restore_29 : decode cX11_restore 29 = .ok (.invokevirtual 122, 3) := chk_nth ocX11_restore_0 (k := 19) rfl
theorem dX11_restore_32 : decode cX11_restore 32 = .ok (.iconst 0, 1) := chk_nth ocX11_restore_0 (k := 20) rfl
theorem dX11_restore_33 : decode cX11_restore 33 = .ok (.ireturn, 1) := chk_nth ocX11_restore_0 (k := 21) rfl
def tcX11_count_0 : List (Instr × Nat) := [(.iload_n 1, 1)]
theorem ocX11_count_0 : chk (cX11_count.data.toList.drop 0) tcX11_count_0 = true := by decide +kernel
theorem dX11_count_0 : decode cX11_count 0 = .ok (.iload_n 1, 1) := chk_nth ocX11_count_0 (k := 0) rfl
theorem dX11_count_1 : decode cX11_count 1 = .ok (.tableswitch 131 0 8 #[51, 59, 67, 75, 83, 98, 107, 115, 123], 51) := by decide +kernel
def tcX11_count_1 : List (Instr × Nat) := [(.aload_n 0, 1), (.getfield 12, 3), (.getfield 324, 3), (.ireturn, 1), (.aload_n 0, 1), (.getfield 12, 3), (.getfield 160, 3), (.ireturn, 1), (.aload_n 0, 1), (.getfield 12, 3), (.getfield 402, 3), (.ireturn, 1), (.aload_n 0, 1), (.getfield 20, 3), (.getfield 188, 3), (.ireturn, 1), (.aload_n 0, 1), (.getfield 20, 3), (.aload_n 0, 1), (.getfield 12, 3), (.getfield 160, 3), (.invokevirtual 291, 3), (.ireturn, 1), (.aload_n 0, 1)]
theorem ocX11_count_1 : chk (cX11_count.data.toList.drop 52) tcX11_count_1 = true := by decide +kernel
theorem dX11_count_52 : decode cX11_count 52 = .ok (.aload_n 0, 1) := chk_nth ocX11_count_1 (k := 0) rfl
theorem dX11_count_53 : decode cX11_count 53 = .ok (.getfield 12, 3) := chk_nth ocX11_count_1 (k := 1) rfl
theorem dX11_count_56 : decode cX11_count 56 = .ok (.getfield 324, 3) := chk_nth ocX11_count_1 (k := 2) rfl
theorem dX11_count_59 : decode cX11_count 59 = .ok (.ireturn, 1) := chk_nth ocX11_count_1 (k := 3) rfl
theorem dX11_count_60 : decode cX11_count 60 = .ok (.aload_n 0, 1) := chk_nth ocX11_count_1 (k := 4) rfl
theorem dX11_count_61 : decode cX11_count 61 = .ok (.getfield 12, 3) := chk_nth ocX11_count_1 (k := 5) rfl
theorem dX11_count_64 : decode cX11_count 64 = .ok (.getfield 160, 3) := chk_nth ocX11_count_1 (k := 6) rfl
theorem dX11_count_67 : decode cX11_count 67 = .ok (.ireturn, 1) := chk_nth ocX11_count_1 (k := 7) rfl
theorem dX11_count_68 : decode cX11_count 68 = .ok (.aload_n 0, 1) := chk_nth ocX11_count_1 (k := 8) rfl
theorem dX11_count_69 : decode cX11_count 69 = .ok (.getfield 12, 3) := chk_nth ocX11_count_1 (k := 9) rfl
theorem dX11_count_72 : decode cX11_count 72 = .ok (.getfield 402, 3) := chk_nth ocX11_count_1 (k := 10) rfl
theorem dX11_count_75 : decode cX11_count 75 = .ok (.ireturn, 1) := chk_nth ocX11_count_1 (k := 11) rfl
theorem dX11_count_76 : decode cX11_count 76 = .ok (.aload_n 0, 1) := chk_nth ocX11_count_1 (k := 12) rfl
theorem dX11_count_77 : decode cX11_count 77 = .ok (.getfield 20, 3) := chk_nth ocX11_count_1 (k := 13) rfl
theorem dX11_count_80 : decode cX11_count 80 = .ok (.getfield 188, 3) := chk_nth ocX11_count_1 (k := 14) rfl
theorem dX11_count_83 : decode cX11_count 83 = .ok (.ireturn, 1) := chk_nth ocX11_count_1 (k := 15) rfl
theorem dX11_count_84 : decode cX11_count 84 = .ok (.aload_n 0, 1) := chk_nth ocX11_count_1 (k := 16) rfl
theorem dX11_count_85 : decode cX11_count 85 = .ok (.getfield 20, 3) := chk_nth ocX11_count_1 (k := 17) rfl
theorem dX11_count_88 : decode cX11_count 88 = .ok (.aload_n 0, 1) := chk_nth ocX11_count_1 (k := 18) rfl
theorem dX11_count_89 : decode cX11_count 89 = .ok (.getfield 12, 3) := chk_nth ocX11_count_1 (k := 19) rfl
theorem dX11_count_92 : decode cX11_count 92 = .ok (.getfield 160, 3) := chk_nth ocX11_count_1 (k := 20) rfl
theorem dX11_count_95 : decode cX11_count 95 = .ok (.invokevirtual 291, 3) := chk_nth ocX11_count_1 (k := 21) rfl
theorem dX11_count_98 : decode cX11_count 98 = .ok (.ireturn, 1) := chk_nth ocX11_count_1 (k := 22) rfl
theorem dX11_count_99 : decode cX11_count 99 = .ok (.aload_n 0, 1) := chk_nth ocX11_count_1 (k := 23) rfl
def tcX11_count_2 : List (Instr × Nat) := [(.aload_n 0, 1), (.getfield 20, 3), (.invokevirtual 219, 3), (.ireturn, 1), (.aload_n 0, 1), (.getfield 86, 3), (.getfield 197, 3), (.ireturn, 1), (.aload_n 0, 1), (.getfield 35, 3), (.getfield 105, 3), (.ireturn, 1), (.aload_n 0, 1), (.getfield 12, 3), (.getfield 125, 3), (.ireturn, 1), (.iconst (-1), 1), (.ireturn, 1)]
theorem ocX11_count_2 : chk (cX11_count.data.toList.drop 100) tcX11_count_2 = true := by decide +kernel
theorem dX11_count_100 : decode cX11_count 100 = .ok (.aload_n 0, 1) := chk_nth ocX11_count_2 (k := 0) rfl
theorem dX11_count_101 : decode cX11_count 101 = .ok (.getfield 20, 3) := chk_nth ocX11_count_2 (k := 1) rfl
theorem dX11_count_104 : decode cX11_count 104 = .ok (.invokevirtual 219, 3) := chk_nth ocX11_count_2 (k := 2) rfl
theorem dX11_count_107 : decode cX11_count 107 = .ok (.ireturn, 1) := chk_nth ocX11_count_2 (k := 3) rfl
theorem dX11_count_108 : decode cX11_count 108 = .ok (.aload_n 0, 1) := chk_nth ocX11_count_2 (k := 4) rfl
theorem dX11_count_109 : decode cX11_count 109 = .ok (.getfield 86, 3) := chk_nth ocX11_count_2 (k := 5) rfl
theorem dX11_count_112 : decode cX11_count 112 = .ok (.getfield 197, 3) := chk_nth ocX11_count_2 (k := 6) rfl
theorem dX11_count_115 : decode cX11_count 115 = .ok (.ireturn, 1) := chk_nth ocX11_count_2 (k := 7) rfl
theorem dX11_count_116 : decode cX11_count 116 = .ok (.aload_n 0, 1) := chk_nth ocX11_count_2 (k := 8) rfl
theorem dX11_count_117 : decode cX11_count 117 = .ok (.getfield 35, 3) := chk_nth ocX11_count_2 (k := 9) rfl
theorem dX11_count_120 : decode cX11_count 120 = .ok (.getfield 105, 3) := chk_nth ocX11_count_2 (k := 10) rfl
theorem dX11_count_123 : decode cX11_count 123 = .ok (.ireturn, 1) := chk_nth ocX11_count_2 (k := 11) rfl
theorem dX11_count_124 : decode cX11_count 124 = .ok (.aload_n 0, 1) := chk_nth ocX11_count_2 (k := 12) rfl
theorem dX11_count_125 : decode cX11_count 125 = .ok (.getfield 12, 3) := chk_nth ocX11_count_2 (k := 13) rfl
theorem dX11_count_128 : decode cX11_count 128 = .ok (.getfield 125, 3) := chk_nth ocX11_count_2 (k := 14) rfl
theorem dX11_count_131 : decode cX11_count 131 = .ok (.ireturn, 1) := chk_nth ocX11_count_2 (k := 15) rfl
theorem dX11_count_132 : decode cX11_count 132 = .ok (.iconst (-1), 1) := chk_nth ocX11_count_2 (k := 16) rfl
theorem dX11_count_133 : decode cX11_count 133 = .ok (.ireturn, 1) := chk_nth ocX11_count_2 (k := 17) rfl
def tcX11_becomes_0 : List (Instr × Nat) := [(.aload_n 0, 1), (.getfield 12, 3), (.aload_n 1, 1), (.invokevirtual 397, 3), (.aload_n 0, 1), (.getfield 86, 3), (.iconst 0, 1), (.putfield 197, 3), (.aload_n 0, 1), (.getfield 44, 3), (.invokevirtual 405, 3), (.return_, 1)]
theorem ocX11_becomes_0 : chk (cX11_becomes.data.toList.drop 0) tcX11_becomes_0 = true := by decide +kernel
theorem dX11_becomes_0 : decode cX11_becomes 0 = .ok (.aload_n 0, 1) := chk_nth ocX11_becomes_0 (k := 0) rfl
theorem dX11_becomes_1 : decode cX11_becomes 1 = .ok (.getfield 12, 3) := chk_nth ocX11_becomes_0 (k := 1) rfl
theorem dX11_becomes_4 : decode cX11_becomes 4 = .ok (.aload_n 1, 1) := chk_nth ocX11_becomes_0 (k := 2) rfl
theorem dX11_becomes_5 : decode cX11_becomes 5 = .ok (.invokevirtual 397, 3) := chk_nth ocX11_becomes_0 (k := 3) rfl
theorem dX11_becomes_8 : decode cX11_becomes 8 = .ok (.aload_n 0, 1) := chk_nth ocX11_becomes_0 (k := 4) rfl
theorem dX11_becomes_9 : decode cX11_becomes 9 = .ok (.getfield 86, 3) := chk_nth ocX11_becomes_0 (k := 5) rfl
theorem dX11_becomes_12 : decode cX11_becomes 12 = .ok (.iconst 0, 1) := chk_nth ocX11_becomes_0 (k := 6) rfl
theorem dX11_becomes_13 : decode cX11_becomes 13 = .ok (.putfield 197, 3) := chk_nth ocX11_becomes_0 (k := 7) rfl
theorem dX11_becomes_16 : decode cX11_becomes 16 = .ok (.aload_n 0, 1) := chk_nth ocX11_becomes_0 (k := 8) rfl
theorem dX11_becomes_17 : decode cX11_becomes 17 = .ok (.getfield 44, 3) := chk_nth ocX11_becomes_0 (k := 9) rfl
theorem dX11_becomes_20 : decode cX11_becomes 20 = .ok (.invokevirtual 405, 3) := chk_nth ocX11_becomes_0 (k := 10) rfl
theorem dX11_becomes_23 : decode cX11_becomes 23 = .ok (.return_, 1) := chk_nth ocX11_becomes_0 (k := 11) rfl
def tcX11_trayAt_0 : List (Instr × Nat) := [(.iload_n 1, 1), (.ifCond .lt 21, 3), (.iload_n 1, 1), (.aload_n 0, 1), (.getfield 92, 3), (.arraylength, 1), (.if_icmp .ge 12, 3), (.aload_n 0, 1), (.getfield 92, 3), (.iload_n 1, 1), (.aaload, 1), (.goto 4, 3), (.aconst_null, 1), (.areturn, 1)]
theorem ocX11_trayAt_0 : chk (cX11_trayAt.data.toList.drop 0) tcX11_trayAt_0 = true := by decide +kernel
theorem dX11_trayAt_0 : decode cX11_trayAt 0 = .ok (.iload_n 1, 1) := chk_nth ocX11_trayAt_0 (k := 0) rfl
theorem dX11_trayAt_1 : decode cX11_trayAt 1 = .ok (.ifCond .lt 21, 3) := chk_nth ocX11_trayAt_0 (k := 1) rfl
theorem dX11_trayAt_4 : decode cX11_trayAt 4 = .ok (.iload_n 1, 1) := chk_nth ocX11_trayAt_0 (k := 2) rfl
theorem dX11_trayAt_5 : decode cX11_trayAt 5 = .ok (.aload_n 0, 1) := chk_nth ocX11_trayAt_0 (k := 3) rfl
theorem dX11_trayAt_6 : decode cX11_trayAt 6 = .ok (.getfield 92, 3) := chk_nth ocX11_trayAt_0 (k := 4) rfl
theorem dX11_trayAt_9 : decode cX11_trayAt 9 = .ok (.arraylength, 1) := chk_nth ocX11_trayAt_0 (k := 5) rfl
theorem dX11_trayAt_10 : decode cX11_trayAt 10 = .ok (.if_icmp .ge 12, 3) := chk_nth ocX11_trayAt_0 (k := 6) rfl
theorem dX11_trayAt_13 : decode cX11_trayAt 13 = .ok (.aload_n 0, 1) := chk_nth ocX11_trayAt_0 (k := 7) rfl
theorem dX11_trayAt_14 : decode cX11_trayAt 14 = .ok (.getfield 92, 3) := chk_nth ocX11_trayAt_0 (k := 8) rfl
theorem dX11_trayAt_17 : decode cX11_trayAt 17 = .ok (.iload_n 1, 1) := chk_nth ocX11_trayAt_0 (k := 9) rfl
theorem dX11_trayAt_18 : decode cX11_trayAt 18 = .ok (.aaload, 1) := chk_nth ocX11_trayAt_0 (k := 10) rfl
theorem dX11_trayAt_19 : decode cX11_trayAt 19 = .ok (.goto 4, 3) := chk_nth ocX11_trayAt_0 (k := 11) rfl
theorem dX11_trayAt_22 : decode cX11_trayAt 22 = .ok (.aconst_null, 1) := chk_nth ocX11_trayAt_0 (k := 12) rfl
theorem dX11_trayAt_23 : decode cX11_trayAt 23 = .ok (.areturn, 1) := chk_nth ocX11_trayAt_0 (k := 13) rfl
def tcX11_imageAt_0 : List (Instr × Nat) := [(.iload_n 1, 1), (.ifCond .lt 21, 3), (.iload_n 1, 1), (.aload_n 0, 1), (.getfield 96, 3), (.arraylength, 1), (.if_icmp .ge 12, 3), (.aload_n 0, 1), (.getfield 96, 3), (.iload_n 1, 1), (.aaload, 1), (.goto 4, 3), (.aconst_null, 1), (.areturn, 1)]
theorem ocX11_imageAt_0 : chk (cX11_imageAt.data.toList.drop 0) tcX11_imageAt_0 = true := by decide +kernel
theorem dX11_imageAt_0 : decode cX11_imageAt 0 = .ok (.iload_n 1, 1) := chk_nth ocX11_imageAt_0 (k := 0) rfl
theorem dX11_imageAt_1 : decode cX11_imageAt 1 = .ok (.ifCond .lt 21, 3) := chk_nth ocX11_imageAt_0 (k := 1) rfl
theorem dX11_imageAt_4 : decode cX11_imageAt 4 = .ok (.iload_n 1, 1) := chk_nth ocX11_imageAt_0 (k := 2) rfl
theorem dX11_imageAt_5 : decode cX11_imageAt 5 = .ok (.aload_n 0, 1) := chk_nth ocX11_imageAt_0 (k := 3) rfl
theorem dX11_imageAt_6 : decode cX11_imageAt 6 = .ok (.getfield 96, 3) := chk_nth ocX11_imageAt_0 (k := 4) rfl
theorem dX11_imageAt_9 : decode cX11_imageAt 9 = .ok (.arraylength, 1) := chk_nth ocX11_imageAt_0 (k := 5) rfl
theorem dX11_imageAt_10 : decode cX11_imageAt 10 = .ok (.if_icmp .ge 12, 3) := chk_nth ocX11_imageAt_0 (k := 6) rfl
theorem dX11_imageAt_13 : decode cX11_imageAt 13 = .ok (.aload_n 0, 1) := chk_nth ocX11_imageAt_0 (k := 7) rfl
theorem dX11_imageAt_14 : decode cX11_imageAt 14 = .ok (.getfield 96, 3) := chk_nth ocX11_imageAt_0 (k := 8) rfl
theorem dX11_imageAt_17 : decode cX11_imageAt 17 = .ok (.iload_n 1, 1) := chk_nth ocX11_imageAt_0 (k := 9) rfl
theorem dX11_imageAt_18 : decode cX11_imageAt 18 = .ok (.aaload, 1) := chk_nth ocX11_imageAt_0 (k := 10) rfl
theorem dX11_imageAt_19 : decode cX11_imageAt 19 = .ok (.goto 4, 3) := chk_nth ocX11_imageAt_0 (k := 11) rfl
theorem dX11_imageAt_22 : decode cX11_imageAt 22 = .ok (.aconst_null, 1) := chk_nth ocX11_imageAt_0 (k := 12) rfl
theorem dX11_imageAt_23 : decode cX11_imageAt 23 = .ok (.areturn, 1) := chk_nth ocX11_imageAt_0 (k := 13) rfl
def tcX11_isYear_0 : List (Instr × Nat) := [(.iload_n 0, 1), (.ifCond .lt 13, 3), (.iload_n 0, 1), (.bipush 20, 2), (.if_icmp .ge 7, 3), (.iconst 1, 1), (.goto 4, 3), (.iconst 0, 1), (.ireturn, 1)]
theorem ocX11_isYear_0 : chk (cX11_isYear.data.toList.drop 0) tcX11_isYear_0 = true := by decide +kernel
theorem dX11_isYear_0 : decode cX11_isYear 0 = .ok (.iload_n 0, 1) := chk_nth ocX11_isYear_0 (k := 0) rfl
theorem dX11_isYear_1 : decode cX11_isYear 1 = .ok (.ifCond .lt 13, 3) := chk_nth ocX11_isYear_0 (k := 1) rfl
theorem dX11_isYear_4 : decode cX11_isYear 4 = .ok (.iload_n 0, 1) := chk_nth ocX11_isYear_0 (k := 2) rfl
theorem dX11_isYear_5 : decode cX11_isYear 5 = .ok (.bipush 20, 2) := chk_nth ocX11_isYear_0 (k := 3) rfl
theorem dX11_isYear_7 : decode cX11_isYear 7 = .ok (.if_icmp .ge 7, 3) := chk_nth ocX11_isYear_0 (k := 4) rfl
theorem dX11_isYear_10 : decode cX11_isYear 10 = .ok (.iconst 1, 1) := chk_nth ocX11_isYear_0 (k := 5) rfl
theorem dX11_isYear_11 : decode cX11_isYear 11 = .ok (.goto 4, 3) := chk_nth ocX11_isYear_0 (k := 6) rfl
theorem dX11_isYear_14 : decode cX11_isYear 14 = .ok (.iconst 0, 1) := chk_nth ocX11_isYear_0 (k := 7) rfl
theorem dX11_isYear_15 : decode cX11_isYear 15 = .ok (.ireturn, 1) := chk_nth ocX11_isYear_0 (k := 8) rfl
def tcX11_isSpot_0 : List (Instr × Nat) := [(.iload_n 0, 1), (.ifCond .lt 13, 3), (.iload_n 0, 1), (.bipush 120, 2), (.if_icmp .ge 7, 3), (.iconst 1, 1), (.goto 4, 3), (.iconst 0, 1), (.ireturn, 1)]
theorem ocX11_isSpot_0 : chk (cX11_isSpot.data.toList.drop 0) tcX11_isSpot_0 = true := by decide +kernel
theorem dX11_isSpot_0 : decode cX11_isSpot 0 = .ok (.iload_n 0, 1) := chk_nth ocX11_isSpot_0 (k := 0) rfl
theorem dX11_isSpot_1 : decode cX11_isSpot 1 = .ok (.ifCond .lt 13, 3) := chk_nth ocX11_isSpot_0 (k := 1) rfl
theorem dX11_isSpot_4 : decode cX11_isSpot 4 = .ok (.iload_n 0, 1) := chk_nth ocX11_isSpot_0 (k := 2) rfl
theorem dX11_isSpot_5 : decode cX11_isSpot 5 = .ok (.bipush 120, 2) := chk_nth ocX11_isSpot_0 (k := 3) rfl
theorem dX11_isSpot_7 : decode cX11_isSpot 7 = .ok (.if_icmp .ge 7, 3) := chk_nth ocX11_isSpot_0 (k := 4) rfl
theorem dX11_isSpot_10 : decode cX11_isSpot 10 = .ok (.iconst 1, 1) := chk_nth ocX11_isSpot_0 (k := 5) rfl
theorem dX11_isSpot_11 : decode cX11_isSpot 11 = .ok (.goto 4, 3) := chk_nth ocX11_isSpot_0 (k := 6) rfl
theorem dX11_isSpot_14 : decode cX11_isSpot 14 = .ok (.iconst 0, 1) := chk_nth ocX11_isSpot_0 (k := 7) rfl
theorem dX11_isSpot_15 : decode cX11_isSpot 15 = .ok (.ireturn, 1) := chk_nth ocX11_isSpot_0 (k := 8) rfl
def tcX11_refusesComing_0 : List (Instr × Nat) := [(.aload_n 0, 1), (.getfield 12, 3), (.iload_n 1, 1), (.invokevirtual 148, 3), (.ifCond .eq 14, 3), (.aload_n 0, 1), (.getfield 12, 3), (.iload_n 2, 1), (.invokevirtual 253, 3), (.ifCond .ne 6, 3), (.bipush (-2), 2), (.ireturn, 1), (.iload_n 3, 1), (.iconst (-1), 1), (.if_icmp .eq 10, 3), (.iload_n 3, 1), (.invokestatic 344, 3), (.ifCond .eq 7, 3), (.iconst 0, 1), (.goto 5, 3), (.bipush (-3), 2), (.ireturn, 1)]
theorem ocX11_refusesComing_0 : chk (cX11_refusesComing.data.toList.drop 0) tcX11_refusesComing_0 = true := by decide +kernel
theorem dX11_refusesComing_0 : decode cX11_refusesComing 0 = .ok (.aload_n 0, 1) := chk_nth ocX11_refusesComing_0 (k := 0) rfl
theorem dX11_refusesComing_1 : decode cX11_refusesComing 1 = .ok (.getfield 12, 3) := chk_nth ocX11_refusesComing_0 (k := 1) rfl
theorem dX11_refusesComing_4 : decode cX11_refusesComing 4 = .ok (.iload_n 1, 1) := chk_nth ocX11_refusesComing_0 (k := 2) rfl
theorem dX11_refusesComing_5 : decode cX11_refusesComing 5 = .ok (.invokevirtual 148, 3) := chk_nth ocX11_refusesComing_0 (k := 3) rfl
theorem dX11_refusesComing_8 : decode cX11_refusesComing 8 = .ok (.ifCond .eq 14, 3) := chk_nth ocX11_refusesComing_0 (k := 4) rfl
theorem dX11_refusesComing_11 : decode cX11_refusesComing 11 = .ok (.aload_n 0, 1) := chk_nth ocX11_refusesComing_0 (k := 5) rfl
theorem dX11_refusesComing_12 : decode cX11_refusesComing 12 = .ok (.getfield 12, 3) := chk_nth ocX11_refusesComing_0 (k := 6) rfl
theorem dX11_refusesComing_15 : decode cX11_refusesComing 15 = .ok (.iload_n 2, 1) := chk_nth ocX11_refusesComing_0 (k := 7) rfl
theorem dX11_refusesComing_16 : decode cX11_refusesComing 16 = .ok (.invokevirtual 253, 3) := chk_nth ocX11_refusesComing_0 (k := 8) rfl
theorem dX11_refusesComing_19 : decode cX11_refusesComing 19 = .ok (.ifCond .ne 6, 3) := chk_nth ocX11_refusesComing_0 (k := 9) rfl
theorem dX11_refusesComing_22 : decode cX11_refusesComing 22 = .ok (.bipush (-2), 2) := chk_nth ocX11_refusesComing_0 (k := 10) rfl
theorem dX11_refusesComing_24 : decode cX11_refusesComing 24 = .ok (.ireturn, 1) := chk_nth ocX11_refusesComing_0 (k := 11) rfl
theorem dX11_refusesComing_25 : decode cX11_refusesComing 25 = .ok (.iload_n 3, 1) := chk_nth ocX11_refusesComing_0 (k := 12) rfl
theorem dX11_refusesComing_26 : decode cX11_refusesComing 26 = .ok (.iconst (-1), 1) := chk_nth ocX11_refusesComing_0 (k := 13) rfl
theorem dX11_refusesComing_27 : decode cX11_refusesComing 27 = .ok (.if_icmp .eq 10, 3) := chk_nth ocX11_refusesComing_0 (k := 14) rfl
theorem dX11_refusesComing_30 : decode cX11_refusesComing 30 = .ok (.iload_n 3, 1) := chk_nth ocX11_refusesComing_0 (k := 15) rfl
theorem dX11_refusesComing_31 : decode cX11_refusesComing 31 = .ok (.invokestatic 344, 3) := chk_nth ocX11_refusesComing_0 (k := 16) rfl
theorem dX11_refusesComing_34 : decode cX11_refusesComing 34 = .ok (.ifCond .eq 7, 3) := chk_nth ocX11_refusesComing_0 (k := 17) rfl
theorem dX11_refusesComing_37 : decode cX11_refusesComing 37 = .ok (.iconst 0, 1) := chk_nth ocX11_refusesComing_0 (k := 18) rfl
theorem dX11_refusesComing_38 : decode cX11_refusesComing 38 = .ok (.goto 5, 3) := chk_nth ocX11_refusesComing_0 (k := 19) rfl
theorem dX11_refusesComing_41 : decode cX11_refusesComing 41 = .ok (.bipush (-3), 2) := chk_nth ocX11_refusesComing_0 (k := 20) rfl
theorem dX11_refusesComing_43 : decode cX11_refusesComing 43 = .ok (.ireturn, 1) := chk_nth ocX11_refusesComing_0 (k := 21) rfl
def tcX11_comesTo_0 : List (Instr × Nat) := [(.aload_n 0, 1), (.getfield 62, 3), (.iload_n 1, 1), (.aload 4, 2), (.iload_n 1, 1), (.invokevirtual 163, 3), (.aload 4, 2), (.invokevirtual 256, 3), (.aload_n 0, 1), (.getfield 62, 3), (.iload_n 2, 1), (.iload_n 3, 1), (.invokevirtual 408, 3), (.ireturn, 1)]
theorem ocX11_comesTo_0 : chk (cX11_comesTo.data.toList.drop 0) tcX11_comesTo_0 = true := by decide +kernel
theorem dX11_comesTo_0 : decode cX11_comesTo 0 = .ok (.aload_n 0, 1) := chk_nth ocX11_comesTo_0 (k := 0) rfl
theorem dX11_comesTo_1 : decode cX11_comesTo 1 = .ok (.getfield 62, 3) := chk_nth ocX11_comesTo_0 (k := 1) rfl
theorem dX11_comesTo_4 : decode cX11_comesTo 4 = .ok (.iload_n 1, 1) := chk_nth ocX11_comesTo_0 (k := 2) rfl
theorem dX11_comesTo_5 : decode cX11_comesTo 5 = .ok (.aload 4, 2) := chk_nth ocX11_comesTo_0 (k := 3) rfl
theorem dX11_comesTo_7 : decode cX11_comesTo 7 = .ok (.iload_n 1, 1) := chk_nth ocX11_comesTo_0 (k := 4) rfl
theorem dX11_comesTo_8 : decode cX11_comesTo 8 = .ok (.invokevirtual 163, 3) := chk_nth ocX11_comesTo_0 (k := 5) rfl
theorem dX11_comesTo_11 : decode cX11_comesTo 11 = .ok (.aload 4, 2) := chk_nth ocX11_comesTo_0 (k := 6) rfl
theorem dX11_comesTo_13 : decode cX11_comesTo 13 = .ok (.invokevirtual 256, 3) := chk_nth ocX11_comesTo_0 (k := 7) rfl
theorem dX11_comesTo_16 : decode cX11_comesTo 16 = .ok (.aload_n 0, 1) := chk_nth ocX11_comesTo_0 (k := 8) rfl
theorem dX11_comesTo_17 : decode cX11_comesTo 17 = .ok (.getfield 62, 3) := chk_nth ocX11_comesTo_0 (k := 9) rfl
theorem dX11_comesTo_20 : decode cX11_comesTo 20 = .ok (.iload_n 2, 1) := chk_nth ocX11_comesTo_0 (k := 10) rfl
theorem dX11_comesTo_21 : decode cX11_comesTo 21 = .ok (.iload_n 3, 1) := chk_nth ocX11_comesTo_0 (k := 11) rfl
theorem dX11_comesTo_22 : decode cX11_comesTo 22 = .ok (.invokevirtual 408, 3) := chk_nth ocX11_comesTo_0 (k := 12) rfl
theorem dX11_comesTo_25 : decode cX11_comesTo 25 = .ok (.ireturn, 1) := chk_nth ocX11_comesTo_0 (k := 13) rfl
def tcX11_yearsTogether_0 : List (Instr × Nat) := [(.iconst 0, 1), (.istore_n 2, 1), (.iconst 0, 1), (.istore_n 3, 1), (.iload_n 3, 1), (.aload_n 0, 1), (.getfield 12, 3), (.getfield 402, 3), (.if_icmp .ge 17, 3), (.iload_n 2, 1), (.aload_n 1, 1), (.iload_n 3, 1), (.invokevirtual 154, 3), (.iadd, 1), (.istore_n 2, 1), (.iinc 3 1, 3), (.goto (-22), 3), (.iload_n 2, 1), (.ireturn, 1)]
theorem ocX11_yearsTogether_0 : chk (cX11_yearsTogether.data.toList.drop 0) tcX11_yearsTogether_0 = true := by decide +kernel
theorem dX11_yearsTogether_0 : decode cX11_yearsTogether 0 = .ok (.iconst 0, 1) := chk_nth ocX11_yearsTogether_0 (k := 0) rfl
theorem dX11_yearsTogether_1 : decode cX11_yearsTogether 1 = .ok (.istore_n 2, 1) := chk_nth ocX11_yearsTogether_0 (k := 1) rfl
theorem dX11_yearsTogether_2 : decode cX11_yearsTogether 2 = .ok (.iconst 0, 1) := chk_nth ocX11_yearsTogether_0 (k := 2) rfl
theorem dX11_yearsTogether_3 : decode cX11_yearsTogether 3 = .ok (.istore_n 3, 1) := chk_nth ocX11_yearsTogether_0 (k := 3) rfl
theorem dX11_yearsTogether_4 : decode cX11_yearsTogether 4 = .ok (.iload_n 3, 1) := chk_nth ocX11_yearsTogether_0 (k := 4) rfl
theorem dX11_yearsTogether_5 : decode cX11_yearsTogether 5 = .ok (.aload_n 0, 1) := chk_nth ocX11_yearsTogether_0 (k := 5) rfl
theorem dX11_yearsTogether_6 : decode cX11_yearsTogether 6 = .ok (.getfield 12, 3) := chk_nth ocX11_yearsTogether_0 (k := 6) rfl
theorem dX11_yearsTogether_9 : decode cX11_yearsTogether 9 = .ok (.getfield 402, 3) := chk_nth ocX11_yearsTogether_0 (k := 7) rfl
theorem dX11_yearsTogether_12 : decode cX11_yearsTogether 12 = .ok (.if_icmp .ge 17, 3) := chk_nth ocX11_yearsTogether_0 (k := 8) rfl
theorem dX11_yearsTogether_15 : decode cX11_yearsTogether 15 = .ok (.iload_n 2, 1) := chk_nth ocX11_yearsTogether_0 (k := 9) rfl
theorem dX11_yearsTogether_16 : decode cX11_yearsTogether 16 = .ok (.aload_n 1, 1) := chk_nth ocX11_yearsTogether_0 (k := 10) rfl
theorem dX11_yearsTogether_17 : decode cX11_yearsTogether 17 = .ok (.iload_n 3, 1) := chk_nth ocX11_yearsTogether_0 (k := 11) rfl
theorem dX11_yearsTogether_18 : decode cX11_yearsTogether 18 = .ok (.invokevirtual 154, 3) := chk_nth ocX11_yearsTogether_0 (k := 12) rfl
theorem dX11_yearsTogether_21 : decode cX11_yearsTogether 21 = .ok (.iadd, 1) := chk_nth ocX11_yearsTogether_0 (k := 13) rfl
theorem dX11_yearsTogether_22 : decode cX11_yearsTogether 22 = .ok (.istore_n 2, 1) := chk_nth ocX11_yearsTogether_0 (k := 14) rfl
theorem dX11_yearsTogether_23 : decode cX11_yearsTogether 23 = .ok (.iinc 3 1, 3) := chk_nth ocX11_yearsTogether_0 (k := 15) rfl
theorem dX11_yearsTogether_26 : decode cX11_yearsTogether 26 = .ok (.goto (-22), 3) := chk_nth ocX11_yearsTogether_0 (k := 16) rfl
theorem dX11_yearsTogether_29 : decode cX11_yearsTogether 29 = .ok (.iload_n 2, 1) := chk_nth ocX11_yearsTogether_0 (k := 17) rfl
theorem dX11_yearsTogether_30 : decode cX11_yearsTogether 30 = .ok (.ireturn, 1) := chk_nth ocX11_yearsTogether_0 (k := 18) rfl
def tcX11_cornersOfGoers_0 : List (Instr × Nat) := [(.iconst 0, 1), (.istore_n 2, 1), (.iconst 0, 1), (.istore_n 3, 1), (.iload_n 3, 1), (.aload_n 0, 1), (.getfield 12, 3), (.getfield 402, 3), (.if_icmp .ge 19, 3), (.iload_n 2, 1), (.iconst 1, 1), (.aload_n 1, 1), (.iload_n 3, 1), (.invokevirtual 151, 3), (.ishl, 1), (.ior, 1), (.istore_n 2, 1), (.iinc 3 1, 3), (.goto (-24), 3), (.iload_n 2, 1), (.ireturn, 1)]
theorem ocX11_cornersOfGoers_0 : chk (cX11_cornersOfGoers.data.toList.drop 0) tcX11_cornersOfGoers_0 = true := by decide +kernel
theorem dX11_cornersOfGoers_0 : decode cX11_cornersOfGoers 0 = .ok (.iconst 0, 1) := chk_nth ocX11_cornersOfGoers_0 (k := 0) rfl
theorem dX11_cornersOfGoers_1 : decode cX11_cornersOfGoers 1 = .ok (.istore_n 2, 1) := chk_nth ocX11_cornersOfGoers_0 (k := 1) rfl
theorem dX11_cornersOfGoers_2 : decode cX11_cornersOfGoers 2 = .ok (.iconst 0, 1) := chk_nth ocX11_cornersOfGoers_0 (k := 2) rfl
theorem dX11_cornersOfGoers_3 : decode cX11_cornersOfGoers 3 = .ok (.istore_n 3, 1) := chk_nth ocX11_cornersOfGoers_0 (k := 3) rfl
theorem dX11_cornersOfGoers_4 : decode cX11_cornersOfGoers 4 = .ok (.iload_n 3, 1) := chk_nth ocX11_cornersOfGoers_0 (k := 4) rfl
theorem dX11_cornersOfGoers_5 : decode cX11_cornersOfGoers 5 = .ok (.aload_n 0, 1) := chk_nth ocX11_cornersOfGoers_0 (k := 5) rfl
theorem dX11_cornersOfGoers_6 : decode cX11_cornersOfGoers 6 = .ok (.getfield 12, 3) := chk_nth ocX11_cornersOfGoers_0 (k := 6) rfl
theorem dX11_cornersOfGoers_9 : decode cX11_cornersOfGoers 9 = .ok (.getfield 402, 3) := chk_nth ocX11_cornersOfGoers_0 (k := 7) rfl
theorem dX11_cornersOfGoers_12 : decode cX11_cornersOfGoers 12 = .ok (.if_icmp .ge 19, 3) := chk_nth ocX11_cornersOfGoers_0 (k := 8) rfl
theorem dX11_cornersOfGoers_15 : decode cX11_cornersOfGoers 15 = .ok (.iload_n 2, 1) := chk_nth ocX11_cornersOfGoers_0 (k := 9) rfl
theorem dX11_cornersOfGoers_16 : decode cX11_cornersOfGoers 16 = .ok (.iconst 1, 1) := chk_nth ocX11_cornersOfGoers_0 (k := 10) rfl
theorem dX11_cornersOfGoers_17 : decode cX11_cornersOfGoers 17 = .ok (.aload_n 1, 1) := chk_nth ocX11_cornersOfGoers_0 (k := 11) rfl
theorem dX11_cornersOfGoers_18 : decode cX11_cornersOfGoers 18 = .ok (.iload_n 3, 1) := chk_nth ocX11_cornersOfGoers_0 (k := 12) rfl
theorem dX11_cornersOfGoers_19 : decode cX11_cornersOfGoers 19 = .ok (.invokevirtual 151, 3) := chk_nth ocX11_cornersOfGoers_0 (k := 13) rfl
theorem dX11_cornersOfGoers_22 : decode cX11_cornersOfGoers 22 = .ok (.ishl, 1) := chk_nth ocX11_cornersOfGoers_0 (k := 14) rfl
theorem dX11_cornersOfGoers_23 : decode cX11_cornersOfGoers 23 = .ok (.ior, 1) := chk_nth ocX11_cornersOfGoers_0 (k := 15) rfl
theorem dX11_cornersOfGoers_24 : decode cX11_cornersOfGoers 24 = .ok (.istore_n 2, 1) := chk_nth ocX11_cornersOfGoers_0 (k := 16) rfl
theorem dX11_cornersOfGoers_25 : decode cX11_cornersOfGoers 25 = .ok (.iinc 3 1, 3) := chk_nth ocX11_cornersOfGoers_0 (k := 17) rfl
theorem dX11_cornersOfGoers_28 : decode cX11_cornersOfGoers 28 = .ok (.goto (-24), 3) := chk_nth ocX11_cornersOfGoers_0 (k := 18) rfl
theorem dX11_cornersOfGoers_31 : decode cX11_cornersOfGoers 31 = .ok (.iload_n 2, 1) := chk_nth ocX11_cornersOfGoers_0 (k := 19) rfl
theorem dX11_cornersOfGoers_32 : decode cX11_cornersOfGoers 32 = .ok (.ireturn, 1) := chk_nth ocX11_cornersOfGoers_0 (k := 20) rfl
def tcJ11_isValidCodePoint_9a6ad_0 : List (Instr × Nat) := [(.iload_n 0, 1), (.bipush 16, 2), (.iushr, 1), (.istore_n 1, 1), (.iload_n 1, 1), (.bipush 17, 2), (.if_icmp .ge 7, 3), (.iconst 1, 1), (.goto 4, 3), (.iconst 0, 1), (.ireturn, 1)]
theorem ocJ11_isValidCodePoint_9a6ad_0 : chk (cJ11_isValidCodePoint_9a6ad.data.toList.drop 0) tcJ11_isValidCodePoint_9a6ad_0 = true := by decide +kernel
theorem dJ11_isValidCodePoint_9a6ad_0 : decode cJ11_isValidCodePoint_9a6ad 0 = .ok (.iload_n 0, 1) := chk_nth ocJ11_isValidCodePoint_9a6ad_0 (k := 0) rfl
theorem dJ11_isValidCodePoint_9a6ad_1 : decode cJ11_isValidCodePoint_9a6ad 1 = .ok (.bipush 16, 2) := chk_nth ocJ11_isValidCodePoint_9a6ad_0 (k := 1) rfl
theorem dJ11_isValidCodePoint_9a6ad_3 : decode cJ11_isValidCodePoint_9a6ad 3 = .ok (.iushr, 1) := chk_nth ocJ11_isValidCodePoint_9a6ad_0 (k := 2) rfl
theorem dJ11_isValidCodePoint_9a6ad_4 : decode cJ11_isValidCodePoint_9a6ad 4 = .ok (.istore_n 1, 1) := chk_nth ocJ11_isValidCodePoint_9a6ad_0 (k := 3) rfl
theorem dJ11_isValidCodePoint_9a6ad_5 : decode cJ11_isValidCodePoint_9a6ad 5 = .ok (.iload_n 1, 1) := chk_nth ocJ11_isValidCodePoint_9a6ad_0 (k := 4) rfl
theorem dJ11_isValidCodePoint_9a6ad_6 : decode cJ11_isValidCodePoint_9a6ad 6 = .ok (.bipush 17, 2) := chk_nth ocJ11_isValidCodePoint_9a6ad_0 (k := 5) rfl
theorem dJ11_isValidCodePoint_9a6ad_8 : decode cJ11_isValidCodePoint_9a6ad 8 = .ok (.if_icmp .ge 7, 3) := chk_nth ocJ11_isValidCodePoint_9a6ad_0 (k := 6) rfl
theorem dJ11_isValidCodePoint_9a6ad_11 : decode cJ11_isValidCodePoint_9a6ad 11 = .ok (.iconst 1, 1) := chk_nth ocJ11_isValidCodePoint_9a6ad_0 (k := 7) rfl
theorem dJ11_isValidCodePoint_9a6ad_12 : decode cJ11_isValidCodePoint_9a6ad 12 = .ok (.goto 4, 3) := chk_nth ocJ11_isValidCodePoint_9a6ad_0 (k := 8) rfl
theorem dJ11_isValidCodePoint_9a6ad_15 : decode cJ11_isValidCodePoint_9a6ad 15 = .ok (.iconst 0, 1) := chk_nth ocJ11_isValidCodePoint_9a6ad_0 (k := 9) rfl
theorem dJ11_isValidCodePoint_9a6ad_16 : decode cJ11_isValidCodePoint_9a6ad 16 = .ok (.ireturn, 1) := chk_nth ocJ11_isValidCodePoint_9a6ad_0 (k := 10) rfl
def tcJ11_highSurrogate_5068e_0 : List (Instr × Nat) := [(.iload_n 0, 1), (.bipush 10, 2), (.iushr, 1), (.ldc 110, 2), (.iadd, 1), (.i2c, 1), (.ireturn, 1)]
theorem ocJ11_highSurrogate_5068e_0 : chk (cJ11_highSurrogate_5068e.data.toList.drop 0) tcJ11_highSurrogate_5068e_0 = true := by decide +kernel
theorem dJ11_highSurrogate_5068e_0 : decode cJ11_highSurrogate_5068e 0 = .ok (.iload_n 0, 1) := chk_nth ocJ11_highSurrogate_5068e_0 (k := 0) rfl
theorem dJ11_highSurrogate_5068e_1 : decode cJ11_highSurrogate_5068e 1 = .ok (.bipush 10, 2) := chk_nth ocJ11_highSurrogate_5068e_0 (k := 1) rfl
theorem dJ11_highSurrogate_5068e_3 : decode cJ11_highSurrogate_5068e 3 = .ok (.iushr, 1) := chk_nth ocJ11_highSurrogate_5068e_0 (k := 2) rfl
theorem dJ11_highSurrogate_5068e_4 : decode cJ11_highSurrogate_5068e 4 = .ok (.ldc 110, 2) := chk_nth ocJ11_highSurrogate_5068e_0 (k := 3) rfl
theorem dJ11_highSurrogate_5068e_6 : decode cJ11_highSurrogate_5068e 6 = .ok (.iadd, 1) := chk_nth ocJ11_highSurrogate_5068e_0 (k := 4) rfl
theorem dJ11_highSurrogate_5068e_7 : decode cJ11_highSurrogate_5068e 7 = .ok (.i2c, 1) := chk_nth ocJ11_highSurrogate_5068e_0 (k := 5) rfl
theorem dJ11_highSurrogate_5068e_8 : decode cJ11_highSurrogate_5068e 8 = .ok (.ireturn, 1) := chk_nth ocJ11_highSurrogate_5068e_0 (k := 6) rfl
def tcJ11_lowSurrogate_5068e_0 : List (Instr × Nat) := [(.iload_n 0, 1), (.sipush 1023, 3), (.iand, 1), (.ldc 76, 2), (.iadd, 1), (.i2c, 1), (.ireturn, 1)]
theorem ocJ11_lowSurrogate_5068e_0 : chk (cJ11_lowSurrogate_5068e.data.toList.drop 0) tcJ11_lowSurrogate_5068e_0 = true := by decide +kernel
theorem dJ11_lowSurrogate_5068e_0 : decode cJ11_lowSurrogate_5068e 0 = .ok (.iload_n 0, 1) := chk_nth ocJ11_lowSurrogate_5068e_0 (k := 0) rfl
theorem dJ11_lowSurrogate_5068e_1 : decode cJ11_lowSurrogate_5068e 1 = .ok (.sipush 1023, 3) := chk_nth ocJ11_lowSurrogate_5068e_0 (k := 1) rfl
theorem dJ11_lowSurrogate_5068e_4 : decode cJ11_lowSurrogate_5068e 4 = .ok (.iand, 1) := chk_nth ocJ11_lowSurrogate_5068e_0 (k := 2) rfl
theorem dJ11_lowSurrogate_5068e_5 : decode cJ11_lowSurrogate_5068e 5 = .ok (.ldc 76, 2) := chk_nth ocJ11_lowSurrogate_5068e_0 (k := 3) rfl
theorem dJ11_lowSurrogate_5068e_7 : decode cJ11_lowSurrogate_5068e 7 = .ok (.iadd, 1) := chk_nth ocJ11_lowSurrogate_5068e_0 (k := 4) rfl
theorem dJ11_lowSurrogate_5068e_8 : decode cJ11_lowSurrogate_5068e 8 = .ok (.i2c, 1) := chk_nth ocJ11_lowSurrogate_5068e_0 (k := 5) rfl
theorem dJ11_lowSurrogate_5068e_9 : decode cJ11_lowSurrogate_5068e 9 = .ok (.ireturn, 1) := chk_nth ocJ11_lowSurrogate_5068e_0 (k := 6) rfl
def tcJ6_numberOfTrailingZeros_0f7a4_0 : List (Instr × Nat) := [(.iload_n 0, 1), (.iconst (-1), 1), (.ixor, 1), (.iload_n 0, 1), (.iconst 1, 1), (.isub, 1), (.iand, 1), (.istore_n 0, 1), (.iload_n 0, 1), (.ifCond .gt 8, 3), (.iload_n 0, 1), (.bipush 32, 2), (.iand, 1), (.ireturn, 1), (.iconst 1, 1), (.istore_n 1, 1), (.iload_n 0, 1), (.ldc_w 264, 3), (.if_icmp .le 11, 3), (.iinc 1 16, 3), (.iload_n 0, 1), (.bipush 16, 2), (.iushr, 1), (.istore_n 0, 1)]
theorem ocJ6_numberOfTrailingZeros_0f7a4_0 : chk (cJ6_numberOfTrailingZeros_0f7a4.data.toList.drop 0) tcJ6_numberOfTrailingZeros_0f7a4_0 = true := by decide +kernel
theorem dJ6_numberOfTrailingZeros_0f7a4_0 : decode cJ6_numberOfTrailingZeros_0f7a4 0 = .ok (.iload_n 0, 1) := chk_nth ocJ6_numberOfTrailingZeros_0f7a4_0 (k := 0) rfl
theorem dJ6_numberOfTrailingZeros_0f7a4_1 : decode cJ6_numberOfTrailingZeros_0f7a4 1 = .ok (.iconst (-1), 1) := chk_nth ocJ6_numberOfTrailingZeros_0f7a4_0 (k := 1) rfl
theorem dJ6_numberOfTrailingZeros_0f7a4_2 : decode cJ6_numberOfTrailingZeros_0f7a4 2 = .ok (.ixor, 1) := chk_nth ocJ6_numberOfTrailingZeros_0f7a4_0 (k := 2) rfl
theorem dJ6_numberOfTrailingZeros_0f7a4_3 : decode cJ6_numberOfTrailingZeros_0f7a4 3 = .ok (.iload_n 0, 1) := chk_nth ocJ6_numberOfTrailingZeros_0f7a4_0 (k := 3) rfl
theorem dJ6_numberOfTrailingZeros_0f7a4_4 : decode cJ6_numberOfTrailingZeros_0f7a4 4 = .ok (.iconst 1, 1) := chk_nth ocJ6_numberOfTrailingZeros_0f7a4_0 (k := 4) rfl
theorem dJ6_numberOfTrailingZeros_0f7a4_5 : decode cJ6_numberOfTrailingZeros_0f7a4 5 = .ok (.isub, 1) := chk_nth ocJ6_numberOfTrailingZeros_0f7a4_0 (k := 5) rfl
theorem dJ6_numberOfTrailingZeros_0f7a4_6 : decode cJ6_numberOfTrailingZeros_0f7a4 6 = .ok (.iand, 1) := chk_nth ocJ6_numberOfTrailingZeros_0f7a4_0 (k := 6) rfl
theorem dJ6_numberOfTrailingZeros_0f7a4_7 : decode cJ6_numberOfTrailingZeros_0f7a4 7 = .ok (.istore_n 0, 1) := chk_nth ocJ6_numberOfTrailingZeros_0f7a4_0 (k := 7) rfl
theorem dJ6_numberOfTrailingZeros_0f7a4_8 : decode cJ6_numberOfTrailingZeros_0f7a4 8 = .ok (.iload_n 0, 1) := chk_nth ocJ6_numberOfTrailingZeros_0f7a4_0 (k := 8) rfl
theorem dJ6_numberOfTrailingZeros_0f7a4_9 : decode cJ6_numberOfTrailingZeros_0f7a4 9 = .ok (.ifCond .gt 8, 3) := chk_nth ocJ6_numberOfTrailingZeros_0f7a4_0 (k := 9) rfl
theorem dJ6_numberOfTrailingZeros_0f7a4_12 : decode cJ6_numberOfTrailingZeros_0f7a4 12 = .ok (.iload_n 0, 1) := chk_nth ocJ6_numberOfTrailingZeros_0f7a4_0 (k := 10) rfl
theorem dJ6_numberOfTrailingZeros_0f7a4_13 : decode cJ6_numberOfTrailingZeros_0f7a4 13 = .ok (.bipush 32, 2) := chk_nth ocJ6_numberOfTrailingZeros_0f7a4_0 (k := 11) rfl
theorem dJ6_numberOfTrailingZeros_0f7a4_15 : decode cJ6_numberOfTrailingZeros_0f7a4 15 = .ok (.iand, 1) := chk_nth ocJ6_numberOfTrailingZeros_0f7a4_0 (k := 12) rfl
theorem dJ6_numberOfTrailingZeros_0f7a4_16 : decode cJ6_numberOfTrailingZeros_0f7a4 16 = .ok (.ireturn, 1) := chk_nth ocJ6_numberOfTrailingZeros_0f7a4_0 (k := 13) rfl
theorem dJ6_numberOfTrailingZeros_0f7a4_17 : decode cJ6_numberOfTrailingZeros_0f7a4 17 = .ok (.iconst 1, 1) := chk_nth ocJ6_numberOfTrailingZeros_0f7a4_0 (k := 14) rfl
theorem dJ6_numberOfTrailingZeros_0f7a4_18 : decode cJ6_numberOfTrailingZeros_0f7a4 18 = .ok (.istore_n 1, 1) := chk_nth ocJ6_numberOfTrailingZeros_0f7a4_0 (k := 15) rfl
theorem dJ6_numberOfTrailingZeros_0f7a4_19 : decode cJ6_numberOfTrailingZeros_0f7a4 19 = .ok (.iload_n 0, 1) := chk_nth ocJ6_numberOfTrailingZeros_0f7a4_0 (k := 16) rfl
theorem dJ6_numberOfTrailingZeros_0f7a4_20 : decode cJ6_numberOfTrailingZeros_0f7a4 20 = .ok (.ldc_w 264, 3) := chk_nth ocJ6_numberOfTrailingZeros_0f7a4_0 (k := 17) rfl
theorem dJ6_numberOfTrailingZeros_0f7a4_23 : decode cJ6_numberOfTrailingZeros_0f7a4 23 = .ok (.if_icmp .le 11, 3) := chk_nth ocJ6_numberOfTrailingZeros_0f7a4_0 (k := 18) rfl
theorem dJ6_numberOfTrailingZeros_0f7a4_26 : decode cJ6_numberOfTrailingZeros_0f7a4 26 = .ok (.iinc 1 16, 3) := chk_nth ocJ6_numberOfTrailingZeros_0f7a4_0 (k := 19) rfl
theorem dJ6_numberOfTrailingZeros_0f7a4_29 : decode cJ6_numberOfTrailingZeros_0f7a4 29 = .ok (.iload_n 0, 1) := chk_nth ocJ6_numberOfTrailingZeros_0f7a4_0 (k := 20) rfl
theorem dJ6_numberOfTrailingZeros_0f7a4_30 : decode cJ6_numberOfTrailingZeros_0f7a4 30 = .ok (.bipush 16, 2) := chk_nth ocJ6_numberOfTrailingZeros_0f7a4_0 (k := 21) rfl
theorem dJ6_numberOfTrailingZeros_0f7a4_32 : decode cJ6_numberOfTrailingZeros_0f7a4 32 = .ok (.iushr, 1) := chk_nth ocJ6_numberOfTrailingZeros_0f7a4_0 (k := 22) rfl
theorem dJ6_numberOfTrailingZeros_0f7a4_33 : decode cJ6_numberOfTrailingZeros_0f7a4 33 = .ok (.istore_n 0, 1) := chk_nth ocJ6_numberOfTrailingZeros_0f7a4_0 (k := 23) rfl
def tcJ6_numberOfTrailingZeros_0f7a4_1 : List (Instr × Nat) := [(.iload_n 0, 1), (.sipush 256, 3), (.if_icmp .le 11, 3), (.iinc 1 8, 3), (.iload_n 0, 1), (.bipush 8, 2), (.iushr, 1), (.istore_n 0, 1), (.iload_n 0, 1), (.bipush 16, 2), (.if_icmp .le 10, 3), (.iinc 1 4, 3), (.iload_n 0, 1), (.iconst 4, 1), (.iushr, 1), (.istore_n 0, 1), (.iload_n 0, 1), (.iconst 4, 1), (.if_icmp .le 10, 3), (.iinc 1 2, 3), (.iload_n 0, 1), (.iconst 2, 1), (.iushr, 1), (.istore_n 0, 1)]
theorem ocJ6_numberOfTrailingZeros_0f7a4_1 : chk (cJ6_numberOfTrailingZeros_0f7a4.data.toList.drop 34) tcJ6_numberOfTrailingZeros_0f7a4_1 = true := by decide +kernel
theorem dJ6_numberOfTrailingZeros_0f7a4_34 : decode cJ6_numberOfTrailingZeros_0f7a4 34 = .ok (.iload_n 0, 1) := chk_nth ocJ6_numberOfTrailingZeros_0f7a4_1 (k := 0) rfl
theorem dJ6_numberOfTrailingZeros_0f7a4_35 : decode cJ6_numberOfTrailingZeros_0f7a4 35 = .ok (.sipush 256, 3) := chk_nth ocJ6_numberOfTrailingZeros_0f7a4_1 (k := 1) rfl
theorem dJ6_numberOfTrailingZeros_0f7a4_38 : decode cJ6_numberOfTrailingZeros_0f7a4 38 = .ok (.if_icmp .le 11, 3) := chk_nth ocJ6_numberOfTrailingZeros_0f7a4_1 (k := 2) rfl
theorem dJ6_numberOfTrailingZeros_0f7a4_41 : decode cJ6_numberOfTrailingZeros_0f7a4 41 = .ok (.iinc 1 8, 3) := chk_nth ocJ6_numberOfTrailingZeros_0f7a4_1 (k := 3) rfl
theorem dJ6_numberOfTrailingZeros_0f7a4_44 : decode cJ6_numberOfTrailingZeros_0f7a4 44 = .ok (.iload_n 0, 1) := chk_nth ocJ6_numberOfTrailingZeros_0f7a4_1 (k := 4) rfl
theorem dJ6_numberOfTrailingZeros_0f7a4_45 : decode cJ6_numberOfTrailingZeros_0f7a4 45 = .ok (.bipush 8, 2) := chk_nth ocJ6_numberOfTrailingZeros_0f7a4_1 (k := 5) rfl
theorem dJ6_numberOfTrailingZeros_0f7a4_47 : decode cJ6_numberOfTrailingZeros_0f7a4 47 = .ok (.iushr, 1) := chk_nth ocJ6_numberOfTrailingZeros_0f7a4_1 (k := 6) rfl
theorem dJ6_numberOfTrailingZeros_0f7a4_48 : decode cJ6_numberOfTrailingZeros_0f7a4 48 = .ok (.istore_n 0, 1) := chk_nth ocJ6_numberOfTrailingZeros_0f7a4_1 (k := 7) rfl
theorem dJ6_numberOfTrailingZeros_0f7a4_49 : decode cJ6_numberOfTrailingZeros_0f7a4 49 = .ok (.iload_n 0, 1) := chk_nth ocJ6_numberOfTrailingZeros_0f7a4_1 (k := 8) rfl
theorem dJ6_numberOfTrailingZeros_0f7a4_50 : decode cJ6_numberOfTrailingZeros_0f7a4 50 = .ok (.bipush 16, 2) := chk_nth ocJ6_numberOfTrailingZeros_0f7a4_1 (k := 9) rfl
theorem dJ6_numberOfTrailingZeros_0f7a4_52 : decode cJ6_numberOfTrailingZeros_0f7a4 52 = .ok (.if_icmp .le 10, 3) := chk_nth ocJ6_numberOfTrailingZeros_0f7a4_1 (k := 10) rfl
theorem dJ6_numberOfTrailingZeros_0f7a4_55 : decode cJ6_numberOfTrailingZeros_0f7a4 55 = .ok (.iinc 1 4, 3) := chk_nth ocJ6_numberOfTrailingZeros_0f7a4_1 (k := 11) rfl
theorem dJ6_numberOfTrailingZeros_0f7a4_58 : decode cJ6_numberOfTrailingZeros_0f7a4 58 = .ok (.iload_n 0, 1) := chk_nth ocJ6_numberOfTrailingZeros_0f7a4_1 (k := 12) rfl
theorem dJ6_numberOfTrailingZeros_0f7a4_59 : decode cJ6_numberOfTrailingZeros_0f7a4 59 = .ok (.iconst 4, 1) := chk_nth ocJ6_numberOfTrailingZeros_0f7a4_1 (k := 13) rfl
theorem dJ6_numberOfTrailingZeros_0f7a4_60 : decode cJ6_numberOfTrailingZeros_0f7a4 60 = .ok (.iushr, 1) := chk_nth ocJ6_numberOfTrailingZeros_0f7a4_1 (k := 14) rfl
theorem dJ6_numberOfTrailingZeros_0f7a4_61 : decode cJ6_numberOfTrailingZeros_0f7a4 61 = .ok (.istore_n 0, 1) := chk_nth ocJ6_numberOfTrailingZeros_0f7a4_1 (k := 15) rfl
theorem dJ6_numberOfTrailingZeros_0f7a4_62 : decode cJ6_numberOfTrailingZeros_0f7a4 62 = .ok (.iload_n 0, 1) := chk_nth ocJ6_numberOfTrailingZeros_0f7a4_1 (k := 16) rfl
theorem dJ6_numberOfTrailingZeros_0f7a4_63 : decode cJ6_numberOfTrailingZeros_0f7a4 63 = .ok (.iconst 4, 1) := chk_nth ocJ6_numberOfTrailingZeros_0f7a4_1 (k := 17) rfl
theorem dJ6_numberOfTrailingZeros_0f7a4_64 : decode cJ6_numberOfTrailingZeros_0f7a4 64 = .ok (.if_icmp .le 10, 3) := chk_nth ocJ6_numberOfTrailingZeros_0f7a4_1 (k := 18) rfl
theorem dJ6_numberOfTrailingZeros_0f7a4_67 : decode cJ6_numberOfTrailingZeros_0f7a4 67 = .ok (.iinc 1 2, 3) := chk_nth ocJ6_numberOfTrailingZeros_0f7a4_1 (k := 19) rfl
theorem dJ6_numberOfTrailingZeros_0f7a4_70 : decode cJ6_numberOfTrailingZeros_0f7a4 70 = .ok (.iload_n 0, 1) := chk_nth ocJ6_numberOfTrailingZeros_0f7a4_1 (k := 20) rfl
theorem dJ6_numberOfTrailingZeros_0f7a4_71 : decode cJ6_numberOfTrailingZeros_0f7a4 71 = .ok (.iconst 2, 1) := chk_nth ocJ6_numberOfTrailingZeros_0f7a4_1 (k := 21) rfl
theorem dJ6_numberOfTrailingZeros_0f7a4_72 : decode cJ6_numberOfTrailingZeros_0f7a4 72 = .ok (.iushr, 1) := chk_nth ocJ6_numberOfTrailingZeros_0f7a4_1 (k := 22) rfl
theorem dJ6_numberOfTrailingZeros_0f7a4_73 : decode cJ6_numberOfTrailingZeros_0f7a4 73 = .ok (.istore_n 0, 1) := chk_nth ocJ6_numberOfTrailingZeros_0f7a4_1 (k := 23) rfl
def tcJ6_numberOfTrailingZeros_0f7a4_2 : List (Instr × Nat) := [(.iload_n 1, 1), (.iload_n 0, 1), (.iconst 1, 1), (.iushr, 1), (.iadd, 1), (.ireturn, 1)]
theorem ocJ6_numberOfTrailingZeros_0f7a4_2 : chk (cJ6_numberOfTrailingZeros_0f7a4.data.toList.drop 74) tcJ6_numberOfTrailingZeros_0f7a4_2 = true := by decide +kernel
theorem dJ6_numberOfTrailingZeros_0f7a4_74 : decode cJ6_numberOfTrailingZeros_0f7a4 74 = .ok (.iload_n 1, 1) := chk_nth ocJ6_numberOfTrailingZeros_0f7a4_2 (k := 0) rfl
theorem dJ6_numberOfTrailingZeros_0f7a4_75 : decode cJ6_numberOfTrailingZeros_0f7a4 75 = .ok (.iload_n 0, 1) := chk_nth ocJ6_numberOfTrailingZeros_0f7a4_2 (k := 1) rfl
theorem dJ6_numberOfTrailingZeros_0f7a4_76 : decode cJ6_numberOfTrailingZeros_0f7a4 76 = .ok (.iconst 1, 1) := chk_nth ocJ6_numberOfTrailingZeros_0f7a4_2 (k := 2) rfl
theorem dJ6_numberOfTrailingZeros_0f7a4_77 : decode cJ6_numberOfTrailingZeros_0f7a4 77 = .ok (.iushr, 1) := chk_nth ocJ6_numberOfTrailingZeros_0f7a4_2 (k := 3) rfl
theorem dJ6_numberOfTrailingZeros_0f7a4_78 : decode cJ6_numberOfTrailingZeros_0f7a4 78 = .ok (.iadd, 1) := chk_nth ocJ6_numberOfTrailingZeros_0f7a4_2 (k := 4) rfl
theorem dJ6_numberOfTrailingZeros_0f7a4_79 : decode cJ6_numberOfTrailingZeros_0f7a4 79 = .ok (.ireturn, 1) := chk_nth ocJ6_numberOfTrailingZeros_0f7a4_2 (k := 5) rfl
def tcJ6_bitCount_0f7a4_0 : List (Instr × Nat) := [(.iload_n 0, 1), (.iload_n 0, 1), (.iconst 1, 1), (.iushr, 1), (.ldc_w 265, 3), (.iand, 1), (.isub, 1), (.istore_n 0, 1), (.iload_n 0, 1), (.ldc_w 266, 3), (.iand, 1), (.iload_n 0, 1), (.iconst 2, 1), (.iushr, 1), (.ldc_w 266, 3), (.iand, 1), (.iadd, 1), (.istore_n 0, 1), (.iload_n 0, 1), (.iload_n 0, 1), (.iconst 4, 1), (.iushr, 1), (.iadd, 1), (.ldc_w 267, 3)]
theorem ocJ6_bitCount_0f7a4_0 : chk (cJ6_bitCount_0f7a4.data.toList.drop 0) tcJ6_bitCount_0f7a4_0 = true := by decide +kernel
theorem dJ6_bitCount_0f7a4_0 : decode cJ6_bitCount_0f7a4 0 = .ok (.iload_n 0, 1) := chk_nth ocJ6_bitCount_0f7a4_0 (k := 0) rfl
theorem dJ6_bitCount_0f7a4_1 : decode cJ6_bitCount_0f7a4 1 = .ok (.iload_n 0, 1) := chk_nth ocJ6_bitCount_0f7a4_0 (k := 1) rfl
theorem dJ6_bitCount_0f7a4_2 : decode cJ6_bitCount_0f7a4 2 = .ok (.iconst 1, 1) := chk_nth ocJ6_bitCount_0f7a4_0 (k := 2) rfl
theorem dJ6_bitCount_0f7a4_3 : decode cJ6_bitCount_0f7a4 3 = .ok (.iushr, 1) := chk_nth ocJ6_bitCount_0f7a4_0 (k := 3) rfl
theorem dJ6_bitCount_0f7a4_4 : decode cJ6_bitCount_0f7a4 4 = .ok (.ldc_w 265, 3) := chk_nth ocJ6_bitCount_0f7a4_0 (k := 4) rfl
theorem dJ6_bitCount_0f7a4_7 : decode cJ6_bitCount_0f7a4 7 = .ok (.iand, 1) := chk_nth ocJ6_bitCount_0f7a4_0 (k := 5) rfl
theorem dJ6_bitCount_0f7a4_8 : decode cJ6_bitCount_0f7a4 8 = .ok (.isub, 1) := chk_nth ocJ6_bitCount_0f7a4_0 (k := 6) rfl
theorem dJ6_bitCount_0f7a4_9 : decode cJ6_bitCount_0f7a4 9 = .ok (.istore_n 0, 1) := chk_nth ocJ6_bitCount_0f7a4_0 (k := 7) rfl
theorem dJ6_bitCount_0f7a4_10 : decode cJ6_bitCount_0f7a4 10 = .ok (.iload_n 0, 1) := chk_nth ocJ6_bitCount_0f7a4_0 (k := 8) rfl
theorem dJ6_bitCount_0f7a4_11 : decode cJ6_bitCount_0f7a4 11 = .ok (.ldc_w 266, 3) := chk_nth ocJ6_bitCount_0f7a4_0 (k := 9) rfl
theorem dJ6_bitCount_0f7a4_14 : decode cJ6_bitCount_0f7a4 14 = .ok (.iand, 1) := chk_nth ocJ6_bitCount_0f7a4_0 (k := 10) rfl
theorem dJ6_bitCount_0f7a4_15 : decode cJ6_bitCount_0f7a4 15 = .ok (.iload_n 0, 1) := chk_nth ocJ6_bitCount_0f7a4_0 (k := 11) rfl
theorem dJ6_bitCount_0f7a4_16 : decode cJ6_bitCount_0f7a4 16 = .ok (.iconst 2, 1) := chk_nth ocJ6_bitCount_0f7a4_0 (k := 12) rfl
theorem dJ6_bitCount_0f7a4_17 : decode cJ6_bitCount_0f7a4 17 = .ok (.iushr, 1) := chk_nth ocJ6_bitCount_0f7a4_0 (k := 13) rfl
theorem dJ6_bitCount_0f7a4_18 : decode cJ6_bitCount_0f7a4 18 = .ok (.ldc_w 266, 3) := chk_nth ocJ6_bitCount_0f7a4_0 (k := 14) rfl
theorem dJ6_bitCount_0f7a4_21 : decode cJ6_bitCount_0f7a4 21 = .ok (.iand, 1) := chk_nth ocJ6_bitCount_0f7a4_0 (k := 15) rfl
theorem dJ6_bitCount_0f7a4_22 : decode cJ6_bitCount_0f7a4 22 = .ok (.iadd, 1) := chk_nth ocJ6_bitCount_0f7a4_0 (k := 16) rfl
theorem dJ6_bitCount_0f7a4_23 : decode cJ6_bitCount_0f7a4 23 = .ok (.istore_n 0, 1) := chk_nth ocJ6_bitCount_0f7a4_0 (k := 17) rfl
theorem dJ6_bitCount_0f7a4_24 : decode cJ6_bitCount_0f7a4 24 = .ok (.iload_n 0, 1) := chk_nth ocJ6_bitCount_0f7a4_0 (k := 18) rfl
theorem dJ6_bitCount_0f7a4_25 : decode cJ6_bitCount_0f7a4 25 = .ok (.iload_n 0, 1) := chk_nth ocJ6_bitCount_0f7a4_0 (k := 19) rfl
theorem dJ6_bitCount_0f7a4_26 : decode cJ6_bitCount_0f7a4 26 = .ok (.iconst 4, 1) := chk_nth ocJ6_bitCount_0f7a4_0 (k := 20) rfl
theorem dJ6_bitCount_0f7a4_27 : decode cJ6_bitCount_0f7a4 27 = .ok (.iushr, 1) := chk_nth ocJ6_bitCount_0f7a4_0 (k := 21) rfl
theorem dJ6_bitCount_0f7a4_28 : decode cJ6_bitCount_0f7a4 28 = .ok (.iadd, 1) := chk_nth ocJ6_bitCount_0f7a4_0 (k := 22) rfl
theorem dJ6_bitCount_0f7a4_29 : decode cJ6_bitCount_0f7a4 29 = .ok (.ldc_w 267, 3) := chk_nth ocJ6_bitCount_0f7a4_0 (k := 23) rfl
def tcJ6_bitCount_0f7a4_1 : List (Instr × Nat) := [(.iand, 1), (.istore_n 0, 1), (.iload_n 0, 1), (.iload_n 0, 1), (.bipush 8, 2), (.iushr, 1), (.iadd, 1), (.istore_n 0, 1), (.iload_n 0, 1), (.iload_n 0, 1), (.bipush 16, 2), (.iushr, 1), (.iadd, 1), (.istore_n 0, 1), (.iload_n 0, 1), (.bipush 63, 2), (.iand, 1), (.ireturn, 1)]
theorem ocJ6_bitCount_0f7a4_1 : chk (cJ6_bitCount_0f7a4.data.toList.drop 32) tcJ6_bitCount_0f7a4_1 = true := by decide +kernel
theorem dJ6_bitCount_0f7a4_32 : decode cJ6_bitCount_0f7a4 32 = .ok (.iand, 1) := chk_nth ocJ6_bitCount_0f7a4_1 (k := 0) rfl
theorem dJ6_bitCount_0f7a4_33 : decode cJ6_bitCount_0f7a4 33 = .ok (.istore_n 0, 1) := chk_nth ocJ6_bitCount_0f7a4_1 (k := 1) rfl
theorem dJ6_bitCount_0f7a4_34 : decode cJ6_bitCount_0f7a4 34 = .ok (.iload_n 0, 1) := chk_nth ocJ6_bitCount_0f7a4_1 (k := 2) rfl
theorem dJ6_bitCount_0f7a4_35 : decode cJ6_bitCount_0f7a4 35 = .ok (.iload_n 0, 1) := chk_nth ocJ6_bitCount_0f7a4_1 (k := 3) rfl
theorem dJ6_bitCount_0f7a4_36 : decode cJ6_bitCount_0f7a4 36 = .ok (.bipush 8, 2) := chk_nth ocJ6_bitCount_0f7a4_1 (k := 4) rfl
theorem dJ6_bitCount_0f7a4_38 : decode cJ6_bitCount_0f7a4 38 = .ok (.iushr, 1) := chk_nth ocJ6_bitCount_0f7a4_1 (k := 5) rfl
theorem dJ6_bitCount_0f7a4_39 : decode cJ6_bitCount_0f7a4 39 = .ok (.iadd, 1) := chk_nth ocJ6_bitCount_0f7a4_1 (k := 6) rfl
theorem dJ6_bitCount_0f7a4_40 : decode cJ6_bitCount_0f7a4 40 = .ok (.istore_n 0, 1) := chk_nth ocJ6_bitCount_0f7a4_1 (k := 7) rfl
theorem dJ6_bitCount_0f7a4_41 : decode cJ6_bitCount_0f7a4 41 = .ok (.iload_n 0, 1) := chk_nth ocJ6_bitCount_0f7a4_1 (k := 8) rfl
theorem dJ6_bitCount_0f7a4_42 : decode cJ6_bitCount_0f7a4 42 = .ok (.iload_n 0, 1) := chk_nth ocJ6_bitCount_0f7a4_1 (k := 9) rfl
theorem dJ6_bitCount_0f7a4_43 : decode cJ6_bitCount_0f7a4 43 = .ok (.bipush 16, 2) := chk_nth ocJ6_bitCount_0f7a4_1 (k := 10) rfl
theorem dJ6_bitCount_0f7a4_45 : decode cJ6_bitCount_0f7a4 45 = .ok (.iushr, 1) := chk_nth ocJ6_bitCount_0f7a4_1 (k := 11) rfl
theorem dJ6_bitCount_0f7a4_46 : decode cJ6_bitCount_0f7a4 46 = .ok (.iadd, 1) := chk_nth ocJ6_bitCount_0f7a4_1 (k := 12) rfl
theorem dJ6_bitCount_0f7a4_47 : decode cJ6_bitCount_0f7a4 47 = .ok (.istore_n 0, 1) := chk_nth ocJ6_bitCount_0f7a4_1 (k := 13) rfl
theorem dJ6_bitCount_0f7a4_48 : decode cJ6_bitCount_0f7a4 48 = .ok (.iload_n 0, 1) := chk_nth ocJ6_bitCount_0f7a4_1 (k := 14) rfl
theorem dJ6_bitCount_0f7a4_49 : decode cJ6_bitCount_0f7a4 49 = .ok (.bipush 63, 2) := chk_nth ocJ6_bitCount_0f7a4_1 (k := 15) rfl
theorem dJ6_bitCount_0f7a4_51 : decode cJ6_bitCount_0f7a4 51 = .ok (.iand, 1) := chk_nth ocJ6_bitCount_0f7a4_1 (k := 16) rfl
theorem dJ6_bitCount_0f7a4_52 : decode cJ6_bitCount_0f7a4 52 = .ok (.ireturn, 1) := chk_nth ocJ6_bitCount_0f7a4_1 (k := 17) rfl
def tcJ9_max_7cf53_0 : List (Instr × Nat) := [(.iload_n 0, 1), (.iload_n 1, 1), (.if_icmp .lt 7, 3), (.iload_n 0, 1), (.goto 4, 3), (.iload_n 1, 1), (.ireturn, 1)]
theorem ocJ9_max_7cf53_0 : chk (cJ9_max_7cf53.data.toList.drop 0) tcJ9_max_7cf53_0 = true := by decide +kernel
theorem dJ9_max_7cf53_0 : decode cJ9_max_7cf53 0 = .ok (.iload_n 0, 1) := chk_nth ocJ9_max_7cf53_0 (k := 0) rfl
theorem dJ9_max_7cf53_1 : decode cJ9_max_7cf53 1 = .ok (.iload_n 1, 1) := chk_nth ocJ9_max_7cf53_0 (k := 1) rfl
theorem dJ9_max_7cf53_2 : decode cJ9_max_7cf53 2 = .ok (.if_icmp .lt 7, 3) := chk_nth ocJ9_max_7cf53_0 (k := 2) rfl
theorem dJ9_max_7cf53_5 : decode cJ9_max_7cf53 5 = .ok (.iload_n 0, 1) := chk_nth ocJ9_max_7cf53_0 (k := 3) rfl
theorem dJ9_max_7cf53_6 : decode cJ9_max_7cf53 6 = .ok (.goto 4, 3) := chk_nth ocJ9_max_7cf53_0 (k := 4) rfl
theorem dJ9_max_7cf53_9 : decode cJ9_max_7cf53 9 = .ok (.iload_n 1, 1) := chk_nth ocJ9_max_7cf53_0 (k := 5) rfl
theorem dJ9_max_7cf53_10 : decode cJ9_max_7cf53 10 = .ok (.ireturn, 1) := chk_nth ocJ9_max_7cf53_0 (k := 6) rfl
def tcJ9_min_7cf53_0 : List (Instr × Nat) := [(.iload_n 0, 1), (.iload_n 1, 1), (.if_icmp .gt 7, 3), (.iload_n 0, 1), (.goto 4, 3), (.iload_n 1, 1), (.ireturn, 1)]
theorem ocJ9_min_7cf53_0 : chk (cJ9_min_7cf53.data.toList.drop 0) tcJ9_min_7cf53_0 = true := by decide +kernel
theorem dJ9_min_7cf53_0 : decode cJ9_min_7cf53 0 = .ok (.iload_n 0, 1) := chk_nth ocJ9_min_7cf53_0 (k := 0) rfl
theorem dJ9_min_7cf53_1 : decode cJ9_min_7cf53 1 = .ok (.iload_n 1, 1) := chk_nth ocJ9_min_7cf53_0 (k := 1) rfl
theorem dJ9_min_7cf53_2 : decode cJ9_min_7cf53 2 = .ok (.if_icmp .gt 7, 3) := chk_nth ocJ9_min_7cf53_0 (k := 2) rfl
theorem dJ9_min_7cf53_5 : decode cJ9_min_7cf53 5 = .ok (.iload_n 0, 1) := chk_nth ocJ9_min_7cf53_0 (k := 3) rfl
theorem dJ9_min_7cf53_6 : decode cJ9_min_7cf53 6 = .ok (.goto 4, 3) := chk_nth ocJ9_min_7cf53_0 (k := 4) rfl
theorem dJ9_min_7cf53_9 : decode cJ9_min_7cf53 9 = .ok (.iload_n 1, 1) := chk_nth ocJ9_min_7cf53_0 (k := 5) rfl
theorem dJ9_min_7cf53_10 : decode cJ9_min_7cf53 10 = .ok (.ireturn, 1) := chk_nth ocJ9_min_7cf53_0 (k := 6) rfl
def tcJ0_length_8abf5_0 : List (Instr × Nat) := [(.aload_n 0, 1), (.getfield 9, 3), (.arraylength, 1), (.aload_n 0, 1), (.invokevirtual 335, 3), (.ishr, 1), (.ireturn, 1)]
theorem ocJ0_length_8abf5_0 : chk (cJ0_length_8abf5.data.toList.drop 0) tcJ0_length_8abf5_0 = true := by decide +kernel
theorem dJ0_length_8abf5_0 : decode cJ0_length_8abf5 0 = .ok (.aload_n 0, 1) := chk_nth ocJ0_length_8abf5_0 (k := 0) rfl
theorem dJ0_length_8abf5_1 : decode cJ0_length_8abf5 1 = .ok (.getfield 9, 3) := chk_nth ocJ0_length_8abf5_0 (k := 1) rfl
theorem dJ0_length_8abf5_4 : decode cJ0_length_8abf5 4 = .ok (.arraylength, 1) := chk_nth ocJ0_length_8abf5_0 (k := 2) rfl
theorem dJ0_length_8abf5_5 : decode cJ0_length_8abf5 5 = .ok (.aload_n 0, 1) := chk_nth ocJ0_length_8abf5_0 (k := 3) rfl
theorem dJ0_length_8abf5_6 : decode cJ0_length_8abf5 6 = .ok (.invokevirtual 335, 3) := chk_nth ocJ0_length_8abf5_0 (k := 4) rfl
theorem dJ0_length_8abf5_9 : decode cJ0_length_8abf5 9 = .ok (.ishr, 1) := chk_nth ocJ0_length_8abf5_0 (k := 5) rfl
theorem dJ0_length_8abf5_10 : decode cJ0_length_8abf5 10 = .ok (.ireturn, 1) := chk_nth ocJ0_length_8abf5_0 (k := 6) rfl
def tcJ0_charAt_5068e_0 : List (Instr × Nat) := [(.aload_n 0, 1), (.invokevirtual 492, 3), (.ifCond .eq 12, 3), (.aload_n 0, 1), (.getfield 9, 3), (.iload_n 1, 1), (.invokestatic 495, 3), (.ireturn, 1), (.aload_n 0, 1), (.getfield 9, 3), (.iload_n 1, 1), (.invokestatic 498, 3), (.ireturn, 1)]
theorem ocJ0_charAt_5068e_0 : chk (cJ0_charAt_5068e.data.toList.drop 0) tcJ0_charAt_5068e_0 = true := by decide +kernel
theorem dJ0_charAt_5068e_0 : decode cJ0_charAt_5068e 0 = .ok (.aload_n 0, 1) := chk_nth ocJ0_charAt_5068e_0 (k := 0) rfl
theorem dJ0_charAt_5068e_1 : decode cJ0_charAt_5068e 1 = .ok (.invokevirtual 492, 3) := chk_nth ocJ0_charAt_5068e_0 (k := 1) rfl
theorem dJ0_charAt_5068e_4 : decode cJ0_charAt_5068e 4 = .ok (.ifCond .eq 12, 3) := chk_nth ocJ0_charAt_5068e_0 (k := 2) rfl
theorem dJ0_charAt_5068e_7 : decode cJ0_charAt_5068e 7 = .ok (.aload_n 0, 1) := chk_nth ocJ0_charAt_5068e_0 (k := 3) rfl
theorem dJ0_charAt_5068e_8 : decode cJ0_charAt_5068e 8 = .ok (.getfield 9, 3) := chk_nth ocJ0_charAt_5068e_0 (k := 4) rfl
theorem dJ0_charAt_5068e_11 : decode cJ0_charAt_5068e 11 = .ok (.iload_n 1, 1) := chk_nth ocJ0_charAt_5068e_0 (k := 5) rfl
theorem dJ0_charAt_5068e_12 : decode cJ0_charAt_5068e 12 = .ok (.invokestatic 495, 3) := chk_nth ocJ0_charAt_5068e_0 (k := 6) rfl
theorem dJ0_charAt_5068e_15 : decode cJ0_charAt_5068e 15 = .ok (.ireturn, 1) := chk_nth ocJ0_charAt_5068e_0 (k := 7) rfl
theorem dJ0_charAt_5068e_16 : decode cJ0_charAt_5068e 16 = .ok (.aload_n 0, 1) := chk_nth ocJ0_charAt_5068e_0 (k := 8) rfl
theorem dJ0_charAt_5068e_17 : decode cJ0_charAt_5068e 17 = .ok (.getfield 9, 3) := chk_nth ocJ0_charAt_5068e_0 (k := 9) rfl
theorem dJ0_charAt_5068e_20 : decode cJ0_charAt_5068e 20 = .ok (.iload_n 1, 1) := chk_nth ocJ0_charAt_5068e_0 (k := 10) rfl
theorem dJ0_charAt_5068e_21 : decode cJ0_charAt_5068e 21 = .ok (.invokestatic 498, 3) := chk_nth ocJ0_charAt_5068e_0 (k := 11) rfl
theorem dJ0_charAt_5068e_24 : decode cJ0_charAt_5068e 24 = .ok (.ireturn, 1) := chk_nth ocJ0_charAt_5068e_0 (k := 12) rfl
def tcJ0_indexOf_0f7a4_0 : List (Instr × Nat) := [(.aload_n 0, 1), (.iload_n 1, 1), (.iconst 0, 1), (.invokevirtual 633, 3), (.ireturn, 1)]
theorem ocJ0_indexOf_0f7a4_0 : chk (cJ0_indexOf_0f7a4.data.toList.drop 0) tcJ0_indexOf_0f7a4_0 = true := by decide +kernel
theorem dJ0_indexOf_0f7a4_0 : decode cJ0_indexOf_0f7a4 0 = .ok (.aload_n 0, 1) := chk_nth ocJ0_indexOf_0f7a4_0 (k := 0) rfl
theorem dJ0_indexOf_0f7a4_1 : decode cJ0_indexOf_0f7a4 1 = .ok (.iload_n 1, 1) := chk_nth ocJ0_indexOf_0f7a4_0 (k := 1) rfl
theorem dJ0_indexOf_0f7a4_2 : decode cJ0_indexOf_0f7a4 2 = .ok (.iconst 0, 1) := chk_nth ocJ0_indexOf_0f7a4_0 (k := 2) rfl
theorem dJ0_indexOf_0f7a4_3 : decode cJ0_indexOf_0f7a4 3 = .ok (.invokevirtual 633, 3) := chk_nth ocJ0_indexOf_0f7a4_0 (k := 3) rfl
theorem dJ0_indexOf_0f7a4_6 : decode cJ0_indexOf_0f7a4 6 = .ok (.ireturn, 1) := chk_nth ocJ0_indexOf_0f7a4_0 (k := 4) rfl
def tcJ0_indexOf_7cf53_0 : List (Instr × Nat) := [(.aload_n 0, 1), (.invokevirtual 492, 3), (.ifCond .eq 19, 3), (.aload_n 0, 1), (.getfield 9, 3), (.iload_n 1, 1), (.iload_n 2, 1), (.aload_n 0, 1), (.invokevirtual 505, 3), (.invokestatic 637, 3), (.goto 16, 3), (.aload_n 0, 1), (.getfield 9, 3), (.iload_n 1, 1), (.iload_n 2, 1), (.aload_n 0, 1), (.invokevirtual 505, 3), (.invokestatic 640, 3), (.ireturn, 1)]
theorem ocJ0_indexOf_7cf53_0 : chk (cJ0_indexOf_7cf53.data.toList.drop 0) tcJ0_indexOf_7cf53_0 = true := by decide +kernel
theorem dJ0_indexOf_7cf53_0 : decode cJ0_indexOf_7cf53 0 = .ok (.aload_n 0, 1) := chk_nth ocJ0_indexOf_7cf53_0 (k := 0) rfl
theorem dJ0_indexOf_7cf53_1 : decode cJ0_indexOf_7cf53 1 = .ok (.invokevirtual 492, 3) := chk_nth ocJ0_indexOf_7cf53_0 (k := 1) rfl
theorem dJ0_indexOf_7cf53_4 : decode cJ0_indexOf_7cf53 4 = .ok (.ifCond .eq 19, 3) := chk_nth ocJ0_indexOf_7cf53_0 (k := 2) rfl
theorem dJ0_indexOf_7cf53_7 : decode cJ0_indexOf_7cf53 7 = .ok (.aload_n 0, 1) := chk_nth ocJ0_indexOf_7cf53_0 (k := 3) rfl
theorem dJ0_indexOf_7cf53_8 : decode cJ0_indexOf_7cf53 8 = .ok (.getfield 9, 3) := chk_nth ocJ0_indexOf_7cf53_0 (k := 4) rfl
theorem dJ0_indexOf_7cf53_11 : decode cJ0_indexOf_7cf53 11 = .ok (.iload_n 1, 1) := chk_nth ocJ0_indexOf_7cf53_0 (k := 5) rfl
theorem dJ0_indexOf_7cf53_12 : decode cJ0_indexOf_7cf53 12 = .ok (.iload_n 2, 1) := chk_nth ocJ0_indexOf_7cf53_0 (k := 6) rfl
theorem dJ0_indexOf_7cf53_13 : decode cJ0_indexOf_7cf53 13 = .ok (.aload_n 0, 1) := chk_nth ocJ0_indexOf_7cf53_0 (k := 7) rfl
theorem dJ0_indexOf_7cf53_14 : decode cJ0_indexOf_7cf53 14 = .ok (.invokevirtual 505, 3) := chk_nth ocJ0_indexOf_7cf53_0 (k := 8) rfl
theorem dJ0_indexOf_7cf53_17 : decode cJ0_indexOf_7cf53 17 = .ok (.invokestatic 637, 3) := chk_nth ocJ0_indexOf_7cf53_0 (k := 9) rfl
theorem dJ0_indexOf_7cf53_20 : decode cJ0_indexOf_7cf53 20 = .ok (.goto 16, 3) := chk_nth ocJ0_indexOf_7cf53_0 (k := 10) rfl
theorem dJ0_indexOf_7cf53_23 : decode cJ0_indexOf_7cf53 23 = .ok (.aload_n 0, 1) := chk_nth ocJ0_indexOf_7cf53_0 (k := 11) rfl
theorem dJ0_indexOf_7cf53_24 : decode cJ0_indexOf_7cf53 24 = .ok (.getfield 9, 3) := chk_nth ocJ0_indexOf_7cf53_0 (k := 12) rfl
theorem dJ0_indexOf_7cf53_27 : decode cJ0_indexOf_7cf53 27 = .ok (.iload_n 1, 1) := chk_nth ocJ0_indexOf_7cf53_0 (k := 13) rfl
theorem dJ0_indexOf_7cf53_28 : decode cJ0_indexOf_7cf53 28 = .ok (.iload_n 2, 1) := chk_nth ocJ0_indexOf_7cf53_0 (k := 14) rfl
theorem dJ0_indexOf_7cf53_29 : decode cJ0_indexOf_7cf53 29 = .ok (.aload_n 0, 1) := chk_nth ocJ0_indexOf_7cf53_0 (k := 15) rfl
theorem dJ0_indexOf_7cf53_30 : decode cJ0_indexOf_7cf53 30 = .ok (.invokevirtual 505, 3) := chk_nth ocJ0_indexOf_7cf53_0 (k := 16) rfl
theorem dJ0_indexOf_7cf53_33 : decode cJ0_indexOf_7cf53 33 = .ok (.invokestatic 640, 3) := chk_nth ocJ0_indexOf_7cf53_0 (k := 17) rfl
theorem dJ0_indexOf_7cf53_36 : decode cJ0_indexOf_7cf53 36 = .ok (.ireturn, 1) := chk_nth ocJ0_indexOf_7cf53_0 (k := 18) rfl
def tcJ0_coder_7d493_0 : List (Instr × Nat) := [(.getstatic 38, 3), (.ifCond .eq 10, 3), (.aload_n 0, 1), (.getfield 15, 3), (.goto 4, 3), (.iconst 1, 1), (.ireturn, 1)]
theorem ocJ0_coder_7d493_0 : chk (cJ0_coder_7d493.data.toList.drop 0) tcJ0_coder_7d493_0 = true := by decide +kernel
theorem dJ0_coder_7d493_0 : decode cJ0_coder_7d493 0 = .ok (.getstatic 38, 3) := chk_nth ocJ0_coder_7d493_0 (k := 0) rfl
theorem dJ0_coder_7d493_3 : decode cJ0_coder_7d493 3 = .ok (.ifCond .eq 10, 3) := chk_nth ocJ0_coder_7d493_0 (k := 1) rfl
theorem dJ0_coder_7d493_6 : decode cJ0_coder_7d493 6 = .ok (.aload_n 0, 1) := chk_nth ocJ0_coder_7d493_0 (k := 2) rfl
theorem dJ0_coder_7d493_7 : decode cJ0_coder_7d493 7 = .ok (.getfield 15, 3) := chk_nth ocJ0_coder_7d493_0 (k := 3) rfl
theorem dJ0_coder_7d493_10 : decode cJ0_coder_7d493 10 = .ok (.goto 4, 3) := chk_nth ocJ0_coder_7d493_0 (k := 4) rfl
theorem dJ0_coder_7d493_13 : decode cJ0_coder_7d493 13 = .ok (.iconst 1, 1) := chk_nth ocJ0_coder_7d493_0 (k := 5) rfl
theorem dJ0_coder_7d493_14 : decode cJ0_coder_7d493 14 = .ok (.ireturn, 1) := chk_nth ocJ0_coder_7d493_0 (k := 6) rfl
def tcJ0_isLatin1_aae02_0 : List (Instr × Nat) := [(.getstatic 38, 3), (.ifCond .eq 14, 3), (.aload_n 0, 1), (.getfield 15, 3), (.ifCond .ne 7, 3), (.iconst 1, 1), (.goto 4, 3), (.iconst 0, 1), (.ireturn, 1)]
theorem ocJ0_isLatin1_aae02_0 : chk (cJ0_isLatin1_aae02.data.toList.drop 0) tcJ0_isLatin1_aae02_0 = true := by decide +kernel
theorem dJ0_isLatin1_aae02_0 : decode cJ0_isLatin1_aae02 0 = .ok (.getstatic 38, 3) := chk_nth ocJ0_isLatin1_aae02_0 (k := 0) rfl
theorem dJ0_isLatin1_aae02_3 : decode cJ0_isLatin1_aae02 3 = .ok (.ifCond .eq 14, 3) := chk_nth ocJ0_isLatin1_aae02_0 (k := 1) rfl
theorem dJ0_isLatin1_aae02_6 : decode cJ0_isLatin1_aae02 6 = .ok (.aload_n 0, 1) := chk_nth ocJ0_isLatin1_aae02_0 (k := 2) rfl
theorem dJ0_isLatin1_aae02_7 : decode cJ0_isLatin1_aae02 7 = .ok (.getfield 15, 3) := chk_nth ocJ0_isLatin1_aae02_0 (k := 3) rfl
theorem dJ0_isLatin1_aae02_10 : decode cJ0_isLatin1_aae02 10 = .ok (.ifCond .ne 7, 3) := chk_nth ocJ0_isLatin1_aae02_0 (k := 4) rfl
theorem dJ0_isLatin1_aae02_13 : decode cJ0_isLatin1_aae02 13 = .ok (.iconst 1, 1) := chk_nth ocJ0_isLatin1_aae02_0 (k := 5) rfl
theorem dJ0_isLatin1_aae02_14 : decode cJ0_isLatin1_aae02 14 = .ok (.goto 4, 3) := chk_nth ocJ0_isLatin1_aae02_0 (k := 6) rfl
theorem dJ0_isLatin1_aae02_17 : decode cJ0_isLatin1_aae02 17 = .ok (.iconst 0, 1) := chk_nth ocJ0_isLatin1_aae02_0 (k := 7) rfl
theorem dJ0_isLatin1_aae02_18 : decode cJ0_isLatin1_aae02 18 = .ok (.ireturn, 1) := chk_nth ocJ0_isLatin1_aae02_0 (k := 8) rfl
def tcJ0_checkIndex_df160_0 : List (Instr × Nat) := [(.iload_n 0, 1), (.iload_n 1, 1), (.getstatic 1053, 3), (.invokestatic 1059, 3), (.pop, 1), (.return_, 1)]
theorem ocJ0_checkIndex_df160_0 : chk (cJ0_checkIndex_df160.data.toList.drop 0) tcJ0_checkIndex_df160_0 = true := by decide +kernel
theorem dJ0_checkIndex_df160_0 : decode cJ0_checkIndex_df160 0 = .ok (.iload_n 0, 1) := chk_nth ocJ0_checkIndex_df160_0 (k := 0) rfl
theorem dJ0_checkIndex_df160_1 : decode cJ0_checkIndex_df160 1 = .ok (.iload_n 1, 1) := chk_nth ocJ0_checkIndex_df160_0 (k := 1) rfl
theorem dJ0_checkIndex_df160_2 : decode cJ0_checkIndex_df160 2 = .ok (.getstatic 1053, 3) := chk_nth ocJ0_checkIndex_df160_0 (k := 2) rfl
theorem dJ0_checkIndex_df160_5 : decode cJ0_checkIndex_df160 5 = .ok (.invokestatic 1059, 3) := chk_nth ocJ0_checkIndex_df160_0 (k := 3) rfl
theorem dJ0_checkIndex_df160_8 : decode cJ0_checkIndex_df160 8 = .ok (.pop, 1) := chk_nth ocJ0_checkIndex_df160_0 (k := 4) rfl
theorem dJ0_checkIndex_df160_9 : decode cJ0_checkIndex_df160 9 = .ok (.return_, 1) := chk_nth ocJ0_checkIndex_df160_0 (k := 5) rfl
def tcJ0_checkBoundsBeginEnd_23922_0 : List (Instr × Nat) := [(.iload_n 0, 1), (.iload_n 1, 1), (.iload_n 2, 1), (.getstatic 1053, 3), (.invokestatic 1062, 3), (.pop, 1), (.return_, 1)]
theorem ocJ0_checkBoundsBeginEnd_23922_0 : chk (cJ0_checkBoundsBeginEnd_23922.data.toList.drop 0) tcJ0_checkBoundsBeginEnd_23922_0 = true := by decide +kernel
theorem dJ0_checkBoundsBeginEnd_23922_0 : decode cJ0_checkBoundsBeginEnd_23922 0 = .ok (.iload_n 0, 1) := chk_nth ocJ0_checkBoundsBeginEnd_23922_0 (k := 0) rfl
theorem dJ0_checkBoundsBeginEnd_23922_1 : decode cJ0_checkBoundsBeginEnd_23922 1 = .ok (.iload_n 1, 1) := chk_nth ocJ0_checkBoundsBeginEnd_23922_0 (k := 1) rfl
theorem dJ0_checkBoundsBeginEnd_23922_2 : decode cJ0_checkBoundsBeginEnd_23922 2 = .ok (.iload_n 2, 1) := chk_nth ocJ0_checkBoundsBeginEnd_23922_0 (k := 2) rfl
theorem dJ0_checkBoundsBeginEnd_23922_3 : decode cJ0_checkBoundsBeginEnd_23922 3 = .ok (.getstatic 1053, 3) := chk_nth ocJ0_checkBoundsBeginEnd_23922_0 (k := 3) rfl
theorem dJ0_checkBoundsBeginEnd_23922_6 : decode cJ0_checkBoundsBeginEnd_23922 6 = .ok (.invokestatic 1062, 3) := chk_nth ocJ0_checkBoundsBeginEnd_23922_0 (k := 4) rfl
theorem dJ0_checkBoundsBeginEnd_23922_9 : decode cJ0_checkBoundsBeginEnd_23922 9 = .ok (.pop, 1) := chk_nth ocJ0_checkBoundsBeginEnd_23922_0 (k := 5) rfl
theorem dJ0_checkBoundsBeginEnd_23922_10 : decode cJ0_checkBoundsBeginEnd_23922 10 = .ok (.return_, 1) := chk_nth ocJ0_checkBoundsBeginEnd_23922_0 (k := 6) rfl
def tcJ1_charAt_3b067_0 : List (Instr × Nat) := [(.iload_n 1, 1), (.aload_n 0, 1), (.arraylength, 1), (.invokestatic 9, 3), (.aload_n 0, 1), (.iload_n 1, 1), (.baload, 1), (.sipush 255, 3), (.iand, 1), (.i2c, 1), (.ireturn, 1)]
theorem ocJ1_charAt_3b067_0 : chk (cJ1_charAt_3b067.data.toList.drop 0) tcJ1_charAt_3b067_0 = true := by decide +kernel
theorem dJ1_charAt_3b067_0 : decode cJ1_charAt_3b067 0 = .ok (.iload_n 1, 1) := chk_nth ocJ1_charAt_3b067_0 (k := 0) rfl
theorem dJ1_charAt_3b067_1 : decode cJ1_charAt_3b067 1 = .ok (.aload_n 0, 1) := chk_nth ocJ1_charAt_3b067_0 (k := 1) rfl
theorem dJ1_charAt_3b067_2 : decode cJ1_charAt_3b067 2 = .ok (.arraylength, 1) := chk_nth ocJ1_charAt_3b067_0 (k := 2) rfl
theorem dJ1_charAt_3b067_3 : decode cJ1_charAt_3b067 3 = .ok (.invokestatic 9, 3) := chk_nth ocJ1_charAt_3b067_0 (k := 3) rfl
theorem dJ1_charAt_3b067_6 : decode cJ1_charAt_3b067 6 = .ok (.aload_n 0, 1) := chk_nth ocJ1_charAt_3b067_0 (k := 4) rfl
theorem dJ1_charAt_3b067_7 : decode cJ1_charAt_3b067 7 = .ok (.iload_n 1, 1) := chk_nth ocJ1_charAt_3b067_0 (k := 5) rfl
theorem dJ1_charAt_3b067_8 : decode cJ1_charAt_3b067 8 = .ok (.baload, 1) := chk_nth ocJ1_charAt_3b067_0 (k := 6) rfl
theorem dJ1_charAt_3b067_9 : decode cJ1_charAt_3b067 9 = .ok (.sipush 255, 3) := chk_nth ocJ1_charAt_3b067_0 (k := 7) rfl
theorem dJ1_charAt_3b067_12 : decode cJ1_charAt_3b067 12 = .ok (.iand, 1) := chk_nth ocJ1_charAt_3b067_0 (k := 8) rfl
theorem dJ1_charAt_3b067_13 : decode cJ1_charAt_3b067 13 = .ok (.i2c, 1) := chk_nth ocJ1_charAt_3b067_0 (k := 9) rfl
theorem dJ1_charAt_3b067_14 : decode cJ1_charAt_3b067 14 = .ok (.ireturn, 1) := chk_nth ocJ1_charAt_3b067_0 (k := 10) rfl
def tcJ1_canEncode_9a6ad_0 : List (Instr × Nat) := [(.iload_n 0, 1), (.ifCond .lt 14, 3), (.iload_n 0, 1), (.sipush 255, 3), (.if_icmp .gt 7, 3), (.iconst 1, 1), (.goto 4, 3), (.iconst 0, 1), (.ireturn, 1)]
theorem ocJ1_canEncode_9a6ad_0 : chk (cJ1_canEncode_9a6ad.data.toList.drop 0) tcJ1_canEncode_9a6ad_0 = true := by decide +kernel
theorem dJ1_canEncode_9a6ad_0 : decode cJ1_canEncode_9a6ad 0 = .ok (.iload_n 0, 1) := chk_nth ocJ1_canEncode_9a6ad_0 (k := 0) rfl
theorem dJ1_canEncode_9a6ad_1 : decode cJ1_canEncode_9a6ad 1 = .ok (.ifCond .lt 14, 3) := chk_nth ocJ1_canEncode_9a6ad_0 (k := 1) rfl
theorem dJ1_canEncode_9a6ad_4 : decode cJ1_canEncode_9a6ad 4 = .ok (.iload_n 0, 1) := chk_nth ocJ1_canEncode_9a6ad_0 (k := 2) rfl
theorem dJ1_canEncode_9a6ad_5 : decode cJ1_canEncode_9a6ad 5 = .ok (.sipush 255, 3) := chk_nth ocJ1_canEncode_9a6ad_0 (k := 3) rfl
theorem dJ1_canEncode_9a6ad_8 : decode cJ1_canEncode_9a6ad 8 = .ok (.if_icmp .gt 7, 3) := chk_nth ocJ1_canEncode_9a6ad_0 (k := 4) rfl
theorem dJ1_canEncode_9a6ad_11 : decode cJ1_canEncode_9a6ad 11 = .ok (.iconst 1, 1) := chk_nth ocJ1_canEncode_9a6ad_0 (k := 5) rfl
theorem dJ1_canEncode_9a6ad_12 : decode cJ1_canEncode_9a6ad 12 = .ok (.goto 4, 3) := chk_nth ocJ1_canEncode_9a6ad_0 (k := 6) rfl
theorem dJ1_canEncode_9a6ad_15 : decode cJ1_canEncode_9a6ad 15 = .ok (.iconst 0, 1) := chk_nth ocJ1_canEncode_9a6ad_0 (k := 7) rfl
theorem dJ1_canEncode_9a6ad_16 : decode cJ1_canEncode_9a6ad 16 = .ok (.ireturn, 1) := chk_nth ocJ1_canEncode_9a6ad_0 (k := 8) rfl
def tcJ1_indexOf_4cfef_0 : List (Instr × Nat) := [(.iload_n 1, 1), (.invokestatic 88, 3), (.ifCond .ne 5, 3), (.iconst (-1), 1), (.ireturn, 1), (.iload_n 2, 1), (.iconst 0, 1), (.invokestatic 92, 3), (.istore_n 2, 1), (.iload_n 3, 1), (.aload_n 0, 1), (.arraylength, 1), (.invokestatic 38, 3), (.istore_n 3, 1), (.iload_n 2, 1), (.iload_n 3, 1), (.if_icmp .lt 5, 3), (.iconst (-1), 1), (.ireturn, 1), (.aload_n 0, 1), (.iload_n 1, 1), (.iload_n 2, 1), (.iload_n 3, 1), (.invokestatic 95, 3)]
theorem ocJ1_indexOf_4cfef_0 : chk (cJ1_indexOf_4cfef.data.toList.drop 0) tcJ1_indexOf_4cfef_0 = true := by decide +kernel
theorem dJ1_indexOf_4cfef_0 : decode cJ1_indexOf_4cfef 0 = .ok (.iload_n 1, 1) := chk_nth ocJ1_indexOf_4cfef_0 (k := 0) rfl
theorem dJ1_indexOf_4cfef_1 : decode cJ1_indexOf_4cfef 1 = .ok (.invokestatic 88, 3) := chk_nth ocJ1_indexOf_4cfef_0 (k := 1) rfl
theorem dJ1_indexOf_4cfef_4 : decode cJ1_indexOf_4cfef 4 = .ok (.ifCond .ne 5, 3) := chk_nth ocJ1_indexOf_4cfef_0 (k := 2) rfl
theorem dJ1_indexOf_4cfef_7 : decode cJ1_indexOf_4cfef 7 = .ok (.iconst (-1), 1) := chk_nth ocJ1_indexOf_4cfef_0 (k := 3) rfl
theorem dJ1_indexOf_4cfef_8 : decode cJ1_indexOf_4cfef 8 = .ok (.ireturn, 1) := chk_nth ocJ1_indexOf_4cfef_0 (k := 4) rfl
theorem dJ1_indexOf_4cfef_9 : decode cJ1_indexOf_4cfef 9 = .ok (.iload_n 2, 1) := chk_nth ocJ1_indexOf_4cfef_0 (k := 5) rfl
theorem dJ1_indexOf_4cfef_10 : decode cJ1_indexOf_4cfef 10 = .ok (.iconst 0, 1) := chk_nth ocJ1_indexOf_4cfef_0 (k := 6) rfl
theorem dJ1_indexOf_4cfef_11 : decode cJ1_indexOf_4cfef 11 = .ok (.invokestatic 92, 3) := chk_nth ocJ1_indexOf_4cfef_0 (k := 7) rfl
theorem dJ1_indexOf_4cfef_14 : decode cJ1_indexOf_4cfef 14 = .ok (.istore_n 2, 1) := chk_nth ocJ1_indexOf_4cfef_0 (k := 8) rfl
theorem dJ1_indexOf_4cfef_15 : decode cJ1_indexOf_4cfef 15 = .ok (.iload_n 3, 1) := chk_nth ocJ1_indexOf_4cfef_0 (k := 9) rfl
theorem dJ1_indexOf_4cfef_16 : decode cJ1_indexOf_4cfef 16 = .ok (.aload_n 0, 1) := chk_nth ocJ1_indexOf_4cfef_0 (k := 10) rfl
theorem dJ1_indexOf_4cfef_17 : decode cJ1_indexOf_4cfef 17 = .ok (.arraylength, 1) := chk_nth ocJ1_indexOf_4cfef_0 (k := 11) rfl
theorem dJ1_indexOf_4cfef_18 : decode cJ1_indexOf_4cfef 18 = .ok (.invokestatic 38, 3) := chk_nth ocJ1_indexOf_4cfef_0 (k := 12) rfl
theorem dJ1_indexOf_4cfef_21 : decode cJ1_indexOf_4cfef 21 = .ok (.istore_n 3, 1) := chk_nth ocJ1_indexOf_4cfef_0 (k := 13) rfl
theorem dJ1_indexOf_4cfef_22 : decode cJ1_indexOf_4cfef 22 = .ok (.iload_n 2, 1) := chk_nth ocJ1_indexOf_4cfef_0 (k := 14) rfl
theorem dJ1_indexOf_4cfef_23 : decode cJ1_indexOf_4cfef 23 = .ok (.iload_n 3, 1) := chk_nth ocJ1_indexOf_4cfef_0 (k := 15) rfl
theorem dJ1_indexOf_4cfef_24 : decode cJ1_indexOf_4cfef 24 = .ok (.if_icmp .lt 5, 3) := chk_nth ocJ1_indexOf_4cfef_0 (k := 16) rfl
theorem dJ1_indexOf_4cfef_27 : decode cJ1_indexOf_4cfef 27 = .ok (.iconst (-1), 1) := chk_nth ocJ1_indexOf_4cfef_0 (k := 17) rfl
theorem dJ1_indexOf_4cfef_28 : decode cJ1_indexOf_4cfef 28 = .ok (.ireturn, 1) := chk_nth ocJ1_indexOf_4cfef_0 (k := 18) rfl
theorem dJ1_indexOf_4cfef_29 : decode cJ1_indexOf_4cfef 29 = .ok (.aload_n 0, 1) := chk_nth ocJ1_indexOf_4cfef_0 (k := 19) rfl
theorem dJ1_indexOf_4cfef_30 : decode cJ1_indexOf_4cfef 30 = .ok (.iload_n 1, 1) := chk_nth ocJ1_indexOf_4cfef_0 (k := 20) rfl
theorem dJ1_indexOf_4cfef_31 : decode cJ1_indexOf_4cfef 31 = .ok (.iload_n 2, 1) := chk_nth ocJ1_indexOf_4cfef_0 (k := 21) rfl
theorem dJ1_indexOf_4cfef_32 : decode cJ1_indexOf_4cfef 32 = .ok (.iload_n 3, 1) := chk_nth ocJ1_indexOf_4cfef_0 (k := 22) rfl
theorem dJ1_indexOf_4cfef_33 : decode cJ1_indexOf_4cfef 33 = .ok (.invokestatic 95, 3) := chk_nth ocJ1_indexOf_4cfef_0 (k := 23) rfl
def tcJ1_indexOf_4cfef_1 : List (Instr × Nat) := [(.ireturn, 1)]
theorem ocJ1_indexOf_4cfef_1 : chk (cJ1_indexOf_4cfef.data.toList.drop 36) tcJ1_indexOf_4cfef_1 = true := by decide +kernel
theorem dJ1_indexOf_4cfef_36 : decode cJ1_indexOf_4cfef 36 = .ok (.ireturn, 1) := chk_nth ocJ1_indexOf_4cfef_1 (k := 0) rfl
def tcJ1_indexOfChar_4cfef_0 : List (Instr × Nat) := [(.iload_n 1, 1), (.i2b, 1), (.istore 4, 2), (.iload_n 2, 1), (.istore 5, 2), (.iload 5, 2), (.iload_n 3, 1), (.if_icmp .ge 21, 3), (.aload_n 0, 1), (.iload 5, 2), (.baload, 1), (.iload 4, 2), (.if_icmp .ne 6, 3), (.iload 5, 2), (.ireturn, 1), (.iinc 5 1, 3), (.goto (-21), 3), (.iconst (-1), 1), (.ireturn, 1)]
theorem ocJ1_indexOfChar_4cfef_0 : chk (cJ1_indexOfChar_4cfef.data.toList.drop 0) tcJ1_indexOfChar_4cfef_0 = true := by decide +kernel
theorem dJ1_indexOfChar_4cfef_0 : decode cJ1_indexOfChar_4cfef 0 = .ok (.iload_n 1, 1) := chk_nth ocJ1_indexOfChar_4cfef_0 (k := 0) rfl
theorem dJ1_indexOfChar_4cfef_1 : decode cJ1_indexOfChar_4cfef 1 = .ok (.i2b, 1) := chk_nth ocJ1_indexOfChar_4cfef_0 (k := 1) rfl
theorem dJ1_indexOfChar_4cfef_2 : decode cJ1_indexOfChar_4cfef 2 = .ok (.istore 4, 2) := chk_nth ocJ1_indexOfChar_4cfef_0 (k := 2) rfl
theorem dJ1_indexOfChar_4cfef_4 : decode cJ1_indexOfChar_4cfef 4 = .ok (.iload_n 2, 1) := chk_nth ocJ1_indexOfChar_4cfef_0 (k := 3) rfl
theorem dJ1_indexOfChar_4cfef_5 : decode cJ1_indexOfChar_4cfef 5 = .ok (.istore 5, 2) := chk_nth ocJ1_indexOfChar_4cfef_0 (k := 4) rfl
theorem dJ1_indexOfChar_4cfef_7 : decode cJ1_indexOfChar_4cfef 7 = .ok (.iload 5, 2) := chk_nth ocJ1_indexOfChar_4cfef_0 (k := 5) rfl
theorem dJ1_indexOfChar_4cfef_9 : decode cJ1_indexOfChar_4cfef 9 = .ok (.iload_n 3, 1) := chk_nth ocJ1_indexOfChar_4cfef_0 (k := 6) rfl
theorem dJ1_indexOfChar_4cfef_10 : decode cJ1_indexOfChar_4cfef 10 = .ok (.if_icmp .ge 21, 3) := chk_nth ocJ1_indexOfChar_4cfef_0 (k := 7) rfl
theorem dJ1_indexOfChar_4cfef_13 : decode cJ1_indexOfChar_4cfef 13 = .ok (.aload_n 0, 1) := chk_nth ocJ1_indexOfChar_4cfef_0 (k := 8) rfl
theorem dJ1_indexOfChar_4cfef_14 : decode cJ1_indexOfChar_4cfef 14 = .ok (.iload 5, 2) := chk_nth ocJ1_indexOfChar_4cfef_0 (k := 9) rfl
theorem dJ1_indexOfChar_4cfef_16 : decode cJ1_indexOfChar_4cfef 16 = .ok (.baload, 1) := chk_nth ocJ1_indexOfChar_4cfef_0 (k := 10) rfl
theorem dJ1_indexOfChar_4cfef_17 : decode cJ1_indexOfChar_4cfef 17 = .ok (.iload 4, 2) := chk_nth ocJ1_indexOfChar_4cfef_0 (k := 11) rfl
theorem dJ1_indexOfChar_4cfef_19 : decode cJ1_indexOfChar_4cfef 19 = .ok (.if_icmp .ne 6, 3) := chk_nth ocJ1_indexOfChar_4cfef_0 (k := 12) rfl
theorem dJ1_indexOfChar_4cfef_22 : decode cJ1_indexOfChar_4cfef 22 = .ok (.iload 5, 2) := chk_nth ocJ1_indexOfChar_4cfef_0 (k := 13) rfl
theorem dJ1_indexOfChar_4cfef_24 : decode cJ1_indexOfChar_4cfef 24 = .ok (.ireturn, 1) := chk_nth ocJ1_indexOfChar_4cfef_0 (k := 14) rfl
theorem dJ1_indexOfChar_4cfef_25 : decode cJ1_indexOfChar_4cfef 25 = .ok (.iinc 5 1, 3) := chk_nth ocJ1_indexOfChar_4cfef_0 (k := 15) rfl
theorem dJ1_indexOfChar_4cfef_28 : decode cJ1_indexOfChar_4cfef 28 = .ok (.goto (-21), 3) := chk_nth ocJ1_indexOfChar_4cfef_0 (k := 16) rfl
theorem dJ1_indexOfChar_4cfef_31 : decode cJ1_indexOfChar_4cfef 31 = .ok (.iconst (-1), 1) := chk_nth ocJ1_indexOfChar_4cfef_0 (k := 17) rfl
theorem dJ1_indexOfChar_4cfef_32 : decode cJ1_indexOfChar_4cfef 32 = .ok (.ireturn, 1) := chk_nth ocJ1_indexOfChar_4cfef_0 (k := 18) rfl
def tcJ2_getChar_3b067_0 : List (Instr × Nat) := [(.getstatic 44, 3), (.ifCond .ne 25, 3), (.iload_n 1, 1), (.ifCond .lt 11, 3), (.iload_n 1, 1), (.aload_n 0, 1), (.invokestatic 48, 3), (.if_icmp .lt 13, 3), (.new 52, 3), (.dup, 1), (.ldc 54, 2), (.invokespecial 56, 3), (.athrow, 1), (.iload_n 1, 1), (.iconst 1, 1), (.ishl, 1), (.istore_n 1, 1), (.aload_n 0, 1), (.iload_n 1, 1), (.iinc 1 1, 3), (.baload, 1), (.sipush 255, 3), (.iand, 1), (.getstatic 59, 3)]
theorem ocJ2_getChar_3b067_0 : chk (cJ2_getChar_3b067.data.toList.drop 0) tcJ2_getChar_3b067_0 = true := by decide +kernel
theorem dJ2_getChar_3b067_0 : decode cJ2_getChar_3b067 0 = .ok (.getstatic 44, 3) := chk_nth ocJ2_getChar_3b067_0 (k := 0) rfl
theorem dJ2_getChar_3b067_3 : decode cJ2_getChar_3b067 3 = .ok (.ifCond .ne 25, 3) := chk_nth ocJ2_getChar_3b067_0 (k := 1) rfl
theorem dJ2_getChar_3b067_6 : decode cJ2_getChar_3b067 6 = .ok (.iload_n 1, 1) := chk_nth ocJ2_getChar_3b067_0 (k := 2) rfl
theorem dJ2_getChar_3b067_7 : decode cJ2_getChar_3b067 7 = .ok (.ifCond .lt 11, 3) := chk_nth ocJ2_getChar_3b067_0 (k := 3) rfl
theorem dJ2_getChar_3b067_10 : decode cJ2_getChar_3b067 10 = .ok (.iload_n 1, 1) := chk_nth ocJ2_getChar_3b067_0 (k := 4) rfl
theorem dJ2_getChar_3b067_11 : decode cJ2_getChar_3b067 11 = .ok (.aload_n 0, 1) := chk_nth ocJ2_getChar_3b067_0 (k := 5) rfl
theorem dJ2_getChar_3b067_12 : decode cJ2_getChar_3b067 12 = .ok (.invokestatic 48, 3) := chk_nth ocJ2_getChar_3b067_0 (k := 6) rfl
theorem dJ2_getChar_3b067_15 : decode cJ2_getChar_3b067 15 = .ok (.if_icmp .lt 13, 3) := chk_nth ocJ2_getChar_3b067_0 (k := 7) rfl
theorem dJ2_getChar_3b067_18 : decode cJ2_getChar_3b067 18 = .ok (.new 52, 3) := chk_nth ocJ2_getChar_3b067_0 (k := 8) rfl
theorem dJ2_getChar_3b067_21 : decode cJ2_getChar_3b067 21 = .ok (.dup, 1) := chk_nth ocJ2_getChar_3b067_0 (k := 9) rfl
theorem dJ2_getChar_3b067_22 : decode cJ2_getChar_3b067 22 = .ok (.ldc 54, 2) := chk_nth ocJ2_getChar_3b067_0 (k := 10) rfl
theorem dJ2_getChar_3b067_24 : decode cJ2_getChar_3b067 24 = .ok (.invokespecial 56, 3) := chk_nth ocJ2_getChar_3b067_0 (k := 11) rfl
theorem dJ2_getChar_3b067_27 : decode cJ2_getChar_3b067 27 = .ok (.athrow, 1) := chk_nth ocJ2_getChar_3b067_0 (k := 12) rfl
theorem dJ2_getChar_3b067_28 : decode cJ2_getChar_3b067 28 = .ok (.iload_n 1, 1) := chk_nth ocJ2_getChar_3b067_0 (k := 13) rfl
theorem dJ2_getChar_3b067_29 : decode cJ2_getChar_3b067 29 = .ok (.iconst 1, 1) := chk_nth ocJ2_getChar_3b067_0 (k := 14) rfl
theorem dJ2_getChar_3b067_30 : decode cJ2_getChar_3b067 30 = .ok (.ishl, 1) := chk_nth ocJ2_getChar_3b067_0 (k := 15) rfl
theorem dJ2_getChar_3b067_31 : decode cJ2_getChar_3b067 31 = .ok (.istore_n 1, 1) := chk_nth ocJ2_getChar_3b067_0 (k := 16) rfl
theorem dJ2_getChar_3b067_32 : decode cJ2_getChar_3b067 32 = .ok (.aload_n 0, 1) := chk_nth ocJ2_getChar_3b067_0 (k := 17) rfl
theorem dJ2_getChar_3b067_33 : decode cJ2_getChar_3b067 33 = .ok (.iload_n 1, 1) := chk_nth ocJ2_getChar_3b067_0 (k := 18) rfl
theorem dJ2_getChar_3b067_34 : decode cJ2_getChar_3b067 34 = .ok (.iinc 1 1, 3) := chk_nth ocJ2_getChar_3b067_0 (k := 19) rfl
theorem dJ2_getChar_3b067_37 : decode cJ2_getChar_3b067 37 = .ok (.baload, 1) := chk_nth ocJ2_getChar_3b067_0 (k := 20) rfl
theorem dJ2_getChar_3b067_38 : decode cJ2_getChar_3b067 38 = .ok (.sipush 255, 3) := chk_nth ocJ2_getChar_3b067_0 (k := 21) rfl
theorem dJ2_getChar_3b067_41 : decode cJ2_getChar_3b067 41 = .ok (.iand, 1) := chk_nth ocJ2_getChar_3b067_0 (k := 22) rfl
theorem dJ2_getChar_3b067_42 : decode cJ2_getChar_3b067 42 = .ok (.getstatic 59, 3) := chk_nth ocJ2_getChar_3b067_0 (k := 23) rfl
def tcJ2_getChar_3b067_1 : List (Instr × Nat) := [(.ishl, 1), (.aload_n 0, 1), (.iload_n 1, 1), (.baload, 1), (.sipush 255, 3), (.iand, 1), (.getstatic 63, 3), (.ishl, 1), (.ior, 1), (.i2c, 1), (.ireturn, 1)]
theorem ocJ2_getChar_3b067_1 : chk (cJ2_getChar_3b067.data.toList.drop 45) tcJ2_getChar_3b067_1 = true := by decide +kernel
theorem dJ2_getChar_3b067_45 : decode cJ2_getChar_3b067 45 = .ok (.ishl, 1) := chk_nth ocJ2_getChar_3b067_1 (k := 0) rfl
theorem dJ2_getChar_3b067_46 : decode cJ2_getChar_3b067 46 = .ok (.aload_n 0, 1) := chk_nth ocJ2_getChar_3b067_1 (k := 1) rfl
theorem dJ2_getChar_3b067_47 : decode cJ2_getChar_3b067 47 = .ok (.iload_n 1, 1) := chk_nth ocJ2_getChar_3b067_1 (k := 2) rfl
theorem dJ2_getChar_3b067_48 : decode cJ2_getChar_3b067 48 = .ok (.baload, 1) := chk_nth ocJ2_getChar_3b067_1 (k := 3) rfl
theorem dJ2_getChar_3b067_49 : decode cJ2_getChar_3b067 49 = .ok (.sipush 255, 3) := chk_nth ocJ2_getChar_3b067_1 (k := 4) rfl
theorem dJ2_getChar_3b067_52 : decode cJ2_getChar_3b067 52 = .ok (.iand, 1) := chk_nth ocJ2_getChar_3b067_1 (k := 5) rfl
theorem dJ2_getChar_3b067_53 : decode cJ2_getChar_3b067 53 = .ok (.getstatic 63, 3) := chk_nth ocJ2_getChar_3b067_1 (k := 6) rfl
theorem dJ2_getChar_3b067_56 : decode cJ2_getChar_3b067 56 = .ok (.ishl, 1) := chk_nth ocJ2_getChar_3b067_1 (k := 7) rfl
theorem dJ2_getChar_3b067_57 : decode cJ2_getChar_3b067 57 = .ok (.ior, 1) := chk_nth ocJ2_getChar_3b067_1 (k := 8) rfl
theorem dJ2_getChar_3b067_58 : decode cJ2_getChar_3b067 58 = .ok (.i2c, 1) := chk_nth ocJ2_getChar_3b067_1 (k := 9) rfl
theorem dJ2_getChar_3b067_59 : decode cJ2_getChar_3b067 59 = .ok (.ireturn, 1) := chk_nth ocJ2_getChar_3b067_1 (k := 10) rfl
def tcJ2_length_9d52b_0 : List (Instr × Nat) := [(.aload_n 0, 1), (.arraylength, 1), (.iconst 1, 1), (.ishr, 1), (.ireturn, 1)]
theorem ocJ2_length_9d52b_0 : chk (cJ2_length_9d52b.data.toList.drop 0) tcJ2_length_9d52b_0 = true := by decide +kernel
theorem dJ2_length_9d52b_0 : decode cJ2_length_9d52b 0 = .ok (.aload_n 0, 1) := chk_nth ocJ2_length_9d52b_0 (k := 0) rfl
theorem dJ2_length_9d52b_1 : decode cJ2_length_9d52b 1 = .ok (.arraylength, 1) := chk_nth ocJ2_length_9d52b_0 (k := 1) rfl
theorem dJ2_length_9d52b_2 : decode cJ2_length_9d52b 2 = .ok (.iconst 1, 1) := chk_nth ocJ2_length_9d52b_0 (k := 2) rfl
theorem dJ2_length_9d52b_3 : decode cJ2_length_9d52b 3 = .ok (.ishr, 1) := chk_nth ocJ2_length_9d52b_0 (k := 3) rfl
theorem dJ2_length_9d52b_4 : decode cJ2_length_9d52b 4 = .ok (.ireturn, 1) := chk_nth ocJ2_length_9d52b_0 (k := 4) rfl
def tcJ2_indexOf_4cfef_0 : List (Instr × Nat) := [(.iload_n 2, 1), (.iconst 0, 1), (.invokestatic 224, 3), (.istore_n 2, 1), (.iload_n 3, 1), (.aload_n 0, 1), (.arraylength, 1), (.iconst 1, 1), (.ishr, 1), (.invokestatic 183, 3), (.istore_n 3, 1), (.iload_n 2, 1), (.iload_n 3, 1), (.if_icmp .lt 5, 3), (.iconst (-1), 1), (.ireturn, 1), (.iload_n 1, 1), (.ldc 227, 2), (.if_icmp .ge 11, 3), (.aload_n 0, 1), (.iload_n 1, 1), (.iload_n 2, 1), (.iload_n 3, 1), (.invokestatic 228, 3)]
theorem ocJ2_indexOf_4cfef_0 : chk (cJ2_indexOf_4cfef.data.toList.drop 0) tcJ2_indexOf_4cfef_0 = true := by decide +kernel
theorem dJ2_indexOf_4cfef_0 : decode cJ2_indexOf_4cfef 0 = .ok (.iload_n 2, 1) := chk_nth ocJ2_indexOf_4cfef_0 (k := 0) rfl
theorem dJ2_indexOf_4cfef_1 : decode cJ2_indexOf_4cfef 1 = .ok (.iconst 0, 1) := chk_nth ocJ2_indexOf_4cfef_0 (k := 1) rfl
theorem dJ2_indexOf_4cfef_2 : decode cJ2_indexOf_4cfef 2 = .ok (.invokestatic 224, 3) := chk_nth ocJ2_indexOf_4cfef_0 (k := 2) rfl
theorem dJ2_indexOf_4cfef_5 : decode cJ2_indexOf_4cfef 5 = .ok (.istore_n 2, 1) := chk_nth ocJ2_indexOf_4cfef_0 (k := 3) rfl
theorem dJ2_indexOf_4cfef_6 : decode cJ2_indexOf_4cfef 6 = .ok (.iload_n 3, 1) := chk_nth ocJ2_indexOf_4cfef_0 (k := 4) rfl
theorem dJ2_indexOf_4cfef_7 : decode cJ2_indexOf_4cfef 7 = .ok (.aload_n 0, 1) := chk_nth ocJ2_indexOf_4cfef_0 (k := 5) rfl
theorem dJ2_indexOf_4cfef_8 : decode cJ2_indexOf_4cfef 8 = .ok (.arraylength, 1) := chk_nth ocJ2_indexOf_4cfef_0 (k := 6) rfl
theorem dJ2_indexOf_4cfef_9 : decode cJ2_indexOf_4cfef 9 = .ok (.iconst 1, 1) := chk_nth ocJ2_indexOf_4cfef_0 (k := 7) rfl
theorem dJ2_indexOf_4cfef_10 : decode cJ2_indexOf_4cfef 10 = .ok (.ishr, 1) := chk_nth ocJ2_indexOf_4cfef_0 (k := 8) rfl
theorem dJ2_indexOf_4cfef_11 : decode cJ2_indexOf_4cfef 11 = .ok (.invokestatic 183, 3) := chk_nth ocJ2_indexOf_4cfef_0 (k := 9) rfl
theorem dJ2_indexOf_4cfef_14 : decode cJ2_indexOf_4cfef 14 = .ok (.istore_n 3, 1) := chk_nth ocJ2_indexOf_4cfef_0 (k := 10) rfl
theorem dJ2_indexOf_4cfef_15 : decode cJ2_indexOf_4cfef 15 = .ok (.iload_n 2, 1) := chk_nth ocJ2_indexOf_4cfef_0 (k := 11) rfl
theorem dJ2_indexOf_4cfef_16 : decode cJ2_indexOf_4cfef 16 = .ok (.iload_n 3, 1) := chk_nth ocJ2_indexOf_4cfef_0 (k := 12) rfl
theorem dJ2_indexOf_4cfef_17 : decode cJ2_indexOf_4cfef 17 = .ok (.if_icmp .lt 5, 3) := chk_nth ocJ2_indexOf_4cfef_0 (k := 13) rfl
theorem dJ2_indexOf_4cfef_20 : decode cJ2_indexOf_4cfef 20 = .ok (.iconst (-1), 1) := chk_nth ocJ2_indexOf_4cfef_0 (k := 14) rfl
theorem dJ2_indexOf_4cfef_21 : decode cJ2_indexOf_4cfef 21 = .ok (.ireturn, 1) := chk_nth ocJ2_indexOf_4cfef_0 (k := 15) rfl
theorem dJ2_indexOf_4cfef_22 : decode cJ2_indexOf_4cfef 22 = .ok (.iload_n 1, 1) := chk_nth ocJ2_indexOf_4cfef_0 (k := 16) rfl
theorem dJ2_indexOf_4cfef_23 : decode cJ2_indexOf_4cfef 23 = .ok (.ldc 227, 2) := chk_nth ocJ2_indexOf_4cfef_0 (k := 17) rfl
theorem dJ2_indexOf_4cfef_25 : decode cJ2_indexOf_4cfef 25 = .ok (.if_icmp .ge 11, 3) := chk_nth ocJ2_indexOf_4cfef_0 (k := 18) rfl
theorem dJ2_indexOf_4cfef_28 : decode cJ2_indexOf_4cfef 28 = .ok (.aload_n 0, 1) := chk_nth ocJ2_indexOf_4cfef_0 (k := 19) rfl
theorem dJ2_indexOf_4cfef_29 : decode cJ2_indexOf_4cfef 29 = .ok (.iload_n 1, 1) := chk_nth ocJ2_indexOf_4cfef_0 (k := 20) rfl
theorem dJ2_indexOf_4cfef_30 : decode cJ2_indexOf_4cfef 30 = .ok (.iload_n 2, 1) := chk_nth ocJ2_indexOf_4cfef_0 (k := 21) rfl
theorem dJ2_indexOf_4cfef_31 : decode cJ2_indexOf_4cfef 31 = .ok (.iload_n 3, 1) := chk_nth ocJ2_indexOf_4cfef_0 (k := 22) rfl
theorem dJ2_indexOf_4cfef_32 : decode cJ2_indexOf_4cfef 32 = .ok (.invokestatic 228, 3) := chk_nth ocJ2_indexOf_4cfef_0 (k := 23) rfl
def tcJ2_indexOf_4cfef_1 : List (Instr × Nat) := [(.ireturn, 1), (.aload_n 0, 1), (.iload_n 1, 1), (.iload_n 2, 1), (.iload_n 3, 1), (.invokestatic 232, 3), (.ireturn, 1)]
theorem ocJ2_indexOf_4cfef_1 : chk (cJ2_indexOf_4cfef.data.toList.drop 35) tcJ2_indexOf_4cfef_1 = true := by decide +kernel
theorem dJ2_indexOf_4cfef_35 : decode cJ2_indexOf_4cfef 35 = .ok (.ireturn, 1) := chk_nth ocJ2_indexOf_4cfef_1 (k := 0) rfl
theorem dJ2_indexOf_4cfef_36 : decode cJ2_indexOf_4cfef 36 = .ok (.aload_n 0, 1) := chk_nth ocJ2_indexOf_4cfef_1 (k := 1) rfl
theorem dJ2_indexOf_4cfef_37 : decode cJ2_indexOf_4cfef 37 = .ok (.iload_n 1, 1) := chk_nth ocJ2_indexOf_4cfef_1 (k := 2) rfl
theorem dJ2_indexOf_4cfef_38 : decode cJ2_indexOf_4cfef 38 = .ok (.iload_n 2, 1) := chk_nth ocJ2_indexOf_4cfef_1 (k := 3) rfl
theorem dJ2_indexOf_4cfef_39 : decode cJ2_indexOf_4cfef 39 = .ok (.iload_n 3, 1) := chk_nth ocJ2_indexOf_4cfef_1 (k := 4) rfl
theorem dJ2_indexOf_4cfef_40 : decode cJ2_indexOf_4cfef 40 = .ok (.invokestatic 232, 3) := chk_nth ocJ2_indexOf_4cfef_1 (k := 5) rfl
theorem dJ2_indexOf_4cfef_43 : decode cJ2_indexOf_4cfef 43 = .ok (.ireturn, 1) := chk_nth ocJ2_indexOf_4cfef_1 (k := 6) rfl
def tcJ2_indexOfChar_4cfef_0 : List (Instr × Nat) := [(.iload_n 2, 1), (.iload_n 3, 1), (.aload_n 0, 1), (.invokestatic 96, 3), (.aload_n 0, 1), (.iload_n 1, 1), (.iload_n 2, 1), (.iload_n 3, 1), (.invokestatic 244, 3), (.ireturn, 1)]
theorem ocJ2_indexOfChar_4cfef_0 : chk (cJ2_indexOfChar_4cfef.data.toList.drop 0) tcJ2_indexOfChar_4cfef_0 = true := by decide +kernel
theorem dJ2_indexOfChar_4cfef_0 : decode cJ2_indexOfChar_4cfef 0 = .ok (.iload_n 2, 1) := chk_nth ocJ2_indexOfChar_4cfef_0 (k := 0) rfl
theorem dJ2_indexOfChar_4cfef_1 : decode cJ2_indexOfChar_4cfef 1 = .ok (.iload_n 3, 1) := chk_nth ocJ2_indexOfChar_4cfef_0 (k := 1) rfl
theorem dJ2_indexOfChar_4cfef_2 : decode cJ2_indexOfChar_4cfef 2 = .ok (.aload_n 0, 1) := chk_nth ocJ2_indexOfChar_4cfef_0 (k := 2) rfl
theorem dJ2_indexOfChar_4cfef_3 : decode cJ2_indexOfChar_4cfef 3 = .ok (.invokestatic 96, 3) := chk_nth ocJ2_indexOfChar_4cfef_0 (k := 3) rfl
theorem dJ2_indexOfChar_4cfef_6 : decode cJ2_indexOfChar_4cfef 6 = .ok (.aload_n 0, 1) := chk_nth ocJ2_indexOfChar_4cfef_0 (k := 4) rfl
theorem dJ2_indexOfChar_4cfef_7 : decode cJ2_indexOfChar_4cfef 7 = .ok (.iload_n 1, 1) := chk_nth ocJ2_indexOfChar_4cfef_0 (k := 5) rfl
theorem dJ2_indexOfChar_4cfef_8 : decode cJ2_indexOfChar_4cfef 8 = .ok (.iload_n 2, 1) := chk_nth ocJ2_indexOfChar_4cfef_0 (k := 6) rfl
theorem dJ2_indexOfChar_4cfef_9 : decode cJ2_indexOfChar_4cfef 9 = .ok (.iload_n 3, 1) := chk_nth ocJ2_indexOfChar_4cfef_0 (k := 7) rfl
theorem dJ2_indexOfChar_4cfef_10 : decode cJ2_indexOfChar_4cfef 10 = .ok (.invokestatic 244, 3) := chk_nth ocJ2_indexOfChar_4cfef_0 (k := 8) rfl
theorem dJ2_indexOfChar_4cfef_13 : decode cJ2_indexOfChar_4cfef 13 = .ok (.ireturn, 1) := chk_nth ocJ2_indexOfChar_4cfef_0 (k := 9) rfl
def tcJ2_indexOfCharUnsafe_4cfef_0 : List (Instr × Nat) := [(.iload_n 2, 1), (.istore 4, 2), (.iload 4, 2), (.iload_n 3, 1), (.if_icmp .ge 22, 3), (.aload_n 0, 1), (.iload 4, 2), (.invokestatic 71, 3), (.iload_n 1, 1), (.if_icmp .ne 6, 3), (.iload 4, 2), (.ireturn, 1), (.iinc 4 1, 3), (.goto (-22), 3), (.iconst (-1), 1), (.ireturn, 1)]
theorem ocJ2_indexOfCharUnsafe_4cfef_0 : chk (cJ2_indexOfCharUnsafe_4cfef.data.toList.drop 0) tcJ2_indexOfCharUnsafe_4cfef_0 = true := by decide +kernel
theorem dJ2_indexOfCharUnsafe_4cfef_0 : decode cJ2_indexOfCharUnsafe_4cfef 0 = .ok (.iload_n 2, 1) := chk_nth ocJ2_indexOfCharUnsafe_4cfef_0 (k := 0) rfl
theorem dJ2_indexOfCharUnsafe_4cfef_1 : decode cJ2_indexOfCharUnsafe_4cfef 1 = .ok (.istore 4, 2) := chk_nth ocJ2_indexOfCharUnsafe_4cfef_0 (k := 1) rfl
theorem dJ2_indexOfCharUnsafe_4cfef_3 : decode cJ2_indexOfCharUnsafe_4cfef 3 = .ok (.iload 4, 2) := chk_nth ocJ2_indexOfCharUnsafe_4cfef_0 (k := 2) rfl
theorem dJ2_indexOfCharUnsafe_4cfef_5 : decode cJ2_indexOfCharUnsafe_4cfef 5 = .ok (.iload_n 3, 1) := chk_nth ocJ2_indexOfCharUnsafe_4cfef_0 (k := 3) rfl
theorem dJ2_indexOfCharUnsafe_4cfef_6 : decode cJ2_indexOfCharUnsafe_4cfef 6 = .ok (.if_icmp .ge 22, 3) := chk_nth ocJ2_indexOfCharUnsafe_4cfef_0 (k := 4) rfl
theorem dJ2_indexOfCharUnsafe_4cfef_9 : decode cJ2_indexOfCharUnsafe_4cfef 9 = .ok (.aload_n 0, 1) := chk_nth ocJ2_indexOfCharUnsafe_4cfef_0 (k := 5) rfl
theorem dJ2_indexOfCharUnsafe_4cfef_10 : decode cJ2_indexOfCharUnsafe_4cfef 10 = .ok (.iload 4, 2) := chk_nth ocJ2_indexOfCharUnsafe_4cfef_0 (k := 6) rfl
theorem dJ2_indexOfCharUnsafe_4cfef_12 : decode cJ2_indexOfCharUnsafe_4cfef 12 = .ok (.invokestatic 71, 3) := chk_nth ocJ2_indexOfCharUnsafe_4cfef_0 (k := 7) rfl
theorem dJ2_indexOfCharUnsafe_4cfef_15 : decode cJ2_indexOfCharUnsafe_4cfef 15 = .ok (.iload_n 1, 1) := chk_nth ocJ2_indexOfCharUnsafe_4cfef_0 (k := 8) rfl
theorem dJ2_indexOfCharUnsafe_4cfef_16 : decode cJ2_indexOfCharUnsafe_4cfef 16 = .ok (.if_icmp .ne 6, 3) := chk_nth ocJ2_indexOfCharUnsafe_4cfef_0 (k := 9) rfl
theorem dJ2_indexOfCharUnsafe_4cfef_19 : decode cJ2_indexOfCharUnsafe_4cfef 19 = .ok (.iload 4, 2) := chk_nth ocJ2_indexOfCharUnsafe_4cfef_0 (k := 10) rfl
theorem dJ2_indexOfCharUnsafe_4cfef_21 : decode cJ2_indexOfCharUnsafe_4cfef 21 = .ok (.ireturn, 1) := chk_nth ocJ2_indexOfCharUnsafe_4cfef_0 (k := 11) rfl
theorem dJ2_indexOfCharUnsafe_4cfef_22 : decode cJ2_indexOfCharUnsafe_4cfef 22 = .ok (.iinc 4 1, 3) := chk_nth ocJ2_indexOfCharUnsafe_4cfef_0 (k := 12) rfl
theorem dJ2_indexOfCharUnsafe_4cfef_25 : decode cJ2_indexOfCharUnsafe_4cfef 25 = .ok (.goto (-22), 3) := chk_nth ocJ2_indexOfCharUnsafe_4cfef_0 (k := 13) rfl
theorem dJ2_indexOfCharUnsafe_4cfef_28 : decode cJ2_indexOfCharUnsafe_4cfef 28 = .ok (.iconst (-1), 1) := chk_nth ocJ2_indexOfCharUnsafe_4cfef_0 (k := 14) rfl
theorem dJ2_indexOfCharUnsafe_4cfef_29 : decode cJ2_indexOfCharUnsafe_4cfef 29 = .ok (.ireturn, 1) := chk_nth ocJ2_indexOfCharUnsafe_4cfef_0 (k := 15) rfl
def tcJ2_indexOfSupplementary_4cfef_0 : List (Instr × Nat) := [(.iload_n 1, 1), (.invokestatic 164, 3), (.ifCond .eq 65, 3), (.iload_n 1, 1), (.invokestatic 157, 3), (.istore 4, 2), (.iload_n 1, 1), (.invokestatic 161, 3), (.istore 5, 2), (.iload_n 2, 1), (.iload_n 3, 1), (.aload_n 0, 1), (.invokestatic 96, 3), (.iload_n 2, 1), (.istore 6, 2), (.iload 6, 2), (.iload_n 3, 1), (.iconst 1, 1), (.isub, 1), (.if_icmp .ge 36, 3), (.aload_n 0, 1), (.iload 6, 2), (.invokestatic 71, 3), (.iload 4, 2)]
theorem ocJ2_indexOfSupplementary_4cfef_0 : chk (cJ2_indexOfSupplementary_4cfef.data.toList.drop 0) tcJ2_indexOfSupplementary_4cfef_0 = true := by decide +kernel
theorem dJ2_indexOfSupplementary_4cfef_0 : decode cJ2_indexOfSupplementary_4cfef 0 = .ok (.iload_n 1, 1) := chk_nth ocJ2_indexOfSupplementary_4cfef_0 (k := 0) rfl
theorem dJ2_indexOfSupplementary_4cfef_1 : decode cJ2_indexOfSupplementary_4cfef 1 = .ok (.invokestatic 164, 3) := chk_nth ocJ2_indexOfSupplementary_4cfef_0 (k := 1) rfl
theorem dJ2_indexOfSupplementary_4cfef_4 : decode cJ2_indexOfSupplementary_4cfef 4 = .ok (.ifCond .eq 65, 3) := chk_nth ocJ2_indexOfSupplementary_4cfef_0 (k := 2) rfl
theorem dJ2_indexOfSupplementary_4cfef_7 : decode cJ2_indexOfSupplementary_4cfef 7 = .ok (.iload_n 1, 1) := chk_nth ocJ2_indexOfSupplementary_4cfef_0 (k := 3) rfl
theorem dJ2_indexOfSupplementary_4cfef_8 : decode cJ2_indexOfSupplementary_4cfef 8 = .ok (.invokestatic 157, 3) := chk_nth ocJ2_indexOfSupplementary_4cfef_0 (k := 4) rfl
theorem dJ2_indexOfSupplementary_4cfef_11 : decode cJ2_indexOfSupplementary_4cfef 11 = .ok (.istore 4, 2) := chk_nth ocJ2_indexOfSupplementary_4cfef_0 (k := 5) rfl
theorem dJ2_indexOfSupplementary_4cfef_13 : decode cJ2_indexOfSupplementary_4cfef 13 = .ok (.iload_n 1, 1) := chk_nth ocJ2_indexOfSupplementary_4cfef_0 (k := 6) rfl
theorem dJ2_indexOfSupplementary_4cfef_14 : decode cJ2_indexOfSupplementary_4cfef 14 = .ok (.invokestatic 161, 3) := chk_nth ocJ2_indexOfSupplementary_4cfef_0 (k := 7) rfl
theorem dJ2_indexOfSupplementary_4cfef_17 : decode cJ2_indexOfSupplementary_4cfef 17 = .ok (.istore 5, 2) := chk_nth ocJ2_indexOfSupplementary_4cfef_0 (k := 8) rfl
theorem dJ2_indexOfSupplementary_4cfef_19 : decode cJ2_indexOfSupplementary_4cfef 19 = .ok (.iload_n 2, 1) := chk_nth ocJ2_indexOfSupplementary_4cfef_0 (k := 9) rfl
theorem dJ2_indexOfSupplementary_4cfef_20 : decode cJ2_indexOfSupplementary_4cfef 20 = .ok (.iload_n 3, 1) := chk_nth ocJ2_indexOfSupplementary_4cfef_0 (k := 10) rfl
theorem dJ2_indexOfSupplementary_4cfef_21 : decode cJ2_indexOfSupplementary_4cfef 21 = .ok (.aload_n 0, 1) := chk_nth ocJ2_indexOfSupplementary_4cfef_0 (k := 11) rfl
theorem dJ2_indexOfSupplementary_4cfef_22 : decode cJ2_indexOfSupplementary_4cfef 22 = .ok (.invokestatic 96, 3) := chk_nth ocJ2_indexOfSupplementary_4cfef_0 (k := 12) rfl
theorem dJ2_indexOfSupplementary_4cfef_25 : decode cJ2_indexOfSupplementary_4cfef 25 = .ok (.iload_n 2, 1) := chk_nth ocJ2_indexOfSupplementary_4cfef_0 (k := 13) rfl
theorem dJ2_indexOfSupplementary_4cfef_26 : decode cJ2_indexOfSupplementary_4cfef 26 = .ok (.istore 6, 2) := chk_nth ocJ2_indexOfSupplementary_4cfef_0 (k := 14) rfl
theorem dJ2_indexOfSupplementary_4cfef_28 : decode cJ2_indexOfSupplementary_4cfef 28 = .ok (.iload 6, 2) := chk_nth ocJ2_indexOfSupplementary_4cfef_0 (k := 15) rfl
theorem dJ2_indexOfSupplementary_4cfef_30 : decode cJ2_indexOfSupplementary_4cfef 30 = .ok (.iload_n 3, 1) := chk_nth ocJ2_indexOfSupplementary_4cfef_0 (k := 16) rfl
theorem dJ2_indexOfSupplementary_4cfef_31 : decode cJ2_indexOfSupplementary_4cfef 31 = .ok (.iconst 1, 1) := chk_nth ocJ2_indexOfSupplementary_4cfef_0 (k := 17) rfl
theorem dJ2_indexOfSupplementary_4cfef_32 : decode cJ2_indexOfSupplementary_4cfef 32 = .ok (.isub, 1) := chk_nth ocJ2_indexOfSupplementary_4cfef_0 (k := 18) rfl
theorem dJ2_indexOfSupplementary_4cfef_33 : decode cJ2_indexOfSupplementary_4cfef 33 = .ok (.if_icmp .ge 36, 3) := chk_nth ocJ2_indexOfSupplementary_4cfef_0 (k := 19) rfl
theorem dJ2_indexOfSupplementary_4cfef_36 : decode cJ2_indexOfSupplementary_4cfef 36 = .ok (.aload_n 0, 1) := chk_nth ocJ2_indexOfSupplementary_4cfef_0 (k := 20) rfl
theorem dJ2_indexOfSupplementary_4cfef_37 : decode cJ2_indexOfSupplementary_4cfef 37 = .ok (.iload 6, 2) := chk_nth ocJ2_indexOfSupplementary_4cfef_0 (k := 21) rfl
theorem dJ2_indexOfSupplementary_4cfef_39 : decode cJ2_indexOfSupplementary_4cfef 39 = .ok (.invokestatic 71, 3) := chk_nth ocJ2_indexOfSupplementary_4cfef_0 (k := 22) rfl
theorem dJ2_indexOfSupplementary_4cfef_42 : decode cJ2_indexOfSupplementary_4cfef 42 = .ok (.iload 4, 2) := chk_nth ocJ2_indexOfSupplementary_4cfef_0 (k := 23) rfl
def tcJ2_indexOfSupplementary_4cfef_1 : List (Instr × Nat) := [(.if_icmp .ne 19, 3), (.aload_n 0, 1), (.iload 6, 2), (.iconst 1, 1), (.iadd, 1), (.invokestatic 71, 3), (.iload 5, 2), (.if_icmp .ne 6, 3), (.iload 6, 2), (.ireturn, 1), (.iinc 6 1, 3), (.goto (-38), 3), (.iconst (-1), 1), (.ireturn, 1)]
theorem ocJ2_indexOfSupplementary_4cfef_1 : chk (cJ2_indexOfSupplementary_4cfef.data.toList.drop 44) tcJ2_indexOfSupplementary_4cfef_1 = true := by decide +kernel
theorem dJ2_indexOfSupplementary_4cfef_44 : decode cJ2_indexOfSupplementary_4cfef 44 = .ok (.if_icmp .ne 19, 3) := chk_nth ocJ2_indexOfSupplementary_4cfef_1 (k := 0) rfl
theorem dJ2_indexOfSupplementary_4cfef_47 : decode cJ2_indexOfSupplementary_4cfef 47 = .ok (.aload_n 0, 1) := chk_nth ocJ2_indexOfSupplementary_4cfef_1 (k := 1) rfl
theorem dJ2_indexOfSupplementary_4cfef_48 : decode cJ2_indexOfSupplementary_4cfef 48 = .ok (.iload 6, 2) := chk_nth ocJ2_indexOfSupplementary_4cfef_1 (k := 2) rfl
theorem dJ2_indexOfSupplementary_4cfef_50 : decode cJ2_indexOfSupplementary_4cfef 50 = .ok (.iconst 1, 1) := chk_nth ocJ2_indexOfSupplementary_4cfef_1 (k := 3) rfl
theorem dJ2_indexOfSupplementary_4cfef_51 : decode cJ2_indexOfSupplementary_4cfef 51 = .ok (.iadd, 1) := chk_nth ocJ2_indexOfSupplementary_4cfef_1 (k := 4) rfl
theorem dJ2_indexOfSupplementary_4cfef_52 : decode cJ2_indexOfSupplementary_4cfef 52 = .ok (.invokestatic 71, 3) := chk_nth ocJ2_indexOfSupplementary_4cfef_1 (k := 5) rfl
theorem dJ2_indexOfSupplementary_4cfef_55 : decode cJ2_indexOfSupplementary_4cfef 55 = .ok (.iload 5, 2) := chk_nth ocJ2_indexOfSupplementary_4cfef_1 (k := 6) rfl
theorem dJ2_indexOfSupplementary_4cfef_57 : decode cJ2_indexOfSupplementary_4cfef 57 = .ok (.if_icmp .ne 6, 3) := chk_nth ocJ2_indexOfSupplementary_4cfef_1 (k := 7) rfl
theorem dJ2_indexOfSupplementary_4cfef_60 : decode cJ2_indexOfSupplementary_4cfef 60 = .ok (.iload 6, 2) := chk_nth ocJ2_indexOfSupplementary_4cfef_1 (k := 8) rfl
theorem dJ2_indexOfSupplementary_4cfef_62 : decode cJ2_indexOfSupplementary_4cfef 62 = .ok (.ireturn, 1) := chk_nth ocJ2_indexOfSupplementary_4cfef_1 (k := 9) rfl
theorem dJ2_indexOfSupplementary_4cfef_63 : decode cJ2_indexOfSupplementary_4cfef 63 = .ok (.iinc 6 1, 3) := chk_nth ocJ2_indexOfSupplementary_4cfef_1 (k := 10) rfl
theorem dJ2_indexOfSupplementary_4cfef_66 : decode cJ2_indexOfSupplementary_4cfef 66 = .ok (.goto (-38), 3) := chk_nth ocJ2_indexOfSupplementary_4cfef_1 (k := 11) rfl
theorem dJ2_indexOfSupplementary_4cfef_69 : decode cJ2_indexOfSupplementary_4cfef 69 = .ok (.iconst (-1), 1) := chk_nth ocJ2_indexOfSupplementary_4cfef_1 (k := 12) rfl
theorem dJ2_indexOfSupplementary_4cfef_70 : decode cJ2_indexOfSupplementary_4cfef 70 = .ok (.ireturn, 1) := chk_nth ocJ2_indexOfSupplementary_4cfef_1 (k := 13) rfl
def tcJ2_charAt_3b067_0 : List (Instr × Nat) := [(.iload_n 1, 1), (.aload_n 0, 1), (.invokestatic 67, 3), (.aload_n 0, 1), (.iload_n 1, 1), (.invokestatic 71, 3), (.ireturn, 1)]
theorem ocJ2_charAt_3b067_0 : chk (cJ2_charAt_3b067.data.toList.drop 0) tcJ2_charAt_3b067_0 = true := by decide +kernel
theorem dJ2_charAt_3b067_0 : decode cJ2_charAt_3b067 0 = .ok (.iload_n 1, 1) := chk_nth ocJ2_charAt_3b067_0 (k := 0) rfl
theorem dJ2_charAt_3b067_1 : decode cJ2_charAt_3b067 1 = .ok (.aload_n 0, 1) := chk_nth ocJ2_charAt_3b067_0 (k := 1) rfl
theorem dJ2_charAt_3b067_2 : decode cJ2_charAt_3b067 2 = .ok (.invokestatic 67, 3) := chk_nth ocJ2_charAt_3b067_0 (k := 2) rfl
theorem dJ2_charAt_3b067_5 : decode cJ2_charAt_3b067 5 = .ok (.aload_n 0, 1) := chk_nth ocJ2_charAt_3b067_0 (k := 3) rfl
theorem dJ2_charAt_3b067_6 : decode cJ2_charAt_3b067 6 = .ok (.iload_n 1, 1) := chk_nth ocJ2_charAt_3b067_0 (k := 4) rfl
theorem dJ2_charAt_3b067_7 : decode cJ2_charAt_3b067 7 = .ok (.invokestatic 71, 3) := chk_nth ocJ2_charAt_3b067_0 (k := 5) rfl
theorem dJ2_charAt_3b067_10 : decode cJ2_charAt_3b067 10 = .ok (.ireturn, 1) := chk_nth ocJ2_charAt_3b067_0 (k := 6) rfl
def tcJ2_checkIndex_2214a_0 : List (Instr × Nat) := [(.iload_n 0, 1), (.aload_n 1, 1), (.invokestatic 48, 3), (.invokestatic 414, 3), (.return_, 1)]
theorem ocJ2_checkIndex_2214a_0 : chk (cJ2_checkIndex_2214a.data.toList.drop 0) tcJ2_checkIndex_2214a_0 = true := by decide +kernel
theorem dJ2_checkIndex_2214a_0 : decode cJ2_checkIndex_2214a 0 = .ok (.iload_n 0, 1) := chk_nth ocJ2_checkIndex_2214a_0 (k := 0) rfl
theorem dJ2_checkIndex_2214a_1 : decode cJ2_checkIndex_2214a 1 = .ok (.aload_n 1, 1) := chk_nth ocJ2_checkIndex_2214a_0 (k := 1) rfl
theorem dJ2_checkIndex_2214a_2 : decode cJ2_checkIndex_2214a 2 = .ok (.invokestatic 48, 3) := chk_nth ocJ2_checkIndex_2214a_0 (k := 2) rfl
theorem dJ2_checkIndex_2214a_5 : decode cJ2_checkIndex_2214a 5 = .ok (.invokestatic 414, 3) := chk_nth ocJ2_checkIndex_2214a_0 (k := 3) rfl
theorem dJ2_checkIndex_2214a_8 : decode cJ2_checkIndex_2214a 8 = .ok (.return_, 1) := chk_nth ocJ2_checkIndex_2214a_0 (k := 4) rfl
def tcJ2_checkBoundsBeginEnd_d044e_0 : List (Instr × Nat) := [(.iload_n 0, 1), (.iload_n 1, 1), (.aload_n 2, 1), (.invokestatic 48, 3), (.invokestatic 241, 3), (.return_, 1)]
theorem ocJ2_checkBoundsBeginEnd_d044e_0 : chk (cJ2_checkBoundsBeginEnd_d044e.data.toList.drop 0) tcJ2_checkBoundsBeginEnd_d044e_0 = true := by decide +kernel
theorem dJ2_checkBoundsBeginEnd_d044e_0 : decode cJ2_checkBoundsBeginEnd_d044e 0 = .ok (.iload_n 0, 1) := chk_nth ocJ2_checkBoundsBeginEnd_d044e_0 (k := 0) rfl
theorem dJ2_checkBoundsBeginEnd_d044e_1 : decode cJ2_checkBoundsBeginEnd_d044e 1 = .ok (.iload_n 1, 1) := chk_nth ocJ2_checkBoundsBeginEnd_d044e_0 (k := 1) rfl
theorem dJ2_checkBoundsBeginEnd_d044e_2 : decode cJ2_checkBoundsBeginEnd_d044e 2 = .ok (.aload_n 2, 1) := chk_nth ocJ2_checkBoundsBeginEnd_d044e_0 (k := 2) rfl
theorem dJ2_checkBoundsBeginEnd_d044e_3 : decode cJ2_checkBoundsBeginEnd_d044e 3 = .ok (.invokestatic 48, 3) := chk_nth ocJ2_checkBoundsBeginEnd_d044e_0 (k := 3) rfl
theorem dJ2_checkBoundsBeginEnd_d044e_6 : decode cJ2_checkBoundsBeginEnd_d044e 6 = .ok (.invokestatic 241, 3) := chk_nth ocJ2_checkBoundsBeginEnd_d044e_0 (k := 4) rfl
theorem dJ2_checkBoundsBeginEnd_d044e_9 : decode cJ2_checkBoundsBeginEnd_d044e 9 = .ok (.return_, 1) := chk_nth ocJ2_checkBoundsBeginEnd_d044e_0 (k := 5) rfl
def tcJ7_fill_d0a16_0 : List (Instr × Nat) := [(.iconst 0, 1), (.istore_n 3, 1), (.aload_n 0, 1), (.arraylength, 1), (.istore 4, 2), (.iload_n 3, 1), (.iload 4, 2), (.if_icmp .ge 13, 3), (.aload_n 0, 1), (.iload_n 3, 1), (.lload_n 1, 1), (.lastore, 1), (.iinc 3 1, 3), (.goto (-13), 3), (.return_, 1)]
theorem ocJ7_fill_d0a16_0 : chk (cJ7_fill_d0a16.data.toList.drop 0) tcJ7_fill_d0a16_0 = true := by decide +kernel
theorem dJ7_fill_d0a16_0 : decode cJ7_fill_d0a16 0 = .ok (.iconst 0, 1) := chk_nth ocJ7_fill_d0a16_0 (k := 0) rfl
theorem dJ7_fill_d0a16_1 : decode cJ7_fill_d0a16 1 = .ok (.istore_n 3, 1) := chk_nth ocJ7_fill_d0a16_0 (k := 1) rfl
theorem dJ7_fill_d0a16_2 : decode cJ7_fill_d0a16 2 = .ok (.aload_n 0, 1) := chk_nth ocJ7_fill_d0a16_0 (k := 2) rfl
theorem dJ7_fill_d0a16_3 : decode cJ7_fill_d0a16 3 = .ok (.arraylength, 1) := chk_nth ocJ7_fill_d0a16_0 (k := 3) rfl
theorem dJ7_fill_d0a16_4 : decode cJ7_fill_d0a16 4 = .ok (.istore 4, 2) := chk_nth ocJ7_fill_d0a16_0 (k := 4) rfl
theorem dJ7_fill_d0a16_6 : decode cJ7_fill_d0a16 6 = .ok (.iload_n 3, 1) := chk_nth ocJ7_fill_d0a16_0 (k := 5) rfl
theorem dJ7_fill_d0a16_7 : decode cJ7_fill_d0a16 7 = .ok (.iload 4, 2) := chk_nth ocJ7_fill_d0a16_0 (k := 6) rfl
theorem dJ7_fill_d0a16_9 : decode cJ7_fill_d0a16 9 = .ok (.if_icmp .ge 13, 3) := chk_nth ocJ7_fill_d0a16_0 (k := 7) rfl
theorem dJ7_fill_d0a16_12 : decode cJ7_fill_d0a16 12 = .ok (.aload_n 0, 1) := chk_nth ocJ7_fill_d0a16_0 (k := 8) rfl
theorem dJ7_fill_d0a16_13 : decode cJ7_fill_d0a16 13 = .ok (.iload_n 3, 1) := chk_nth ocJ7_fill_d0a16_0 (k := 9) rfl
theorem dJ7_fill_d0a16_14 : decode cJ7_fill_d0a16 14 = .ok (.lload_n 1, 1) := chk_nth ocJ7_fill_d0a16_0 (k := 10) rfl
theorem dJ7_fill_d0a16_15 : decode cJ7_fill_d0a16 15 = .ok (.lastore, 1) := chk_nth ocJ7_fill_d0a16_0 (k := 11) rfl
theorem dJ7_fill_d0a16_16 : decode cJ7_fill_d0a16 16 = .ok (.iinc 3 1, 3) := chk_nth ocJ7_fill_d0a16_0 (k := 12) rfl
theorem dJ7_fill_d0a16_19 : decode cJ7_fill_d0a16 19 = .ok (.goto (-13), 3) := chk_nth ocJ7_fill_d0a16_0 (k := 13) rfl
theorem dJ7_fill_d0a16_22 : decode cJ7_fill_d0a16 22 = .ok (.return_, 1) := chk_nth ocJ7_fill_d0a16_0 (k := 14) rfl
def tcJ7_fill_53178_0 : List (Instr × Nat) := [(.iconst 0, 1), (.istore_n 2, 1), (.aload_n 0, 1), (.arraylength, 1), (.istore_n 3, 1), (.iload_n 2, 1), (.iload_n 3, 1), (.if_icmp .ge 13, 3), (.aload_n 0, 1), (.iload_n 2, 1), (.iload_n 1, 1), (.iastore, 1), (.iinc 2 1, 3), (.goto (-12), 3), (.return_, 1)]
theorem ocJ7_fill_53178_0 : chk (cJ7_fill_53178.data.toList.drop 0) tcJ7_fill_53178_0 = true := by decide +kernel
theorem dJ7_fill_53178_0 : decode cJ7_fill_53178 0 = .ok (.iconst 0, 1) := chk_nth ocJ7_fill_53178_0 (k := 0) rfl
theorem dJ7_fill_53178_1 : decode cJ7_fill_53178 1 = .ok (.istore_n 2, 1) := chk_nth ocJ7_fill_53178_0 (k := 1) rfl
theorem dJ7_fill_53178_2 : decode cJ7_fill_53178 2 = .ok (.aload_n 0, 1) := chk_nth ocJ7_fill_53178_0 (k := 2) rfl
theorem dJ7_fill_53178_3 : decode cJ7_fill_53178 3 = .ok (.arraylength, 1) := chk_nth ocJ7_fill_53178_0 (k := 3) rfl
theorem dJ7_fill_53178_4 : decode cJ7_fill_53178 4 = .ok (.istore_n 3, 1) := chk_nth ocJ7_fill_53178_0 (k := 4) rfl
theorem dJ7_fill_53178_5 : decode cJ7_fill_53178 5 = .ok (.iload_n 2, 1) := chk_nth ocJ7_fill_53178_0 (k := 5) rfl
theorem dJ7_fill_53178_6 : decode cJ7_fill_53178 6 = .ok (.iload_n 3, 1) := chk_nth ocJ7_fill_53178_0 (k := 6) rfl
theorem dJ7_fill_53178_7 : decode cJ7_fill_53178 7 = .ok (.if_icmp .ge 13, 3) := chk_nth ocJ7_fill_53178_0 (k := 7) rfl
theorem dJ7_fill_53178_10 : decode cJ7_fill_53178 10 = .ok (.aload_n 0, 1) := chk_nth ocJ7_fill_53178_0 (k := 8) rfl
theorem dJ7_fill_53178_11 : decode cJ7_fill_53178 11 = .ok (.iload_n 2, 1) := chk_nth ocJ7_fill_53178_0 (k := 9) rfl
theorem dJ7_fill_53178_12 : decode cJ7_fill_53178 12 = .ok (.iload_n 1, 1) := chk_nth ocJ7_fill_53178_0 (k := 10) rfl
theorem dJ7_fill_53178_13 : decode cJ7_fill_53178 13 = .ok (.iastore, 1) := chk_nth ocJ7_fill_53178_0 (k := 11) rfl
theorem dJ7_fill_53178_14 : decode cJ7_fill_53178 14 = .ok (.iinc 2 1, 3) := chk_nth ocJ7_fill_53178_0 (k := 12) rfl
theorem dJ7_fill_53178_17 : decode cJ7_fill_53178 17 = .ok (.goto (-12), 3) := chk_nth ocJ7_fill_53178_0 (k := 13) rfl
theorem dJ7_fill_53178_20 : decode cJ7_fill_53178 20 = .ok (.return_, 1) := chk_nth ocJ7_fill_53178_0 (k := 14) rfl
def tcJ3_checkIndex_8e157_0 : List (Instr × Nat) := [(.iload_n 0, 1), (.ifCond .lt 8, 3), (.iload_n 0, 1), (.iload_n 1, 1), (.if_icmp .lt 10, 3), (.aload_n 2, 1), (.iload_n 0, 1), (.iload_n 1, 1), (.invokestatic 95, 3), (.athrow, 1), (.iload_n 0, 1), (.ireturn, 1)]
theorem ocJ3_checkIndex_8e157_0 : chk (cJ3_checkIndex_8e157.data.toList.drop 0) tcJ3_checkIndex_8e157_0 = true := by decide +kernel
theorem dJ3_checkIndex_8e157_0 : decode cJ3_checkIndex_8e157 0 = .ok (.iload_n 0, 1) := chk_nth ocJ3_checkIndex_8e157_0 (k := 0) rfl
theorem dJ3_checkIndex_8e157_1 : decode cJ3_checkIndex_8e157 1 = .ok (.ifCond .lt 8, 3) := chk_nth ocJ3_checkIndex_8e157_0 (k := 1) rfl
theorem dJ3_checkIndex_8e157_4 : decode cJ3_checkIndex_8e157 4 = .ok (.iload_n 0, 1) := chk_nth ocJ3_checkIndex_8e157_0 (k := 2) rfl
theorem dJ3_checkIndex_8e157_5 : decode cJ3_checkIndex_8e157 5 = .ok (.iload_n 1, 1) := chk_nth ocJ3_checkIndex_8e157_0 (k := 3) rfl
theorem dJ3_checkIndex_8e157_6 : decode cJ3_checkIndex_8e157 6 = .ok (.if_icmp .lt 10, 3) := chk_nth ocJ3_checkIndex_8e157_0 (k := 4) rfl
theorem dJ3_checkIndex_8e157_9 : decode cJ3_checkIndex_8e157 9 = .ok (.aload_n 2, 1) := chk_nth ocJ3_checkIndex_8e157_0 (k := 5) rfl
theorem dJ3_checkIndex_8e157_10 : decode cJ3_checkIndex_8e157 10 = .ok (.iload_n 0, 1) := chk_nth ocJ3_checkIndex_8e157_0 (k := 6) rfl
theorem dJ3_checkIndex_8e157_11 : decode cJ3_checkIndex_8e157 11 = .ok (.iload_n 1, 1) := chk_nth ocJ3_checkIndex_8e157_0 (k := 7) rfl
theorem dJ3_checkIndex_8e157_12 : decode cJ3_checkIndex_8e157 12 = .ok (.invokestatic 95, 3) := chk_nth ocJ3_checkIndex_8e157_0 (k := 8) rfl
theorem dJ3_checkIndex_8e157_15 : decode cJ3_checkIndex_8e157 15 = .ok (.athrow, 1) := chk_nth ocJ3_checkIndex_8e157_0 (k := 9) rfl
theorem dJ3_checkIndex_8e157_16 : decode cJ3_checkIndex_8e157 16 = .ok (.iload_n 0, 1) := chk_nth ocJ3_checkIndex_8e157_0 (k := 10) rfl
theorem dJ3_checkIndex_8e157_17 : decode cJ3_checkIndex_8e157 17 = .ok (.ireturn, 1) := chk_nth ocJ3_checkIndex_8e157_0 (k := 11) rfl
def tcJ3_checkFromToIndex_8c36e_0 : List (Instr × Nat) := [(.iload_n 0, 1), (.ifCond .lt 13, 3), (.iload_n 0, 1), (.iload_n 1, 1), (.if_icmp .gt 8, 3), (.iload_n 1, 1), (.iload_n 2, 1), (.if_icmp .le 11, 3), (.aload_n 3, 1), (.iload_n 0, 1), (.iload_n 1, 1), (.iload_n 2, 1), (.invokestatic 99, 3), (.athrow, 1), (.iload_n 0, 1), (.ireturn, 1)]
theorem ocJ3_checkFromToIndex_8c36e_0 : chk (cJ3_checkFromToIndex_8c36e.data.toList.drop 0) tcJ3_checkFromToIndex_8c36e_0 = true := by decide +kernel
theorem dJ3_checkFromToIndex_8c36e_0 : decode cJ3_checkFromToIndex_8c36e 0 = .ok (.iload_n 0, 1) := chk_nth ocJ3_checkFromToIndex_8c36e_0 (k := 0) rfl
theorem dJ3_checkFromToIndex_8c36e_1 : decode cJ3_checkFromToIndex_8c36e 1 = .ok (.ifCond .lt 13, 3) := chk_nth ocJ3_checkFromToIndex_8c36e_0 (k := 1) rfl
theorem dJ3_checkFromToIndex_8c36e_4 : decode cJ3_checkFromToIndex_8c36e 4 = .ok (.iload_n 0, 1) := chk_nth ocJ3_checkFromToIndex_8c36e_0 (k := 2) rfl
theorem dJ3_checkFromToIndex_8c36e_5 : decode cJ3_checkFromToIndex_8c36e 5 = .ok (.iload_n 1, 1) := chk_nth ocJ3_checkFromToIndex_8c36e_0 (k := 3) rfl
theorem dJ3_checkFromToIndex_8c36e_6 : decode cJ3_checkFromToIndex_8c36e 6 = .ok (.if_icmp .gt 8, 3) := chk_nth ocJ3_checkFromToIndex_8c36e_0 (k := 4) rfl
theorem dJ3_checkFromToIndex_8c36e_9 : decode cJ3_checkFromToIndex_8c36e 9 = .ok (.iload_n 1, 1) := chk_nth ocJ3_checkFromToIndex_8c36e_0 (k := 5) rfl
theorem dJ3_checkFromToIndex_8c36e_10 : decode cJ3_checkFromToIndex_8c36e 10 = .ok (.iload_n 2, 1) := chk_nth ocJ3_checkFromToIndex_8c36e_0 (k := 6) rfl
theorem dJ3_checkFromToIndex_8c36e_11 : decode cJ3_checkFromToIndex_8c36e 11 = .ok (.if_icmp .le 11, 3) := chk_nth ocJ3_checkFromToIndex_8c36e_0 (k := 7) rfl
theorem dJ3_checkFromToIndex_8c36e_14 : decode cJ3_checkFromToIndex_8c36e 14 = .ok (.aload_n 3, 1) := chk_nth ocJ3_checkFromToIndex_8c36e_0 (k := 8) rfl
theorem dJ3_checkFromToIndex_8c36e_15 : decode cJ3_checkFromToIndex_8c36e 15 = .ok (.iload_n 0, 1) := chk_nth ocJ3_checkFromToIndex_8c36e_0 (k := 9) rfl
theorem dJ3_checkFromToIndex_8c36e_16 : decode cJ3_checkFromToIndex_8c36e 16 = .ok (.iload_n 1, 1) := chk_nth ocJ3_checkFromToIndex_8c36e_0 (k := 10) rfl
theorem dJ3_checkFromToIndex_8c36e_17 : decode cJ3_checkFromToIndex_8c36e 17 = .ok (.iload_n 2, 1) := chk_nth ocJ3_checkFromToIndex_8c36e_0 (k := 11) rfl
theorem dJ3_checkFromToIndex_8c36e_18 : decode cJ3_checkFromToIndex_8c36e 18 = .ok (.invokestatic 99, 3) := chk_nth ocJ3_checkFromToIndex_8c36e_0 (k := 12) rfl
theorem dJ3_checkFromToIndex_8c36e_21 : decode cJ3_checkFromToIndex_8c36e 21 = .ok (.athrow, 1) := chk_nth ocJ3_checkFromToIndex_8c36e_0 (k := 13) rfl
theorem dJ3_checkFromToIndex_8c36e_22 : decode cJ3_checkFromToIndex_8c36e 22 = .ok (.iload_n 0, 1) := chk_nth ocJ3_checkFromToIndex_8c36e_0 (k := 14) rfl
theorem dJ3_checkFromToIndex_8c36e_23 : decode cJ3_checkFromToIndex_8c36e 23 = .ok (.ireturn, 1) := chk_nth ocJ3_checkFromToIndex_8c36e_0 (k := 15) rfl
def tcL_law_0 : List (Instr × Nat) := [(.new 7, 3), (.dup, 1), (.invokespecial 9, 3), (.astore_n 1, 1), (.new 10, 3), (.dup, 1), (.invokespecial 12, 3), (.astore_n 2, 1), (.iconst 0, 1), (.istore_n 3, 1), (.iload_n 3, 1), (.aload_n 0, 1), (.arraylength, 1), (.bipush 6, 2), (.isub, 1), (.if_icmp .gt 1726, 3), (.aload_n 0, 1), (.iload_n 3, 1), (.iaload, 1), (.bipush 63, 2), (.iand, 1)]
theorem ocL_law_0 : chk (cL_law.data.toList.drop 0) tcL_law_0 = true := by decide +kernel
theorem dL_law_0 : decode cL_law 0 = .ok (.new 7, 3) := chk_nth ocL_law_0 (k := 0) rfl
theorem dL_law_3 : decode cL_law 3 = .ok (.dup, 1) := chk_nth ocL_law_0 (k := 1) rfl
theorem dL_law_4 : decode cL_law 4 = .ok (.invokespecial 9, 3) := chk_nth ocL_law_0 (k := 2) rfl
theorem dL_law_7 : decode cL_law 7 = .ok (.astore_n 1, 1) := chk_nth ocL_law_0 (k := 3) rfl
theorem dL_law_8 : decode cL_law 8 = .ok (.new 10, 3) := chk_nth ocL_law_0 (k := 4) rfl
theorem dL_law_11 : decode cL_law 11 = .ok (.dup, 1) := chk_nth ocL_law_0 (k := 5) rfl
theorem dL_law_12 : decode cL_law 12 = .ok (.invokespecial 12, 3) := chk_nth ocL_law_0 (k := 6) rfl
theorem dL_law_15 : decode cL_law 15 = .ok (.astore_n 2, 1) := chk_nth ocL_law_0 (k := 7) rfl
theorem dL_law_16 : decode cL_law 16 = .ok (.iconst 0, 1) := chk_nth ocL_law_0 (k := 8) rfl
theorem dL_law_17 : decode cL_law 17 = .ok (.istore_n 3, 1) := chk_nth ocL_law_0 (k := 9) rfl
theorem dL_law_18 : decode cL_law 18 = .ok (.iload_n 3, 1) := chk_nth ocL_law_0 (k := 10) rfl
theorem dL_law_19 : decode cL_law 19 = .ok (.aload_n 0, 1) := chk_nth ocL_law_0 (k := 11) rfl
theorem dL_law_20 : decode cL_law 20 = .ok (.arraylength, 1) := chk_nth ocL_law_0 (k := 12) rfl
theorem dL_law_21 : decode cL_law 21 = .ok (.bipush 6, 2) := chk_nth ocL_law_0 (k := 13) rfl
theorem dL_law_23 : decode cL_law 23 = .ok (.isub, 1) := chk_nth ocL_law_0 (k := 14) rfl
theorem dL_law_24 : decode cL_law 24 = .ok (.if_icmp .gt 1726, 3) := chk_nth ocL_law_0 (k := 15) rfl
theorem dL_law_27 : decode cL_law 27 = .ok (.aload_n 0, 1) := chk_nth ocL_law_0 (k := 16) rfl
theorem dL_law_28 : decode cL_law 28 = .ok (.iload_n 3, 1) := chk_nth ocL_law_0 (k := 17) rfl
theorem dL_law_29 : decode cL_law 29 = .ok (.iaload, 1) := chk_nth ocL_law_0 (k := 18) rfl
theorem dL_law_30 : decode cL_law 30 = .ok (.bipush 63, 2) := chk_nth ocL_law_0 (k := 19) rfl
theorem dL_law_32 : decode cL_law 32 = .ok (.iand, 1) := chk_nth ocL_law_0 (k := 20) rfl
theorem dL_law_33 : decode cL_law 33 = .ok (.tableswitch 1711 0 41 #[183, 246, 269, 292, 325, 358, 391, 434, 467, 500, 523, 566, 589, 622, 645, 678, 721, 774, 828, 861, 894, 917, 950, 993, 1016, 1039, 1072, 1115, 1148, 1191, 1234, 1277, 1310, 1343, 1396, 1439, 1472, 1515, 1589, 1642, 1665, 1688], 183) := by decide +kernel
def tcL_law_1 : List (Instr × Nat) := [(.aload_n 1, 1), (.aload_n 0, 1), (.iload_n 3, 1), (.iconst 1, 1), (.iadd, 1), (.iaload, 1), (.aload_n 0, 1), (.iload_n 3, 1), (.iconst 2, 1), (.iadd, 1), (.iaload, 1), (.aload_n 0, 1), (.iload_n 3, 1), (.iconst 3, 1), (.iadd, 1), (.iaload, 1), (.aload_n 0, 1), (.iload_n 3, 1), (.iconst 4, 1), (.iadd, 1), (.iaload, 1), (.aload_n 0, 1), (.iload_n 3, 1), (.iconst 5, 1)]
theorem ocL_law_1 : chk (cL_law.data.toList.drop 216) tcL_law_1 = true := by decide +kernel
theorem dL_law_216 : decode cL_law 216 = .ok (.aload_n 1, 1) := chk_nth ocL_law_1 (k := 0) rfl
theorem dL_law_217 : decode cL_law 217 = .ok (.aload_n 0, 1) := chk_nth ocL_law_1 (k := 1) rfl
theorem dL_law_218 : decode cL_law 218 = .ok (.iload_n 3, 1) := chk_nth ocL_law_1 (k := 2) rfl
theorem dL_law_219 : decode cL_law 219 = .ok (.iconst 1, 1) := chk_nth ocL_law_1 (k := 3) rfl
theorem dL_law_220 : decode cL_law 220 = .ok (.iadd, 1) := chk_nth ocL_law_1 (k := 4) rfl
theorem dL_law_221 : decode cL_law 221 = .ok (.iaload, 1) := chk_nth ocL_law_1 (k := 5) rfl
theorem dL_law_222 : decode cL_law 222 = .ok (.aload_n 0, 1) := chk_nth ocL_law_1 (k := 6) rfl
theorem dL_law_223 : decode cL_law 223 = .ok (.iload_n 3, 1) := chk_nth ocL_law_1 (k := 7) rfl
theorem dL_law_224 : decode cL_law 224 = .ok (.iconst 2, 1) := chk_nth ocL_law_1 (k := 8) rfl
theorem dL_law_225 : decode cL_law 225 = .ok (.iadd, 1) := chk_nth ocL_law_1 (k := 9) rfl
theorem dL_law_226 : decode cL_law 226 = .ok (.iaload, 1) := chk_nth ocL_law_1 (k := 10) rfl
theorem dL_law_227 : decode cL_law 227 = .ok (.aload_n 0, 1) := chk_nth ocL_law_1 (k := 11) rfl
theorem dL_law_228 : decode cL_law 228 = .ok (.iload_n 3, 1) := chk_nth ocL_law_1 (k := 12) rfl
theorem dL_law_229 : decode cL_law 229 = .ok (.iconst 3, 1) := chk_nth ocL_law_1 (k := 13) rfl
theorem dL_law_230 : decode cL_law 230 = .ok (.iadd, 1) := chk_nth ocL_law_1 (k := 14) rfl
theorem dL_law_231 : decode cL_law 231 = .ok (.iaload, 1) := chk_nth ocL_law_1 (k := 15) rfl
theorem dL_law_232 : decode cL_law 232 = .ok (.aload_n 0, 1) := chk_nth ocL_law_1 (k := 16) rfl
theorem dL_law_233 : decode cL_law 233 = .ok (.iload_n 3, 1) := chk_nth ocL_law_1 (k := 17) rfl
theorem dL_law_234 : decode cL_law 234 = .ok (.iconst 4, 1) := chk_nth ocL_law_1 (k := 18) rfl
theorem dL_law_235 : decode cL_law 235 = .ok (.iadd, 1) := chk_nth ocL_law_1 (k := 19) rfl
theorem dL_law_236 : decode cL_law 236 = .ok (.iaload, 1) := chk_nth ocL_law_1 (k := 20) rfl
theorem dL_law_237 : decode cL_law 237 = .ok (.aload_n 0, 1) := chk_nth ocL_law_1 (k := 21) rfl
theorem dL_law_238 : decode cL_law 238 = .ok (.iload_n 3, 1) := chk_nth ocL_law_1 (k := 22) rfl
theorem dL_law_239 : decode cL_law 239 = .ok (.iconst 5, 1) := chk_nth ocL_law_1 (k := 23) rfl
def tcL_law_2 : List (Instr × Nat) := [(.iadd, 1), (.iaload, 1), (.invokevirtual 13, 3), (.aload_n 2, 1), (.aload_n 0, 1), (.iload_n 3, 1), (.iconst 1, 1), (.iadd, 1), (.iaload, 1), (.aload_n 0, 1), (.iload_n 3, 1), (.iconst 2, 1), (.iadd, 1), (.iaload, 1), (.aload_n 0, 1), (.iload_n 3, 1), (.iconst 3, 1), (.iadd, 1), (.iaload, 1), (.aload_n 0, 1), (.iload_n 3, 1), (.iconst 4, 1), (.iadd, 1), (.iaload, 1)]
theorem ocL_law_2 : chk (cL_law.data.toList.drop 240) tcL_law_2 = true := by decide +kernel
theorem dL_law_240 : decode cL_law 240 = .ok (.iadd, 1) := chk_nth ocL_law_2 (k := 0) rfl
theorem dL_law_241 : decode cL_law 241 = .ok (.iaload, 1) := chk_nth ocL_law_2 (k := 1) rfl
theorem dL_law_242 : decode cL_law 242 = .ok (.invokevirtual 13, 3) := chk_nth ocL_law_2 (k := 2) rfl
theorem dL_law_245 : decode cL_law 245 = .ok (.aload_n 2, 1) := chk_nth ocL_law_2 (k := 3) rfl
theorem dL_law_246 : decode cL_law 246 = .ok (.aload_n 0, 1) := chk_nth ocL_law_2 (k := 4) rfl
theorem dL_law_247 : decode cL_law 247 = .ok (.iload_n 3, 1) := chk_nth ocL_law_2 (k := 5) rfl
theorem dL_law_248 : decode cL_law 248 = .ok (.iconst 1, 1) := chk_nth ocL_law_2 (k := 6) rfl
theorem dL_law_249 : decode cL_law 249 = .ok (.iadd, 1) := chk_nth ocL_law_2 (k := 7) rfl
theorem dL_law_250 : decode cL_law 250 = .ok (.iaload, 1) := chk_nth ocL_law_2 (k := 8) rfl
theorem dL_law_251 : decode cL_law 251 = .ok (.aload_n 0, 1) := chk_nth ocL_law_2 (k := 9) rfl
theorem dL_law_252 : decode cL_law 252 = .ok (.iload_n 3, 1) := chk_nth ocL_law_2 (k := 10) rfl
theorem dL_law_253 : decode cL_law 253 = .ok (.iconst 2, 1) := chk_nth ocL_law_2 (k := 11) rfl
theorem dL_law_254 : decode cL_law 254 = .ok (.iadd, 1) := chk_nth ocL_law_2 (k := 12) rfl
theorem dL_law_255 : decode cL_law 255 = .ok (.iaload, 1) := chk_nth ocL_law_2 (k := 13) rfl
theorem dL_law_256 : decode cL_law 256 = .ok (.aload_n 0, 1) := chk_nth ocL_law_2 (k := 14) rfl
theorem dL_law_257 : decode cL_law 257 = .ok (.iload_n 3, 1) := chk_nth ocL_law_2 (k := 15) rfl
theorem dL_law_258 : decode cL_law 258 = .ok (.iconst 3, 1) := chk_nth ocL_law_2 (k := 16) rfl
theorem dL_law_259 : decode cL_law 259 = .ok (.iadd, 1) := chk_nth ocL_law_2 (k := 17) rfl
theorem dL_law_260 : decode cL_law 260 = .ok (.iaload, 1) := chk_nth ocL_law_2 (k := 18) rfl
theorem dL_law_261 : decode cL_law 261 = .ok (.aload_n 0, 1) := chk_nth ocL_law_2 (k := 19) rfl
theorem dL_law_262 : decode cL_law 262 = .ok (.iload_n 3, 1) := chk_nth ocL_law_2 (k := 20) rfl
theorem dL_law_263 : decode cL_law 263 = .ok (.iconst 4, 1) := chk_nth ocL_law_2 (k := 21) rfl
theorem dL_law_264 : decode cL_law 264 = .ok (.iadd, 1) := chk_nth ocL_law_2 (k := 22) rfl
theorem dL_law_265 : decode cL_law 265 = .ok (.iaload, 1) := chk_nth ocL_law_2 (k := 23) rfl
def tcL_law_3 : List (Instr × Nat) := [(.aload_n 0, 1), (.iload_n 3, 1), (.iconst 5, 1), (.iadd, 1), (.iaload, 1), (.invokevirtual 17, 3), (.if_icmp .eq 1470, 3), (.iconst 0, 1), (.ireturn, 1), (.aload_n 1, 1), (.aload_n 0, 1), (.iload_n 3, 1), (.iconst 1, 1), (.iadd, 1), (.iaload, 1), (.invokevirtual 18, 3), (.aload_n 2, 1), (.aload_n 0, 1), (.iload_n 3, 1), (.iconst 1, 1), (.iadd, 1), (.iaload, 1), (.invokevirtual 22, 3), (.if_icmp .eq 1447, 3)]
theorem ocL_law_3 : chk (cL_law.data.toList.drop 266) tcL_law_3 = true := by decide +kernel
theorem dL_law_266 : decode cL_law 266 = .ok (.aload_n 0, 1) := chk_nth ocL_law_3 (k := 0) rfl
theorem dL_law_267 : decode cL_law 267 = .ok (.iload_n 3, 1) := chk_nth ocL_law_3 (k := 1) rfl
theorem dL_law_268 : decode cL_law 268 = .ok (.iconst 5, 1) := chk_nth ocL_law_3 (k := 2) rfl
theorem dL_law_269 : decode cL_law 269 = .ok (.iadd, 1) := chk_nth ocL_law_3 (k := 3) rfl
theorem dL_law_270 : decode cL_law 270 = .ok (.iaload, 1) := chk_nth ocL_law_3 (k := 4) rfl
theorem dL_law_271 : decode cL_law 271 = .ok (.invokevirtual 17, 3) := chk_nth ocL_law_3 (k := 5) rfl
theorem dL_law_274 : decode cL_law 274 = .ok (.if_icmp .eq 1470, 3) := chk_nth ocL_law_3 (k := 6) rfl
theorem dL_law_277 : decode cL_law 277 = .ok (.iconst 0, 1) := chk_nth ocL_law_3 (k := 7) rfl
theorem dL_law_278 : decode cL_law 278 = .ok (.ireturn, 1) := chk_nth ocL_law_3 (k := 8) rfl
theorem dL_law_279 : decode cL_law 279 = .ok (.aload_n 1, 1) := chk_nth ocL_law_3 (k := 9) rfl
theorem dL_law_280 : decode cL_law 280 = .ok (.aload_n 0, 1) := chk_nth ocL_law_3 (k := 10) rfl
theorem dL_law_281 : decode cL_law 281 = .ok (.iload_n 3, 1) := chk_nth ocL_law_3 (k := 11) rfl
theorem dL_law_282 : decode cL_law 282 = .ok (.iconst 1, 1) := chk_nth ocL_law_3 (k := 12) rfl
theorem dL_law_283 : decode cL_law 283 = .ok (.iadd, 1) := chk_nth ocL_law_3 (k := 13) rfl
theorem dL_law_284 : decode cL_law 284 = .ok (.iaload, 1) := chk_nth ocL_law_3 (k := 14) rfl
theorem dL_law_285 : decode cL_law 285 = .ok (.invokevirtual 18, 3) := chk_nth ocL_law_3 (k := 15) rfl
theorem dL_law_288 : decode cL_law 288 = .ok (.aload_n 2, 1) := chk_nth ocL_law_3 (k := 16) rfl
theorem dL_law_289 : decode cL_law 289 = .ok (.aload_n 0, 1) := chk_nth ocL_law_3 (k := 17) rfl
theorem dL_law_290 : decode cL_law 290 = .ok (.iload_n 3, 1) := chk_nth ocL_law_3 (k := 18) rfl
theorem dL_law_291 : decode cL_law 291 = .ok (.iconst 1, 1) := chk_nth ocL_law_3 (k := 19) rfl
theorem dL_law_292 : decode cL_law 292 = .ok (.iadd, 1) := chk_nth ocL_law_3 (k := 20) rfl
theorem dL_law_293 : decode cL_law 293 = .ok (.iaload, 1) := chk_nth ocL_law_3 (k := 21) rfl
theorem dL_law_294 : decode cL_law 294 = .ok (.invokevirtual 22, 3) := chk_nth ocL_law_3 (k := 22) rfl
theorem dL_law_297 : decode cL_law 297 = .ok (.if_icmp .eq 1447, 3) := chk_nth ocL_law_3 (k := 23) rfl
def tcL_law_4 : List (Instr × Nat) := [(.iconst 0, 1), (.ireturn, 1), (.aload_n 1, 1), (.aload_n 0, 1), (.iload_n 3, 1), (.iconst 1, 1), (.iadd, 1), (.iaload, 1), (.invokevirtual 23, 3), (.aload_n 2, 1), (.aload_n 0, 1), (.iload_n 3, 1), (.iconst 1, 1), (.iadd, 1), (.iaload, 1), (.invokevirtual 26, 3), (.if_icmp .eq 1424, 3), (.iconst 0, 1), (.ireturn, 1), (.aload_n 1, 1), (.aload_n 0, 1), (.iload_n 3, 1), (.iconst 1, 1), (.iadd, 1)]
theorem ocL_law_4 : chk (cL_law.data.toList.drop 300) tcL_law_4 = true := by decide +kernel
theorem dL_law_300 : decode cL_law 300 = .ok (.iconst 0, 1) := chk_nth ocL_law_4 (k := 0) rfl
theorem dL_law_301 : decode cL_law 301 = .ok (.ireturn, 1) := chk_nth ocL_law_4 (k := 1) rfl
theorem dL_law_302 : decode cL_law 302 = .ok (.aload_n 1, 1) := chk_nth ocL_law_4 (k := 2) rfl
theorem dL_law_303 : decode cL_law 303 = .ok (.aload_n 0, 1) := chk_nth ocL_law_4 (k := 3) rfl
theorem dL_law_304 : decode cL_law 304 = .ok (.iload_n 3, 1) := chk_nth ocL_law_4 (k := 4) rfl
theorem dL_law_305 : decode cL_law 305 = .ok (.iconst 1, 1) := chk_nth ocL_law_4 (k := 5) rfl
theorem dL_law_306 : decode cL_law 306 = .ok (.iadd, 1) := chk_nth ocL_law_4 (k := 6) rfl
theorem dL_law_307 : decode cL_law 307 = .ok (.iaload, 1) := chk_nth ocL_law_4 (k := 7) rfl
theorem dL_law_308 : decode cL_law 308 = .ok (.invokevirtual 23, 3) := chk_nth ocL_law_4 (k := 8) rfl
theorem dL_law_311 : decode cL_law 311 = .ok (.aload_n 2, 1) := chk_nth ocL_law_4 (k := 9) rfl
theorem dL_law_312 : decode cL_law 312 = .ok (.aload_n 0, 1) := chk_nth ocL_law_4 (k := 10) rfl
theorem dL_law_313 : decode cL_law 313 = .ok (.iload_n 3, 1) := chk_nth ocL_law_4 (k := 11) rfl
theorem dL_law_314 : decode cL_law 314 = .ok (.iconst 1, 1) := chk_nth ocL_law_4 (k := 12) rfl
theorem dL_law_315 : decode cL_law 315 = .ok (.iadd, 1) := chk_nth ocL_law_4 (k := 13) rfl
theorem dL_law_316 : decode cL_law 316 = .ok (.iaload, 1) := chk_nth ocL_law_4 (k := 14) rfl
theorem dL_law_317 : decode cL_law 317 = .ok (.invokevirtual 26, 3) := chk_nth ocL_law_4 (k := 15) rfl
theorem dL_law_320 : decode cL_law 320 = .ok (.if_icmp .eq 1424, 3) := chk_nth ocL_law_4 (k := 16) rfl
theorem dL_law_323 : decode cL_law 323 = .ok (.iconst 0, 1) := chk_nth ocL_law_4 (k := 17) rfl
theorem dL_law_324 : decode cL_law 324 = .ok (.ireturn, 1) := chk_nth ocL_law_4 (k := 18) rfl
theorem dL_law_325 : decode cL_law 325 = .ok (.aload_n 1, 1) := chk_nth ocL_law_4 (k := 19) rfl
theorem dL_law_326 : decode cL_law 326 = .ok (.aload_n 0, 1) := chk_nth ocL_law_4 (k := 20) rfl
theorem dL_law_327 : decode cL_law 327 = .ok (.iload_n 3, 1) := chk_nth ocL_law_4 (k := 21) rfl
theorem dL_law_328 : decode cL_law 328 = .ok (.iconst 1, 1) := chk_nth ocL_law_4 (k := 22) rfl
theorem dL_law_329 : decode cL_law 329 = .ok (.iadd, 1) := chk_nth ocL_law_4 (k := 23) rfl
def tcL_law_5 : List (Instr × Nat) := [(.iaload, 1), (.aload_n 0, 1), (.iload_n 3, 1), (.iconst 2, 1), (.iadd, 1), (.iaload, 1), (.invokevirtual 27, 3), (.aload_n 2, 1), (.aload_n 0, 1), (.iload_n 3, 1), (.iconst 1, 1), (.iadd, 1), (.iaload, 1), (.aload_n 0, 1), (.iload_n 3, 1), (.iconst 2, 1), (.iadd, 1), (.iaload, 1), (.invokevirtual 31, 3), (.if_icmp .eq 1391, 3), (.iconst 0, 1), (.ireturn, 1), (.aload_n 1, 1), (.aload_n 0, 1)]
theorem ocL_law_5 : chk (cL_law.data.toList.drop 330) tcL_law_5 = true := by decide +kernel
theorem dL_law_330 : decode cL_law 330 = .ok (.iaload, 1) := chk_nth ocL_law_5 (k := 0) rfl
theorem dL_law_331 : decode cL_law 331 = .ok (.aload_n 0, 1) := chk_nth ocL_law_5 (k := 1) rfl
theorem dL_law_332 : decode cL_law 332 = .ok (.iload_n 3, 1) := chk_nth ocL_law_5 (k := 2) rfl
theorem dL_law_333 : decode cL_law 333 = .ok (.iconst 2, 1) := chk_nth ocL_law_5 (k := 3) rfl
theorem dL_law_334 : decode cL_law 334 = .ok (.iadd, 1) := chk_nth ocL_law_5 (k := 4) rfl
theorem dL_law_335 : decode cL_law 335 = .ok (.iaload, 1) := chk_nth ocL_law_5 (k := 5) rfl
theorem dL_law_336 : decode cL_law 336 = .ok (.invokevirtual 27, 3) := chk_nth ocL_law_5 (k := 6) rfl
theorem dL_law_339 : decode cL_law 339 = .ok (.aload_n 2, 1) := chk_nth ocL_law_5 (k := 7) rfl
theorem dL_law_340 : decode cL_law 340 = .ok (.aload_n 0, 1) := chk_nth ocL_law_5 (k := 8) rfl
theorem dL_law_341 : decode cL_law 341 = .ok (.iload_n 3, 1) := chk_nth ocL_law_5 (k := 9) rfl
theorem dL_law_342 : decode cL_law 342 = .ok (.iconst 1, 1) := chk_nth ocL_law_5 (k := 10) rfl
theorem dL_law_343 : decode cL_law 343 = .ok (.iadd, 1) := chk_nth ocL_law_5 (k := 11) rfl
theorem dL_law_344 : decode cL_law 344 = .ok (.iaload, 1) := chk_nth ocL_law_5 (k := 12) rfl
theorem dL_law_345 : decode cL_law 345 = .ok (.aload_n 0, 1) := chk_nth ocL_law_5 (k := 13) rfl
theorem dL_law_346 : decode cL_law 346 = .ok (.iload_n 3, 1) := chk_nth ocL_law_5 (k := 14) rfl
theorem dL_law_347 : decode cL_law 347 = .ok (.iconst 2, 1) := chk_nth ocL_law_5 (k := 15) rfl
theorem dL_law_348 : decode cL_law 348 = .ok (.iadd, 1) := chk_nth ocL_law_5 (k := 16) rfl
theorem dL_law_349 : decode cL_law 349 = .ok (.iaload, 1) := chk_nth ocL_law_5 (k := 17) rfl
theorem dL_law_350 : decode cL_law 350 = .ok (.invokevirtual 31, 3) := chk_nth ocL_law_5 (k := 18) rfl
theorem dL_law_353 : decode cL_law 353 = .ok (.if_icmp .eq 1391, 3) := chk_nth ocL_law_5 (k := 19) rfl
theorem dL_law_356 : decode cL_law 356 = .ok (.iconst 0, 1) := chk_nth ocL_law_5 (k := 20) rfl
theorem dL_law_357 : decode cL_law 357 = .ok (.ireturn, 1) := chk_nth ocL_law_5 (k := 21) rfl
theorem dL_law_358 : decode cL_law 358 = .ok (.aload_n 1, 1) := chk_nth ocL_law_5 (k := 22) rfl
theorem dL_law_359 : decode cL_law 359 = .ok (.aload_n 0, 1) := chk_nth ocL_law_5 (k := 23) rfl
def tcL_law_6 : List (Instr × Nat) := [(.iload_n 3, 1), (.iconst 1, 1), (.iadd, 1), (.iaload, 1), (.aload_n 0, 1), (.iload_n 3, 1), (.iconst 2, 1), (.iadd, 1), (.iaload, 1), (.invokevirtual 32, 3), (.aload_n 2, 1), (.aload_n 0, 1), (.iload_n 3, 1), (.iconst 1, 1), (.iadd, 1), (.iaload, 1), (.aload_n 0, 1), (.iload_n 3, 1), (.iconst 2, 1), (.iadd, 1), (.iaload, 1), (.invokevirtual 35, 3), (.if_icmp .eq 1358, 3), (.iconst 0, 1)]
theorem ocL_law_6 : chk (cL_law.data.toList.drop 360) tcL_law_6 = true := by decide +kernel
theorem dL_law_360 : decode cL_law 360 = .ok (.iload_n 3, 1) := chk_nth ocL_law_6 (k := 0) rfl
theorem dL_law_361 : decode cL_law 361 = .ok (.iconst 1, 1) := chk_nth ocL_law_6 (k := 1) rfl
theorem dL_law_362 : decode cL_law 362 = .ok (.iadd, 1) := chk_nth ocL_law_6 (k := 2) rfl
theorem dL_law_363 : decode cL_law 363 = .ok (.iaload, 1) := chk_nth ocL_law_6 (k := 3) rfl
theorem dL_law_364 : decode cL_law 364 = .ok (.aload_n 0, 1) := chk_nth ocL_law_6 (k := 4) rfl
theorem dL_law_365 : decode cL_law 365 = .ok (.iload_n 3, 1) := chk_nth ocL_law_6 (k := 5) rfl
theorem dL_law_366 : decode cL_law 366 = .ok (.iconst 2, 1) := chk_nth ocL_law_6 (k := 6) rfl
theorem dL_law_367 : decode cL_law 367 = .ok (.iadd, 1) := chk_nth ocL_law_6 (k := 7) rfl
theorem dL_law_368 : decode cL_law 368 = .ok (.iaload, 1) := chk_nth ocL_law_6 (k := 8) rfl
theorem dL_law_369 : decode cL_law 369 = .ok (.invokevirtual 32, 3) := chk_nth ocL_law_6 (k := 9) rfl
theorem dL_law_372 : decode cL_law 372 = .ok (.aload_n 2, 1) := chk_nth ocL_law_6 (k := 10) rfl
theorem dL_law_373 : decode cL_law 373 = .ok (.aload_n 0, 1) := chk_nth ocL_law_6 (k := 11) rfl
theorem dL_law_374 : decode cL_law 374 = .ok (.iload_n 3, 1) := chk_nth ocL_law_6 (k := 12) rfl
theorem dL_law_375 : decode cL_law 375 = .ok (.iconst 1, 1) := chk_nth ocL_law_6 (k := 13) rfl
theorem dL_law_376 : decode cL_law 376 = .ok (.iadd, 1) := chk_nth ocL_law_6 (k := 14) rfl
theorem dL_law_377 : decode cL_law 377 = .ok (.iaload, 1) := chk_nth ocL_law_6 (k := 15) rfl
theorem dL_law_378 : decode cL_law 378 = .ok (.aload_n 0, 1) := chk_nth ocL_law_6 (k := 16) rfl
theorem dL_law_379 : decode cL_law 379 = .ok (.iload_n 3, 1) := chk_nth ocL_law_6 (k := 17) rfl
theorem dL_law_380 : decode cL_law 380 = .ok (.iconst 2, 1) := chk_nth ocL_law_6 (k := 18) rfl
theorem dL_law_381 : decode cL_law 381 = .ok (.iadd, 1) := chk_nth ocL_law_6 (k := 19) rfl
theorem dL_law_382 : decode cL_law 382 = .ok (.iaload, 1) := chk_nth ocL_law_6 (k := 20) rfl
theorem dL_law_383 : decode cL_law 383 = .ok (.invokevirtual 35, 3) := chk_nth ocL_law_6 (k := 21) rfl
theorem dL_law_386 : decode cL_law 386 = .ok (.if_icmp .eq 1358, 3) := chk_nth ocL_law_6 (k := 22) rfl
theorem dL_law_389 : decode cL_law 389 = .ok (.iconst 0, 1) := chk_nth ocL_law_6 (k := 23) rfl
def tcL_law_7 : List (Instr × Nat) := [(.ireturn, 1), (.aload_n 1, 1), (.aload_n 0, 1), (.iload_n 3, 1), (.iconst 1, 1), (.iadd, 1), (.iaload, 1), (.aload_n 0, 1), (.iload_n 3, 1), (.iconst 2, 1), (.iadd, 1), (.iaload, 1), (.invokevirtual 36, 3), (.aload_n 2, 1), (.aload_n 0, 1), (.iload_n 3, 1), (.iconst 1, 1), (.iadd, 1), (.iaload, 1), (.aload_n 0, 1), (.iload_n 3, 1), (.iconst 2, 1), (.iadd, 1), (.iaload, 1)]
theorem ocL_law_7 : chk (cL_law.data.toList.drop 390) tcL_law_7 = true := by decide +kernel
theorem dL_law_390 : decode cL_law 390 = .ok (.ireturn, 1) := chk_nth ocL_law_7 (k := 0) rfl
theorem dL_law_391 : decode cL_law 391 = .ok (.aload_n 1, 1) := chk_nth ocL_law_7 (k := 1) rfl
theorem dL_law_392 : decode cL_law 392 = .ok (.aload_n 0, 1) := chk_nth ocL_law_7 (k := 2) rfl
theorem dL_law_393 : decode cL_law 393 = .ok (.iload_n 3, 1) := chk_nth ocL_law_7 (k := 3) rfl
theorem dL_law_394 : decode cL_law 394 = .ok (.iconst 1, 1) := chk_nth ocL_law_7 (k := 4) rfl
theorem dL_law_395 : decode cL_law 395 = .ok (.iadd, 1) := chk_nth ocL_law_7 (k := 5) rfl
theorem dL_law_396 : decode cL_law 396 = .ok (.iaload, 1) := chk_nth ocL_law_7 (k := 6) rfl
theorem dL_law_397 : decode cL_law 397 = .ok (.aload_n 0, 1) := chk_nth ocL_law_7 (k := 7) rfl
theorem dL_law_398 : decode cL_law 398 = .ok (.iload_n 3, 1) := chk_nth ocL_law_7 (k := 8) rfl
theorem dL_law_399 : decode cL_law 399 = .ok (.iconst 2, 1) := chk_nth ocL_law_7 (k := 9) rfl
theorem dL_law_400 : decode cL_law 400 = .ok (.iadd, 1) := chk_nth ocL_law_7 (k := 10) rfl
theorem dL_law_401 : decode cL_law 401 = .ok (.iaload, 1) := chk_nth ocL_law_7 (k := 11) rfl
theorem dL_law_402 : decode cL_law 402 = .ok (.invokevirtual 36, 3) := chk_nth ocL_law_7 (k := 12) rfl
theorem dL_law_405 : decode cL_law 405 = .ok (.aload_n 2, 1) := chk_nth ocL_law_7 (k := 13) rfl
theorem dL_law_406 : decode cL_law 406 = .ok (.aload_n 0, 1) := chk_nth ocL_law_7 (k := 14) rfl
theorem dL_law_407 : decode cL_law 407 = .ok (.iload_n 3, 1) := chk_nth ocL_law_7 (k := 15) rfl
theorem dL_law_408 : decode cL_law 408 = .ok (.iconst 1, 1) := chk_nth ocL_law_7 (k := 16) rfl
theorem dL_law_409 : decode cL_law 409 = .ok (.iadd, 1) := chk_nth ocL_law_7 (k := 17) rfl
theorem dL_law_410 : decode cL_law 410 = .ok (.iaload, 1) := chk_nth ocL_law_7 (k := 18) rfl
theorem dL_law_411 : decode cL_law 411 = .ok (.aload_n 0, 1) := chk_nth ocL_law_7 (k := 19) rfl
theorem dL_law_412 : decode cL_law 412 = .ok (.iload_n 3, 1) := chk_nth ocL_law_7 (k := 20) rfl
theorem dL_law_413 : decode cL_law 413 = .ok (.iconst 2, 1) := chk_nth ocL_law_7 (k := 21) rfl
theorem dL_law_414 : decode cL_law 414 = .ok (.iadd, 1) := chk_nth ocL_law_7 (k := 22) rfl
theorem dL_law_415 : decode cL_law 415 = .ok (.iaload, 1) := chk_nth ocL_law_7 (k := 23) rfl
def tcL_law_8 : List (Instr × Nat) := [(.invokevirtual 39, 3), (.if_icmp .eq 1325, 3), (.iconst 0, 1), (.ireturn, 1), (.aload_n 1, 1), (.aload_n 0, 1), (.iload_n 3, 1), (.iconst 1, 1), (.iadd, 1), (.iaload, 1), (.aload_n 0, 1), (.iload_n 3, 1), (.iconst 2, 1), (.iadd, 1), (.iaload, 1), (.aload_n 0, 1), (.iload_n 3, 1), (.iconst 3, 1), (.iadd, 1), (.iaload, 1), (.invokevirtual 40, 3), (.aload_n 2, 1), (.aload_n 0, 1), (.iload_n 3, 1)]
theorem ocL_law_8 : chk (cL_law.data.toList.drop 416) tcL_law_8 = true := by decide +kernel
theorem dL_law_416 : decode cL_law 416 = .ok (.invokevirtual 39, 3) := chk_nth ocL_law_8 (k := 0) rfl
theorem dL_law_419 : decode cL_law 419 = .ok (.if_icmp .eq 1325, 3) := chk_nth ocL_law_8 (k := 1) rfl
theorem dL_law_422 : decode cL_law 422 = .ok (.iconst 0, 1) := chk_nth ocL_law_8 (k := 2) rfl
theorem dL_law_423 : decode cL_law 423 = .ok (.ireturn, 1) := chk_nth ocL_law_8 (k := 3) rfl
theorem dL_law_424 : decode cL_law 424 = .ok (.aload_n 1, 1) := chk_nth ocL_law_8 (k := 4) rfl
theorem dL_law_425 : decode cL_law 425 = .ok (.aload_n 0, 1) := chk_nth ocL_law_8 (k := 5) rfl
theorem dL_law_426 : decode cL_law 426 = .ok (.iload_n 3, 1) := chk_nth ocL_law_8 (k := 6) rfl
theorem dL_law_427 : decode cL_law 427 = .ok (.iconst 1, 1) := chk_nth ocL_law_8 (k := 7) rfl
theorem dL_law_428 : decode cL_law 428 = .ok (.iadd, 1) := chk_nth ocL_law_8 (k := 8) rfl
theorem dL_law_429 : decode cL_law 429 = .ok (.iaload, 1) := chk_nth ocL_law_8 (k := 9) rfl
theorem dL_law_430 : decode cL_law 430 = .ok (.aload_n 0, 1) := chk_nth ocL_law_8 (k := 10) rfl
theorem dL_law_431 : decode cL_law 431 = .ok (.iload_n 3, 1) := chk_nth ocL_law_8 (k := 11) rfl
theorem dL_law_432 : decode cL_law 432 = .ok (.iconst 2, 1) := chk_nth ocL_law_8 (k := 12) rfl
theorem dL_law_433 : decode cL_law 433 = .ok (.iadd, 1) := chk_nth ocL_law_8 (k := 13) rfl
theorem dL_law_434 : decode cL_law 434 = .ok (.iaload, 1) := chk_nth ocL_law_8 (k := 14) rfl
theorem dL_law_435 : decode cL_law 435 = .ok (.aload_n 0, 1) := chk_nth ocL_law_8 (k := 15) rfl
theorem dL_law_436 : decode cL_law 436 = .ok (.iload_n 3, 1) := chk_nth ocL_law_8 (k := 16) rfl
theorem dL_law_437 : decode cL_law 437 = .ok (.iconst 3, 1) := chk_nth ocL_law_8 (k := 17) rfl
theorem dL_law_438 : decode cL_law 438 = .ok (.iadd, 1) := chk_nth ocL_law_8 (k := 18) rfl
theorem dL_law_439 : decode cL_law 439 = .ok (.iaload, 1) := chk_nth ocL_law_8 (k := 19) rfl
theorem dL_law_440 : decode cL_law 440 = .ok (.invokevirtual 40, 3) := chk_nth ocL_law_8 (k := 20) rfl
theorem dL_law_443 : decode cL_law 443 = .ok (.aload_n 2, 1) := chk_nth ocL_law_8 (k := 21) rfl
theorem dL_law_444 : decode cL_law 444 = .ok (.aload_n 0, 1) := chk_nth ocL_law_8 (k := 22) rfl
theorem dL_law_445 : decode cL_law 445 = .ok (.iload_n 3, 1) := chk_nth ocL_law_8 (k := 23) rfl
def tcL_law_9 : List (Instr × Nat) := [(.iconst 1, 1), (.iadd, 1), (.iaload, 1), (.aload_n 0, 1), (.iload_n 3, 1), (.iconst 2, 1), (.iadd, 1), (.iaload, 1), (.aload_n 0, 1), (.iload_n 3, 1), (.iconst 3, 1), (.iadd, 1), (.iaload, 1), (.invokevirtual 44, 3), (.if_icmp .eq 1282, 3), (.iconst 0, 1), (.ireturn, 1), (.aload_n 1, 1), (.aload_n 0, 1), (.iload_n 3, 1), (.iconst 1, 1), (.iadd, 1), (.iaload, 1), (.aload_n 0, 1)]
theorem ocL_law_9 : chk (cL_law.data.toList.drop 446) tcL_law_9 = true := by decide +kernel
theorem dL_law_446 : decode cL_law 446 = .ok (.iconst 1, 1) := chk_nth ocL_law_9 (k := 0) rfl
theorem dL_law_447 : decode cL_law 447 = .ok (.iadd, 1) := chk_nth ocL_law_9 (k := 1) rfl
theorem dL_law_448 : decode cL_law 448 = .ok (.iaload, 1) := chk_nth ocL_law_9 (k := 2) rfl
theorem dL_law_449 : decode cL_law 449 = .ok (.aload_n 0, 1) := chk_nth ocL_law_9 (k := 3) rfl
theorem dL_law_450 : decode cL_law 450 = .ok (.iload_n 3, 1) := chk_nth ocL_law_9 (k := 4) rfl
theorem dL_law_451 : decode cL_law 451 = .ok (.iconst 2, 1) := chk_nth ocL_law_9 (k := 5) rfl
theorem dL_law_452 : decode cL_law 452 = .ok (.iadd, 1) := chk_nth ocL_law_9 (k := 6) rfl
theorem dL_law_453 : decode cL_law 453 = .ok (.iaload, 1) := chk_nth ocL_law_9 (k := 7) rfl
theorem dL_law_454 : decode cL_law 454 = .ok (.aload_n 0, 1) := chk_nth ocL_law_9 (k := 8) rfl
theorem dL_law_455 : decode cL_law 455 = .ok (.iload_n 3, 1) := chk_nth ocL_law_9 (k := 9) rfl
theorem dL_law_456 : decode cL_law 456 = .ok (.iconst 3, 1) := chk_nth ocL_law_9 (k := 10) rfl
theorem dL_law_457 : decode cL_law 457 = .ok (.iadd, 1) := chk_nth ocL_law_9 (k := 11) rfl
theorem dL_law_458 : decode cL_law 458 = .ok (.iaload, 1) := chk_nth ocL_law_9 (k := 12) rfl
theorem dL_law_459 : decode cL_law 459 = .ok (.invokevirtual 44, 3) := chk_nth ocL_law_9 (k := 13) rfl
theorem dL_law_462 : decode cL_law 462 = .ok (.if_icmp .eq 1282, 3) := chk_nth ocL_law_9 (k := 14) rfl
theorem dL_law_465 : decode cL_law 465 = .ok (.iconst 0, 1) := chk_nth ocL_law_9 (k := 15) rfl
theorem dL_law_466 : decode cL_law 466 = .ok (.ireturn, 1) := chk_nth ocL_law_9 (k := 16) rfl
theorem dL_law_467 : decode cL_law 467 = .ok (.aload_n 1, 1) := chk_nth ocL_law_9 (k := 17) rfl
theorem dL_law_468 : decode cL_law 468 = .ok (.aload_n 0, 1) := chk_nth ocL_law_9 (k := 18) rfl
theorem dL_law_469 : decode cL_law 469 = .ok (.iload_n 3, 1) := chk_nth ocL_law_9 (k := 19) rfl
theorem dL_law_470 : decode cL_law 470 = .ok (.iconst 1, 1) := chk_nth ocL_law_9 (k := 20) rfl
theorem dL_law_471 : decode cL_law 471 = .ok (.iadd, 1) := chk_nth ocL_law_9 (k := 21) rfl
theorem dL_law_472 : decode cL_law 472 = .ok (.iaload, 1) := chk_nth ocL_law_9 (k := 22) rfl
theorem dL_law_473 : decode cL_law 473 = .ok (.aload_n 0, 1) := chk_nth ocL_law_9 (k := 23) rfl
def tcL_law_10 : List (Instr × Nat) := [(.iload_n 3, 1), (.iconst 2, 1), (.iadd, 1), (.iaload, 1), (.invokevirtual 45, 3), (.aload_n 2, 1), (.aload_n 0, 1), (.iload_n 3, 1), (.iconst 1, 1), (.iadd, 1), (.iaload, 1), (.aload_n 0, 1), (.iload_n 3, 1), (.iconst 2, 1), (.iadd, 1), (.iaload, 1), (.invokevirtual 48, 3), (.if_icmp .eq 1249, 3), (.iconst 0, 1), (.ireturn, 1), (.aload_n 1, 1), (.aload_n 0, 1), (.iload_n 3, 1), (.iconst 1, 1)]
theorem ocL_law_10 : chk (cL_law.data.toList.drop 474) tcL_law_10 = true := by decide +kernel
theorem dL_law_474 : decode cL_law 474 = .ok (.iload_n 3, 1) := chk_nth ocL_law_10 (k := 0) rfl
theorem dL_law_475 : decode cL_law 475 = .ok (.iconst 2, 1) := chk_nth ocL_law_10 (k := 1) rfl
theorem dL_law_476 : decode cL_law 476 = .ok (.iadd, 1) := chk_nth ocL_law_10 (k := 2) rfl
theorem dL_law_477 : decode cL_law 477 = .ok (.iaload, 1) := chk_nth ocL_law_10 (k := 3) rfl
theorem dL_law_478 : decode cL_law 478 = .ok (.invokevirtual 45, 3) := chk_nth ocL_law_10 (k := 4) rfl
theorem dL_law_481 : decode cL_law 481 = .ok (.aload_n 2, 1) := chk_nth ocL_law_10 (k := 5) rfl
theorem dL_law_482 : decode cL_law 482 = .ok (.aload_n 0, 1) := chk_nth ocL_law_10 (k := 6) rfl
theorem dL_law_483 : decode cL_law 483 = .ok (.iload_n 3, 1) := chk_nth ocL_law_10 (k := 7) rfl
theorem dL_law_484 : decode cL_law 484 = .ok (.iconst 1, 1) := chk_nth ocL_law_10 (k := 8) rfl
theorem dL_law_485 : decode cL_law 485 = .ok (.iadd, 1) := chk_nth ocL_law_10 (k := 9) rfl
theorem dL_law_486 : decode cL_law 486 = .ok (.iaload, 1) := chk_nth ocL_law_10 (k := 10) rfl
theorem dL_law_487 : decode cL_law 487 = .ok (.aload_n 0, 1) := chk_nth ocL_law_10 (k := 11) rfl
theorem dL_law_488 : decode cL_law 488 = .ok (.iload_n 3, 1) := chk_nth ocL_law_10 (k := 12) rfl
theorem dL_law_489 : decode cL_law 489 = .ok (.iconst 2, 1) := chk_nth ocL_law_10 (k := 13) rfl
theorem dL_law_490 : decode cL_law 490 = .ok (.iadd, 1) := chk_nth ocL_law_10 (k := 14) rfl
theorem dL_law_491 : decode cL_law 491 = .ok (.iaload, 1) := chk_nth ocL_law_10 (k := 15) rfl
theorem dL_law_492 : decode cL_law 492 = .ok (.invokevirtual 48, 3) := chk_nth ocL_law_10 (k := 16) rfl
theorem dL_law_495 : decode cL_law 495 = .ok (.if_icmp .eq 1249, 3) := chk_nth ocL_law_10 (k := 17) rfl
theorem dL_law_498 : decode cL_law 498 = .ok (.iconst 0, 1) := chk_nth ocL_law_10 (k := 18) rfl
theorem dL_law_499 : decode cL_law 499 = .ok (.ireturn, 1) := chk_nth ocL_law_10 (k := 19) rfl
theorem dL_law_500 : decode cL_law 500 = .ok (.aload_n 1, 1) := chk_nth ocL_law_10 (k := 20) rfl
theorem dL_law_501 : decode cL_law 501 = .ok (.aload_n 0, 1) := chk_nth ocL_law_10 (k := 21) rfl
theorem dL_law_502 : decode cL_law 502 = .ok (.iload_n 3, 1) := chk_nth ocL_law_10 (k := 22) rfl
theorem dL_law_503 : decode cL_law 503 = .ok (.iconst 1, 1) := chk_nth ocL_law_10 (k := 23) rfl
def tcL_law_11 : List (Instr × Nat) := [(.iadd, 1), (.iaload, 1), (.aload_n 0, 1), (.iload_n 3, 1), (.iconst 2, 1), (.iadd, 1), (.iaload, 1), (.invokevirtual 49, 3), (.aload_n 2, 1), (.aload_n 0, 1), (.iload_n 3, 1), (.iconst 1, 1), (.iadd, 1), (.iaload, 1), (.aload_n 0, 1), (.iload_n 3, 1), (.iconst 2, 1), (.iadd, 1), (.iaload, 1), (.invokevirtual 52, 3), (.if_icmp .eq 1216, 3), (.iconst 0, 1), (.ireturn, 1), (.aload_n 1, 1)]
theorem ocL_law_11 : chk (cL_law.data.toList.drop 504) tcL_law_11 = true := by decide +kernel
theorem dL_law_504 : decode cL_law 504 = .ok (.iadd, 1) := chk_nth ocL_law_11 (k := 0) rfl
theorem dL_law_505 : decode cL_law 505 = .ok (.iaload, 1) := chk_nth ocL_law_11 (k := 1) rfl
theorem dL_law_506 : decode cL_law 506 = .ok (.aload_n 0, 1) := chk_nth ocL_law_11 (k := 2) rfl
theorem dL_law_507 : decode cL_law 507 = .ok (.iload_n 3, 1) := chk_nth ocL_law_11 (k := 3) rfl
theorem dL_law_508 : decode cL_law 508 = .ok (.iconst 2, 1) := chk_nth ocL_law_11 (k := 4) rfl
theorem dL_law_509 : decode cL_law 509 = .ok (.iadd, 1) := chk_nth ocL_law_11 (k := 5) rfl
theorem dL_law_510 : decode cL_law 510 = .ok (.iaload, 1) := chk_nth ocL_law_11 (k := 6) rfl
theorem dL_law_511 : decode cL_law 511 = .ok (.invokevirtual 49, 3) := chk_nth ocL_law_11 (k := 7) rfl
theorem dL_law_514 : decode cL_law 514 = .ok (.aload_n 2, 1) := chk_nth ocL_law_11 (k := 8) rfl
theorem dL_law_515 : decode cL_law 515 = .ok (.aload_n 0, 1) := chk_nth ocL_law_11 (k := 9) rfl
theorem dL_law_516 : decode cL_law 516 = .ok (.iload_n 3, 1) := chk_nth ocL_law_11 (k := 10) rfl
theorem dL_law_517 : decode cL_law 517 = .ok (.iconst 1, 1) := chk_nth ocL_law_11 (k := 11) rfl
theorem dL_law_518 : decode cL_law 518 = .ok (.iadd, 1) := chk_nth ocL_law_11 (k := 12) rfl
theorem dL_law_519 : decode cL_law 519 = .ok (.iaload, 1) := chk_nth ocL_law_11 (k := 13) rfl
theorem dL_law_520 : decode cL_law 520 = .ok (.aload_n 0, 1) := chk_nth ocL_law_11 (k := 14) rfl
theorem dL_law_521 : decode cL_law 521 = .ok (.iload_n 3, 1) := chk_nth ocL_law_11 (k := 15) rfl
theorem dL_law_522 : decode cL_law 522 = .ok (.iconst 2, 1) := chk_nth ocL_law_11 (k := 16) rfl
theorem dL_law_523 : decode cL_law 523 = .ok (.iadd, 1) := chk_nth ocL_law_11 (k := 17) rfl
theorem dL_law_524 : decode cL_law 524 = .ok (.iaload, 1) := chk_nth ocL_law_11 (k := 18) rfl
theorem dL_law_525 : decode cL_law 525 = .ok (.invokevirtual 52, 3) := chk_nth ocL_law_11 (k := 19) rfl
theorem dL_law_528 : decode cL_law 528 = .ok (.if_icmp .eq 1216, 3) := chk_nth ocL_law_11 (k := 20) rfl
theorem dL_law_531 : decode cL_law 531 = .ok (.iconst 0, 1) := chk_nth ocL_law_11 (k := 21) rfl
theorem dL_law_532 : decode cL_law 532 = .ok (.ireturn, 1) := chk_nth ocL_law_11 (k := 22) rfl
theorem dL_law_533 : decode cL_law 533 = .ok (.aload_n 1, 1) := chk_nth ocL_law_11 (k := 23) rfl
def tcL_law_12 : List (Instr × Nat) := [(.aload_n 0, 1), (.iload_n 3, 1), (.iconst 1, 1), (.iadd, 1), (.iaload, 1), (.invokevirtual 53, 3), (.aload_n 2, 1), (.aload_n 0, 1), (.iload_n 3, 1), (.iconst 1, 1), (.iadd, 1), (.iaload, 1), (.invokevirtual 56, 3), (.if_icmp .eq 1193, 3), (.iconst 0, 1), (.ireturn, 1), (.aload_n 1, 1), (.aload_n 0, 1), (.iload_n 3, 1), (.iconst 1, 1), (.iadd, 1), (.iaload, 1), (.aload_n 0, 1), (.iload_n 3, 1)]
theorem ocL_law_12 : chk (cL_law.data.toList.drop 534) tcL_law_12 = true := by decide +kernel
theorem dL_law_534 : decode cL_law 534 = .ok (.aload_n 0, 1) := chk_nth ocL_law_12 (k := 0) rfl
theorem dL_law_535 : decode cL_law 535 = .ok (.iload_n 3, 1) := chk_nth ocL_law_12 (k := 1) rfl
theorem dL_law_536 : decode cL_law 536 = .ok (.iconst 1, 1) := chk_nth ocL_law_12 (k := 2) rfl
theorem dL_law_537 : decode cL_law 537 = .ok (.iadd, 1) := chk_nth ocL_law_12 (k := 3) rfl
theorem dL_law_538 : decode cL_law 538 = .ok (.iaload, 1) := chk_nth ocL_law_12 (k := 4) rfl
theorem dL_law_539 : decode cL_law 539 = .ok (.invokevirtual 53, 3) := chk_nth ocL_law_12 (k := 5) rfl
theorem dL_law_542 : decode cL_law 542 = .ok (.aload_n 2, 1) := chk_nth ocL_law_12 (k := 6) rfl
theorem dL_law_543 : decode cL_law 543 = .ok (.aload_n 0, 1) := chk_nth ocL_law_12 (k := 7) rfl
theorem dL_law_544 : decode cL_law 544 = .ok (.iload_n 3, 1) := chk_nth ocL_law_12 (k := 8) rfl
theorem dL_law_545 : decode cL_law 545 = .ok (.iconst 1, 1) := chk_nth ocL_law_12 (k := 9) rfl
theorem dL_law_546 : decode cL_law 546 = .ok (.iadd, 1) := chk_nth ocL_law_12 (k := 10) rfl
theorem dL_law_547 : decode cL_law 547 = .ok (.iaload, 1) := chk_nth ocL_law_12 (k := 11) rfl
theorem dL_law_548 : decode cL_law 548 = .ok (.invokevirtual 56, 3) := chk_nth ocL_law_12 (k := 12) rfl
theorem dL_law_551 : decode cL_law 551 = .ok (.if_icmp .eq 1193, 3) := chk_nth ocL_law_12 (k := 13) rfl
theorem dL_law_554 : decode cL_law 554 = .ok (.iconst 0, 1) := chk_nth ocL_law_12 (k := 14) rfl
theorem dL_law_555 : decode cL_law 555 = .ok (.ireturn, 1) := chk_nth ocL_law_12 (k := 15) rfl
theorem dL_law_556 : decode cL_law 556 = .ok (.aload_n 1, 1) := chk_nth ocL_law_12 (k := 16) rfl
theorem dL_law_557 : decode cL_law 557 = .ok (.aload_n 0, 1) := chk_nth ocL_law_12 (k := 17) rfl
theorem dL_law_558 : decode cL_law 558 = .ok (.iload_n 3, 1) := chk_nth ocL_law_12 (k := 18) rfl
theorem dL_law_559 : decode cL_law 559 = .ok (.iconst 1, 1) := chk_nth ocL_law_12 (k := 19) rfl
theorem dL_law_560 : decode cL_law 560 = .ok (.iadd, 1) := chk_nth ocL_law_12 (k := 20) rfl
theorem dL_law_561 : decode cL_law 561 = .ok (.iaload, 1) := chk_nth ocL_law_12 (k := 21) rfl
theorem dL_law_562 : decode cL_law 562 = .ok (.aload_n 0, 1) := chk_nth ocL_law_12 (k := 22) rfl
theorem dL_law_563 : decode cL_law 563 = .ok (.iload_n 3, 1) := chk_nth ocL_law_12 (k := 23) rfl
def tcL_law_13 : List (Instr × Nat) := [(.iconst 2, 1), (.iadd, 1), (.iaload, 1), (.aload_n 0, 1), (.iload_n 3, 1), (.iconst 3, 1), (.iadd, 1), (.iaload, 1), (.invokevirtual 57, 3), (.aload_n 2, 1), (.aload_n 0, 1), (.iload_n 3, 1), (.iconst 1, 1), (.iadd, 1), (.iaload, 1), (.aload_n 0, 1), (.iload_n 3, 1), (.iconst 2, 1), (.iadd, 1), (.iaload, 1), (.aload_n 0, 1), (.iload_n 3, 1), (.iconst 3, 1), (.iadd, 1)]
theorem ocL_law_13 : chk (cL_law.data.toList.drop 564) tcL_law_13 = true := by decide +kernel
theorem dL_law_564 : decode cL_law 564 = .ok (.iconst 2, 1) := chk_nth ocL_law_13 (k := 0) rfl
theorem dL_law_565 : decode cL_law 565 = .ok (.iadd, 1) := chk_nth ocL_law_13 (k := 1) rfl
theorem dL_law_566 : decode cL_law 566 = .ok (.iaload, 1) := chk_nth ocL_law_13 (k := 2) rfl
theorem dL_law_567 : decode cL_law 567 = .ok (.aload_n 0, 1) := chk_nth ocL_law_13 (k := 3) rfl
theorem dL_law_568 : decode cL_law 568 = .ok (.iload_n 3, 1) := chk_nth ocL_law_13 (k := 4) rfl
theorem dL_law_569 : decode cL_law 569 = .ok (.iconst 3, 1) := chk_nth ocL_law_13 (k := 5) rfl
theorem dL_law_570 : decode cL_law 570 = .ok (.iadd, 1) := chk_nth ocL_law_13 (k := 6) rfl
theorem dL_law_571 : decode cL_law 571 = .ok (.iaload, 1) := chk_nth ocL_law_13 (k := 7) rfl
theorem dL_law_572 : decode cL_law 572 = .ok (.invokevirtual 57, 3) := chk_nth ocL_law_13 (k := 8) rfl
theorem dL_law_575 : decode cL_law 575 = .ok (.aload_n 2, 1) := chk_nth ocL_law_13 (k := 9) rfl
theorem dL_law_576 : decode cL_law 576 = .ok (.aload_n 0, 1) := chk_nth ocL_law_13 (k := 10) rfl
theorem dL_law_577 : decode cL_law 577 = .ok (.iload_n 3, 1) := chk_nth ocL_law_13 (k := 11) rfl
theorem dL_law_578 : decode cL_law 578 = .ok (.iconst 1, 1) := chk_nth ocL_law_13 (k := 12) rfl
theorem dL_law_579 : decode cL_law 579 = .ok (.iadd, 1) := chk_nth ocL_law_13 (k := 13) rfl
theorem dL_law_580 : decode cL_law 580 = .ok (.iaload, 1) := chk_nth ocL_law_13 (k := 14) rfl
theorem dL_law_581 : decode cL_law 581 = .ok (.aload_n 0, 1) := chk_nth ocL_law_13 (k := 15) rfl
theorem dL_law_582 : decode cL_law 582 = .ok (.iload_n 3, 1) := chk_nth ocL_law_13 (k := 16) rfl
theorem dL_law_583 : decode cL_law 583 = .ok (.iconst 2, 1) := chk_nth ocL_law_13 (k := 17) rfl
theorem dL_law_584 : decode cL_law 584 = .ok (.iadd, 1) := chk_nth ocL_law_13 (k := 18) rfl
theorem dL_law_585 : decode cL_law 585 = .ok (.iaload, 1) := chk_nth ocL_law_13 (k := 19) rfl
theorem dL_law_586 : decode cL_law 586 = .ok (.aload_n 0, 1) := chk_nth ocL_law_13 (k := 20) rfl
theorem dL_law_587 : decode cL_law 587 = .ok (.iload_n 3, 1) := chk_nth ocL_law_13 (k := 21) rfl
theorem dL_law_588 : decode cL_law 588 = .ok (.iconst 3, 1) := chk_nth ocL_law_13 (k := 22) rfl
theorem dL_law_589 : decode cL_law 589 = .ok (.iadd, 1) := chk_nth ocL_law_13 (k := 23) rfl
def tcL_law_14 : List (Instr × Nat) := [(.iaload, 1), (.invokevirtual 60, 3), (.if_icmp .eq 1150, 3), (.iconst 0, 1), (.ireturn, 1), (.aload_n 1, 1), (.aload_n 0, 1), (.iload_n 3, 1), (.iconst 1, 1), (.iadd, 1), (.iaload, 1), (.invokevirtual 61, 3), (.aload_n 2, 1), (.aload_n 0, 1), (.iload_n 3, 1), (.iconst 1, 1), (.iadd, 1), (.iaload, 1), (.invokevirtual 64, 3), (.if_icmp .eq 1127, 3), (.iconst 0, 1), (.ireturn, 1), (.aload_n 1, 1), (.aload_n 0, 1)]
theorem ocL_law_14 : chk (cL_law.data.toList.drop 590) tcL_law_14 = true := by decide +kernel
theorem dL_law_590 : decode cL_law 590 = .ok (.iaload, 1) := chk_nth ocL_law_14 (k := 0) rfl
theorem dL_law_591 : decode cL_law 591 = .ok (.invokevirtual 60, 3) := chk_nth ocL_law_14 (k := 1) rfl
theorem dL_law_594 : decode cL_law 594 = .ok (.if_icmp .eq 1150, 3) := chk_nth ocL_law_14 (k := 2) rfl
theorem dL_law_597 : decode cL_law 597 = .ok (.iconst 0, 1) := chk_nth ocL_law_14 (k := 3) rfl
theorem dL_law_598 : decode cL_law 598 = .ok (.ireturn, 1) := chk_nth ocL_law_14 (k := 4) rfl
theorem dL_law_599 : decode cL_law 599 = .ok (.aload_n 1, 1) := chk_nth ocL_law_14 (k := 5) rfl
theorem dL_law_600 : decode cL_law 600 = .ok (.aload_n 0, 1) := chk_nth ocL_law_14 (k := 6) rfl
theorem dL_law_601 : decode cL_law 601 = .ok (.iload_n 3, 1) := chk_nth ocL_law_14 (k := 7) rfl
theorem dL_law_602 : decode cL_law 602 = .ok (.iconst 1, 1) := chk_nth ocL_law_14 (k := 8) rfl
theorem dL_law_603 : decode cL_law 603 = .ok (.iadd, 1) := chk_nth ocL_law_14 (k := 9) rfl
theorem dL_law_604 : decode cL_law 604 = .ok (.iaload, 1) := chk_nth ocL_law_14 (k := 10) rfl
theorem dL_law_605 : decode cL_law 605 = .ok (.invokevirtual 61, 3) := chk_nth ocL_law_14 (k := 11) rfl
theorem dL_law_608 : decode cL_law 608 = .ok (.aload_n 2, 1) := chk_nth ocL_law_14 (k := 12) rfl
theorem dL_law_609 : decode cL_law 609 = .ok (.aload_n 0, 1) := chk_nth ocL_law_14 (k := 13) rfl
theorem dL_law_610 : decode cL_law 610 = .ok (.iload_n 3, 1) := chk_nth ocL_law_14 (k := 14) rfl
theorem dL_law_611 : decode cL_law 611 = .ok (.iconst 1, 1) := chk_nth ocL_law_14 (k := 15) rfl
theorem dL_law_612 : decode cL_law 612 = .ok (.iadd, 1) := chk_nth ocL_law_14 (k := 16) rfl
theorem dL_law_613 : decode cL_law 613 = .ok (.iaload, 1) := chk_nth ocL_law_14 (k := 17) rfl
theorem dL_law_614 : decode cL_law 614 = .ok (.invokevirtual 64, 3) := chk_nth ocL_law_14 (k := 18) rfl
theorem dL_law_617 : decode cL_law 617 = .ok (.if_icmp .eq 1127, 3) := chk_nth ocL_law_14 (k := 19) rfl
theorem dL_law_620 : decode cL_law 620 = .ok (.iconst 0, 1) := chk_nth ocL_law_14 (k := 20) rfl
theorem dL_law_621 : decode cL_law 621 = .ok (.ireturn, 1) := chk_nth ocL_law_14 (k := 21) rfl
theorem dL_law_622 : decode cL_law 622 = .ok (.aload_n 1, 1) := chk_nth ocL_law_14 (k := 22) rfl
theorem dL_law_623 : decode cL_law 623 = .ok (.aload_n 0, 1) := chk_nth ocL_law_14 (k := 23) rfl
def tcL_law_15 : List (Instr × Nat) := [(.iload_n 3, 1), (.iconst 1, 1), (.iadd, 1), (.iaload, 1), (.aload_n 0, 1), (.iload_n 3, 1), (.iconst 2, 1), (.iadd, 1), (.iaload, 1), (.invokevirtual 65, 3), (.aload_n 2, 1), (.aload_n 0, 1), (.iload_n 3, 1), (.iconst 1, 1), (.iadd, 1), (.iaload, 1), (.aload_n 0, 1), (.iload_n 3, 1), (.iconst 2, 1), (.iadd, 1), (.iaload, 1), (.invokevirtual 68, 3), (.if_icmp .eq 1094, 3), (.iconst 0, 1)]
theorem ocL_law_15 : chk (cL_law.data.toList.drop 624) tcL_law_15 = true := by decide +kernel
theorem dL_law_624 : decode cL_law 624 = .ok (.iload_n 3, 1) := chk_nth ocL_law_15 (k := 0) rfl
theorem dL_law_625 : decode cL_law 625 = .ok (.iconst 1, 1) := chk_nth ocL_law_15 (k := 1) rfl
theorem dL_law_626 : decode cL_law 626 = .ok (.iadd, 1) := chk_nth ocL_law_15 (k := 2) rfl
theorem dL_law_627 : decode cL_law 627 = .ok (.iaload, 1) := chk_nth ocL_law_15 (k := 3) rfl
theorem dL_law_628 : decode cL_law 628 = .ok (.aload_n 0, 1) := chk_nth ocL_law_15 (k := 4) rfl
theorem dL_law_629 : decode cL_law 629 = .ok (.iload_n 3, 1) := chk_nth ocL_law_15 (k := 5) rfl
theorem dL_law_630 : decode cL_law 630 = .ok (.iconst 2, 1) := chk_nth ocL_law_15 (k := 6) rfl
theorem dL_law_631 : decode cL_law 631 = .ok (.iadd, 1) := chk_nth ocL_law_15 (k := 7) rfl
theorem dL_law_632 : decode cL_law 632 = .ok (.iaload, 1) := chk_nth ocL_law_15 (k := 8) rfl
theorem dL_law_633 : decode cL_law 633 = .ok (.invokevirtual 65, 3) := chk_nth ocL_law_15 (k := 9) rfl
theorem dL_law_636 : decode cL_law 636 = .ok (.aload_n 2, 1) := chk_nth ocL_law_15 (k := 10) rfl
theorem dL_law_637 : decode cL_law 637 = .ok (.aload_n 0, 1) := chk_nth ocL_law_15 (k := 11) rfl
theorem dL_law_638 : decode cL_law 638 = .ok (.iload_n 3, 1) := chk_nth ocL_law_15 (k := 12) rfl
theorem dL_law_639 : decode cL_law 639 = .ok (.iconst 1, 1) := chk_nth ocL_law_15 (k := 13) rfl
theorem dL_law_640 : decode cL_law 640 = .ok (.iadd, 1) := chk_nth ocL_law_15 (k := 14) rfl
theorem dL_law_641 : decode cL_law 641 = .ok (.iaload, 1) := chk_nth ocL_law_15 (k := 15) rfl
theorem dL_law_642 : decode cL_law 642 = .ok (.aload_n 0, 1) := chk_nth ocL_law_15 (k := 16) rfl
theorem dL_law_643 : decode cL_law 643 = .ok (.iload_n 3, 1) := chk_nth ocL_law_15 (k := 17) rfl
theorem dL_law_644 : decode cL_law 644 = .ok (.iconst 2, 1) := chk_nth ocL_law_15 (k := 18) rfl
theorem dL_law_645 : decode cL_law 645 = .ok (.iadd, 1) := chk_nth ocL_law_15 (k := 19) rfl
theorem dL_law_646 : decode cL_law 646 = .ok (.iaload, 1) := chk_nth ocL_law_15 (k := 20) rfl
theorem dL_law_647 : decode cL_law 647 = .ok (.invokevirtual 68, 3) := chk_nth ocL_law_15 (k := 21) rfl
theorem dL_law_650 : decode cL_law 650 = .ok (.if_icmp .eq 1094, 3) := chk_nth ocL_law_15 (k := 22) rfl
theorem dL_law_653 : decode cL_law 653 = .ok (.iconst 0, 1) := chk_nth ocL_law_15 (k := 23) rfl
def tcL_law_16 : List (Instr × Nat) := [(.ireturn, 1), (.aload_n 1, 1), (.aload_n 0, 1), (.iload_n 3, 1), (.iconst 1, 1), (.iadd, 1), (.iaload, 1), (.invokevirtual 69, 3), (.aload_n 2, 1), (.aload_n 0, 1), (.iload_n 3, 1), (.iconst 1, 1), (.iadd, 1), (.iaload, 1), (.invokevirtual 72, 3), (.if_icmp .eq 1071, 3), (.iconst 0, 1), (.ireturn, 1), (.aload_n 1, 1), (.aload_n 0, 1), (.iload_n 3, 1), (.iconst 1, 1), (.iadd, 1), (.iaload, 1)]
theorem ocL_law_16 : chk (cL_law.data.toList.drop 654) tcL_law_16 = true := by decide +kernel
theorem dL_law_654 : decode cL_law 654 = .ok (.ireturn, 1) := chk_nth ocL_law_16 (k := 0) rfl
theorem dL_law_655 : decode cL_law 655 = .ok (.aload_n 1, 1) := chk_nth ocL_law_16 (k := 1) rfl
theorem dL_law_656 : decode cL_law 656 = .ok (.aload_n 0, 1) := chk_nth ocL_law_16 (k := 2) rfl
theorem dL_law_657 : decode cL_law 657 = .ok (.iload_n 3, 1) := chk_nth ocL_law_16 (k := 3) rfl
theorem dL_law_658 : decode cL_law 658 = .ok (.iconst 1, 1) := chk_nth ocL_law_16 (k := 4) rfl
theorem dL_law_659 : decode cL_law 659 = .ok (.iadd, 1) := chk_nth ocL_law_16 (k := 5) rfl
theorem dL_law_660 : decode cL_law 660 = .ok (.iaload, 1) := chk_nth ocL_law_16 (k := 6) rfl
theorem dL_law_661 : decode cL_law 661 = .ok (.invokevirtual 69, 3) := chk_nth ocL_law_16 (k := 7) rfl
theorem dL_law_664 : decode cL_law 664 = .ok (.aload_n 2, 1) := chk_nth ocL_law_16 (k := 8) rfl
theorem dL_law_665 : decode cL_law 665 = .ok (.aload_n 0, 1) := chk_nth ocL_law_16 (k := 9) rfl
theorem dL_law_666 : decode cL_law 666 = .ok (.iload_n 3, 1) := chk_nth ocL_law_16 (k := 10) rfl
theorem dL_law_667 : decode cL_law 667 = .ok (.iconst 1, 1) := chk_nth ocL_law_16 (k := 11) rfl
theorem dL_law_668 : decode cL_law 668 = .ok (.iadd, 1) := chk_nth ocL_law_16 (k := 12) rfl
theorem dL_law_669 : decode cL_law 669 = .ok (.iaload, 1) := chk_nth ocL_law_16 (k := 13) rfl
theorem dL_law_670 : decode cL_law 670 = .ok (.invokevirtual 72, 3) := chk_nth ocL_law_16 (k := 14) rfl
theorem dL_law_673 : decode cL_law 673 = .ok (.if_icmp .eq 1071, 3) := chk_nth ocL_law_16 (k := 15) rfl
theorem dL_law_676 : decode cL_law 676 = .ok (.iconst 0, 1) := chk_nth ocL_law_16 (k := 16) rfl
theorem dL_law_677 : decode cL_law 677 = .ok (.ireturn, 1) := chk_nth ocL_law_16 (k := 17) rfl
theorem dL_law_678 : decode cL_law 678 = .ok (.aload_n 1, 1) := chk_nth ocL_law_16 (k := 18) rfl
theorem dL_law_679 : decode cL_law 679 = .ok (.aload_n 0, 1) := chk_nth ocL_law_16 (k := 19) rfl
theorem dL_law_680 : decode cL_law 680 = .ok (.iload_n 3, 1) := chk_nth ocL_law_16 (k := 20) rfl
theorem dL_law_681 : decode cL_law 681 = .ok (.iconst 1, 1) := chk_nth ocL_law_16 (k := 21) rfl
theorem dL_law_682 : decode cL_law 682 = .ok (.iadd, 1) := chk_nth ocL_law_16 (k := 22) rfl
theorem dL_law_683 : decode cL_law 683 = .ok (.iaload, 1) := chk_nth ocL_law_16 (k := 23) rfl
def tcL_law_17 : List (Instr × Nat) := [(.aload_n 0, 1), (.iload_n 3, 1), (.iconst 2, 1), (.iadd, 1), (.iaload, 1), (.invokevirtual 73, 3), (.aload_n 2, 1), (.aload_n 0, 1), (.iload_n 3, 1), (.iconst 1, 1), (.iadd, 1), (.iaload, 1), (.aload_n 0, 1), (.iload_n 3, 1), (.iconst 2, 1), (.iadd, 1), (.iaload, 1), (.invokevirtual 76, 3), (.if_icmp .eq 1038, 3), (.iconst 0, 1), (.ireturn, 1), (.aload_n 1, 1), (.aload_n 0, 1), (.iload_n 3, 1)]
theorem ocL_law_17 : chk (cL_law.data.toList.drop 684) tcL_law_17 = true := by decide +kernel
theorem dL_law_684 : decode cL_law 684 = .ok (.aload_n 0, 1) := chk_nth ocL_law_17 (k := 0) rfl
theorem dL_law_685 : decode cL_law 685 = .ok (.iload_n 3, 1) := chk_nth ocL_law_17 (k := 1) rfl
theorem dL_law_686 : decode cL_law 686 = .ok (.iconst 2, 1) := chk_nth ocL_law_17 (k := 2) rfl
theorem dL_law_687 : decode cL_law 687 = .ok (.iadd, 1) := chk_nth ocL_law_17 (k := 3) rfl
theorem dL_law_688 : decode cL_law 688 = .ok (.iaload, 1) := chk_nth ocL_law_17 (k := 4) rfl
theorem dL_law_689 : decode cL_law 689 = .ok (.invokevirtual 73, 3) := chk_nth ocL_law_17 (k := 5) rfl
theorem dL_law_692 : decode cL_law 692 = .ok (.aload_n 2, 1) := chk_nth ocL_law_17 (k := 6) rfl
theorem dL_law_693 : decode cL_law 693 = .ok (.aload_n 0, 1) := chk_nth ocL_law_17 (k := 7) rfl
theorem dL_law_694 : decode cL_law 694 = .ok (.iload_n 3, 1) := chk_nth ocL_law_17 (k := 8) rfl
theorem dL_law_695 : decode cL_law 695 = .ok (.iconst 1, 1) := chk_nth ocL_law_17 (k := 9) rfl
theorem dL_law_696 : decode cL_law 696 = .ok (.iadd, 1) := chk_nth ocL_law_17 (k := 10) rfl
theorem dL_law_697 : decode cL_law 697 = .ok (.iaload, 1) := chk_nth ocL_law_17 (k := 11) rfl
theorem dL_law_698 : decode cL_law 698 = .ok (.aload_n 0, 1) := chk_nth ocL_law_17 (k := 12) rfl
theorem dL_law_699 : decode cL_law 699 = .ok (.iload_n 3, 1) := chk_nth ocL_law_17 (k := 13) rfl
theorem dL_law_700 : decode cL_law 700 = .ok (.iconst 2, 1) := chk_nth ocL_law_17 (k := 14) rfl
theorem dL_law_701 : decode cL_law 701 = .ok (.iadd, 1) := chk_nth ocL_law_17 (k := 15) rfl
theorem dL_law_702 : decode cL_law 702 = .ok (.iaload, 1) := chk_nth ocL_law_17 (k := 16) rfl
theorem dL_law_703 : decode cL_law 703 = .ok (.invokevirtual 76, 3) := chk_nth ocL_law_17 (k := 17) rfl
theorem dL_law_706 : decode cL_law 706 = .ok (.if_icmp .eq 1038, 3) := chk_nth ocL_law_17 (k := 18) rfl
theorem dL_law_709 : decode cL_law 709 = .ok (.iconst 0, 1) := chk_nth ocL_law_17 (k := 19) rfl
theorem dL_law_710 : decode cL_law 710 = .ok (.ireturn, 1) := chk_nth ocL_law_17 (k := 20) rfl
theorem dL_law_711 : decode cL_law 711 = .ok (.aload_n 1, 1) := chk_nth ocL_law_17 (k := 21) rfl
theorem dL_law_712 : decode cL_law 712 = .ok (.aload_n 0, 1) := chk_nth ocL_law_17 (k := 22) rfl
theorem dL_law_713 : decode cL_law 713 = .ok (.iload_n 3, 1) := chk_nth ocL_law_17 (k := 23) rfl
def tcL_law_18 : List (Instr × Nat) := [(.iconst 1, 1), (.iadd, 1), (.iaload, 1), (.aload_n 0, 1), (.iload_n 3, 1), (.iconst 2, 1), (.iadd, 1), (.iaload, 1), (.aload_n 0, 1), (.iload_n 3, 1), (.iconst 3, 1), (.iadd, 1), (.iaload, 1), (.invokevirtual 77, 3), (.aload_n 2, 1), (.aload_n 0, 1), (.iload_n 3, 1), (.iconst 1, 1), (.iadd, 1), (.iaload, 1), (.aload_n 0, 1), (.iload_n 3, 1), (.iconst 2, 1), (.iadd, 1)]
theorem ocL_law_18 : chk (cL_law.data.toList.drop 714) tcL_law_18 = true := by decide +kernel
theorem dL_law_714 : decode cL_law 714 = .ok (.iconst 1, 1) := chk_nth ocL_law_18 (k := 0) rfl
theorem dL_law_715 : decode cL_law 715 = .ok (.iadd, 1) := chk_nth ocL_law_18 (k := 1) rfl
theorem dL_law_716 : decode cL_law 716 = .ok (.iaload, 1) := chk_nth ocL_law_18 (k := 2) rfl
theorem dL_law_717 : decode cL_law 717 = .ok (.aload_n 0, 1) := chk_nth ocL_law_18 (k := 3) rfl
theorem dL_law_718 : decode cL_law 718 = .ok (.iload_n 3, 1) := chk_nth ocL_law_18 (k := 4) rfl
theorem dL_law_719 : decode cL_law 719 = .ok (.iconst 2, 1) := chk_nth ocL_law_18 (k := 5) rfl
theorem dL_law_720 : decode cL_law 720 = .ok (.iadd, 1) := chk_nth ocL_law_18 (k := 6) rfl
theorem dL_law_721 : decode cL_law 721 = .ok (.iaload, 1) := chk_nth ocL_law_18 (k := 7) rfl
theorem dL_law_722 : decode cL_law 722 = .ok (.aload_n 0, 1) := chk_nth ocL_law_18 (k := 8) rfl
theorem dL_law_723 : decode cL_law 723 = .ok (.iload_n 3, 1) := chk_nth ocL_law_18 (k := 9) rfl
theorem dL_law_724 : decode cL_law 724 = .ok (.iconst 3, 1) := chk_nth ocL_law_18 (k := 10) rfl
theorem dL_law_725 : decode cL_law 725 = .ok (.iadd, 1) := chk_nth ocL_law_18 (k := 11) rfl
theorem dL_law_726 : decode cL_law 726 = .ok (.iaload, 1) := chk_nth ocL_law_18 (k := 12) rfl
theorem dL_law_727 : decode cL_law 727 = .ok (.invokevirtual 77, 3) := chk_nth ocL_law_18 (k := 13) rfl
theorem dL_law_730 : decode cL_law 730 = .ok (.aload_n 2, 1) := chk_nth ocL_law_18 (k := 14) rfl
theorem dL_law_731 : decode cL_law 731 = .ok (.aload_n 0, 1) := chk_nth ocL_law_18 (k := 15) rfl
theorem dL_law_732 : decode cL_law 732 = .ok (.iload_n 3, 1) := chk_nth ocL_law_18 (k := 16) rfl
theorem dL_law_733 : decode cL_law 733 = .ok (.iconst 1, 1) := chk_nth ocL_law_18 (k := 17) rfl
theorem dL_law_734 : decode cL_law 734 = .ok (.iadd, 1) := chk_nth ocL_law_18 (k := 18) rfl
theorem dL_law_735 : decode cL_law 735 = .ok (.iaload, 1) := chk_nth ocL_law_18 (k := 19) rfl
theorem dL_law_736 : decode cL_law 736 = .ok (.aload_n 0, 1) := chk_nth ocL_law_18 (k := 20) rfl
theorem dL_law_737 : decode cL_law 737 = .ok (.iload_n 3, 1) := chk_nth ocL_law_18 (k := 21) rfl
theorem dL_law_738 : decode cL_law 738 = .ok (.iconst 2, 1) := chk_nth ocL_law_18 (k := 22) rfl
theorem dL_law_739 : decode cL_law 739 = .ok (.iadd, 1) := chk_nth ocL_law_18 (k := 23) rfl
def tcL_law_19 : List (Instr × Nat) := [(.iaload, 1), (.aload_n 0, 1), (.iload_n 3, 1), (.iconst 3, 1), (.iadd, 1), (.iaload, 1), (.invokevirtual 80, 3), (.if_icmp .eq 995, 3), (.iconst 0, 1), (.ireturn, 1), (.aload_n 1, 1), (.aload_n 0, 1), (.iload_n 3, 1), (.iconst 1, 1), (.iadd, 1), (.iaload, 1), (.aload_n 0, 1), (.iload_n 3, 1), (.iconst 2, 1), (.iadd, 1), (.iaload, 1), (.aload_n 0, 1), (.iload_n 3, 1), (.iconst 3, 1)]
theorem ocL_law_19 : chk (cL_law.data.toList.drop 740) tcL_law_19 = true := by decide +kernel
theorem dL_law_740 : decode cL_law 740 = .ok (.iaload, 1) := chk_nth ocL_law_19 (k := 0) rfl
theorem dL_law_741 : decode cL_law 741 = .ok (.aload_n 0, 1) := chk_nth ocL_law_19 (k := 1) rfl
theorem dL_law_742 : decode cL_law 742 = .ok (.iload_n 3, 1) := chk_nth ocL_law_19 (k := 2) rfl
theorem dL_law_743 : decode cL_law 743 = .ok (.iconst 3, 1) := chk_nth ocL_law_19 (k := 3) rfl
theorem dL_law_744 : decode cL_law 744 = .ok (.iadd, 1) := chk_nth ocL_law_19 (k := 4) rfl
theorem dL_law_745 : decode cL_law 745 = .ok (.iaload, 1) := chk_nth ocL_law_19 (k := 5) rfl
theorem dL_law_746 : decode cL_law 746 = .ok (.invokevirtual 80, 3) := chk_nth ocL_law_19 (k := 6) rfl
theorem dL_law_749 : decode cL_law 749 = .ok (.if_icmp .eq 995, 3) := chk_nth ocL_law_19 (k := 7) rfl
theorem dL_law_752 : decode cL_law 752 = .ok (.iconst 0, 1) := chk_nth ocL_law_19 (k := 8) rfl
theorem dL_law_753 : decode cL_law 753 = .ok (.ireturn, 1) := chk_nth ocL_law_19 (k := 9) rfl
theorem dL_law_754 : decode cL_law 754 = .ok (.aload_n 1, 1) := chk_nth ocL_law_19 (k := 10) rfl
theorem dL_law_755 : decode cL_law 755 = .ok (.aload_n 0, 1) := chk_nth ocL_law_19 (k := 11) rfl
theorem dL_law_756 : decode cL_law 756 = .ok (.iload_n 3, 1) := chk_nth ocL_law_19 (k := 12) rfl
theorem dL_law_757 : decode cL_law 757 = .ok (.iconst 1, 1) := chk_nth ocL_law_19 (k := 13) rfl
theorem dL_law_758 : decode cL_law 758 = .ok (.iadd, 1) := chk_nth ocL_law_19 (k := 14) rfl
theorem dL_law_759 : decode cL_law 759 = .ok (.iaload, 1) := chk_nth ocL_law_19 (k := 15) rfl
theorem dL_law_760 : decode cL_law 760 = .ok (.aload_n 0, 1) := chk_nth ocL_law_19 (k := 16) rfl
theorem dL_law_761 : decode cL_law 761 = .ok (.iload_n 3, 1) := chk_nth ocL_law_19 (k := 17) rfl
theorem dL_law_762 : decode cL_law 762 = .ok (.iconst 2, 1) := chk_nth ocL_law_19 (k := 18) rfl
theorem dL_law_763 : decode cL_law 763 = .ok (.iadd, 1) := chk_nth ocL_law_19 (k := 19) rfl
theorem dL_law_764 : decode cL_law 764 = .ok (.iaload, 1) := chk_nth ocL_law_19 (k := 20) rfl
theorem dL_law_765 : decode cL_law 765 = .ok (.aload_n 0, 1) := chk_nth ocL_law_19 (k := 21) rfl
theorem dL_law_766 : decode cL_law 766 = .ok (.iload_n 3, 1) := chk_nth ocL_law_19 (k := 22) rfl
theorem dL_law_767 : decode cL_law 767 = .ok (.iconst 3, 1) := chk_nth ocL_law_19 (k := 23) rfl
def tcL_law_20 : List (Instr × Nat) := [(.iadd, 1), (.iaload, 1), (.aload_n 0, 1), (.iload_n 3, 1), (.iconst 4, 1), (.iadd, 1), (.iaload, 1), (.invokevirtual 81, 3), (.aload_n 2, 1), (.aload_n 0, 1), (.iload_n 3, 1), (.iconst 1, 1), (.iadd, 1), (.iaload, 1), (.aload_n 0, 1), (.iload_n 3, 1), (.iconst 2, 1), (.iadd, 1), (.iaload, 1), (.aload_n 0, 1), (.iload_n 3, 1), (.iconst 3, 1), (.iadd, 1), (.iaload, 1)]
theorem ocL_law_20 : chk (cL_law.data.toList.drop 768) tcL_law_20 = true := by decide +kernel
theorem dL_law_768 : decode cL_law 768 = .ok (.iadd, 1) := chk_nth ocL_law_20 (k := 0) rfl
theorem dL_law_769 : decode cL_law 769 = .ok (.iaload, 1) := chk_nth ocL_law_20 (k := 1) rfl
theorem dL_law_770 : decode cL_law 770 = .ok (.aload_n 0, 1) := chk_nth ocL_law_20 (k := 2) rfl
theorem dL_law_771 : decode cL_law 771 = .ok (.iload_n 3, 1) := chk_nth ocL_law_20 (k := 3) rfl
theorem dL_law_772 : decode cL_law 772 = .ok (.iconst 4, 1) := chk_nth ocL_law_20 (k := 4) rfl
theorem dL_law_773 : decode cL_law 773 = .ok (.iadd, 1) := chk_nth ocL_law_20 (k := 5) rfl
theorem dL_law_774 : decode cL_law 774 = .ok (.iaload, 1) := chk_nth ocL_law_20 (k := 6) rfl
theorem dL_law_775 : decode cL_law 775 = .ok (.invokevirtual 81, 3) := chk_nth ocL_law_20 (k := 7) rfl
theorem dL_law_778 : decode cL_law 778 = .ok (.aload_n 2, 1) := chk_nth ocL_law_20 (k := 8) rfl
theorem dL_law_779 : decode cL_law 779 = .ok (.aload_n 0, 1) := chk_nth ocL_law_20 (k := 9) rfl
theorem dL_law_780 : decode cL_law 780 = .ok (.iload_n 3, 1) := chk_nth ocL_law_20 (k := 10) rfl
theorem dL_law_781 : decode cL_law 781 = .ok (.iconst 1, 1) := chk_nth ocL_law_20 (k := 11) rfl
theorem dL_law_782 : decode cL_law 782 = .ok (.iadd, 1) := chk_nth ocL_law_20 (k := 12) rfl
theorem dL_law_783 : decode cL_law 783 = .ok (.iaload, 1) := chk_nth ocL_law_20 (k := 13) rfl
theorem dL_law_784 : decode cL_law 784 = .ok (.aload_n 0, 1) := chk_nth ocL_law_20 (k := 14) rfl
theorem dL_law_785 : decode cL_law 785 = .ok (.iload_n 3, 1) := chk_nth ocL_law_20 (k := 15) rfl
theorem dL_law_786 : decode cL_law 786 = .ok (.iconst 2, 1) := chk_nth ocL_law_20 (k := 16) rfl
theorem dL_law_787 : decode cL_law 787 = .ok (.iadd, 1) := chk_nth ocL_law_20 (k := 17) rfl
theorem dL_law_788 : decode cL_law 788 = .ok (.iaload, 1) := chk_nth ocL_law_20 (k := 18) rfl
theorem dL_law_789 : decode cL_law 789 = .ok (.aload_n 0, 1) := chk_nth ocL_law_20 (k := 19) rfl
theorem dL_law_790 : decode cL_law 790 = .ok (.iload_n 3, 1) := chk_nth ocL_law_20 (k := 20) rfl
theorem dL_law_791 : decode cL_law 791 = .ok (.iconst 3, 1) := chk_nth ocL_law_20 (k := 21) rfl
theorem dL_law_792 : decode cL_law 792 = .ok (.iadd, 1) := chk_nth ocL_law_20 (k := 22) rfl
theorem dL_law_793 : decode cL_law 793 = .ok (.iaload, 1) := chk_nth ocL_law_20 (k := 23) rfl
def tcL_law_21 : List (Instr × Nat) := [(.aload_n 0, 1), (.iload_n 3, 1), (.iconst 4, 1), (.iadd, 1), (.iaload, 1), (.invokevirtual 85, 3), (.if_icmp .eq 942, 3), (.iconst 0, 1), (.ireturn, 1), (.aload_n 1, 1), (.aload_n 0, 1), (.iload_n 3, 1), (.iconst 1, 1), (.iadd, 1), (.iaload, 1), (.aload_n 0, 1), (.iload_n 3, 1), (.iconst 2, 1), (.iadd, 1), (.iaload, 1), (.aload_n 0, 1), (.iload_n 3, 1), (.iconst 3, 1), (.iadd, 1)]
theorem ocL_law_21 : chk (cL_law.data.toList.drop 794) tcL_law_21 = true := by decide +kernel
theorem dL_law_794 : decode cL_law 794 = .ok (.aload_n 0, 1) := chk_nth ocL_law_21 (k := 0) rfl
theorem dL_law_795 : decode cL_law 795 = .ok (.iload_n 3, 1) := chk_nth ocL_law_21 (k := 1) rfl
theorem dL_law_796 : decode cL_law 796 = .ok (.iconst 4, 1) := chk_nth ocL_law_21 (k := 2) rfl
theorem dL_law_797 : decode cL_law 797 = .ok (.iadd, 1) := chk_nth ocL_law_21 (k := 3) rfl
theorem dL_law_798 : decode cL_law 798 = .ok (.iaload, 1) := chk_nth ocL_law_21 (k := 4) rfl
theorem dL_law_799 : decode cL_law 799 = .ok (.invokevirtual 85, 3) := chk_nth ocL_law_21 (k := 5) rfl
theorem dL_law_802 : decode cL_law 802 = .ok (.if_icmp .eq 942, 3) := chk_nth ocL_law_21 (k := 6) rfl
theorem dL_law_805 : decode cL_law 805 = .ok (.iconst 0, 1) := chk_nth ocL_law_21 (k := 7) rfl
theorem dL_law_806 : decode cL_law 806 = .ok (.ireturn, 1) := chk_nth ocL_law_21 (k := 8) rfl
theorem dL_law_807 : decode cL_law 807 = .ok (.aload_n 1, 1) := chk_nth ocL_law_21 (k := 9) rfl
theorem dL_law_808 : decode cL_law 808 = .ok (.aload_n 0, 1) := chk_nth ocL_law_21 (k := 10) rfl
theorem dL_law_809 : decode cL_law 809 = .ok (.iload_n 3, 1) := chk_nth ocL_law_21 (k := 11) rfl
theorem dL_law_810 : decode cL_law 810 = .ok (.iconst 1, 1) := chk_nth ocL_law_21 (k := 12) rfl
theorem dL_law_811 : decode cL_law 811 = .ok (.iadd, 1) := chk_nth ocL_law_21 (k := 13) rfl
theorem dL_law_812 : decode cL_law 812 = .ok (.iaload, 1) := chk_nth ocL_law_21 (k := 14) rfl
theorem dL_law_813 : decode cL_law 813 = .ok (.aload_n 0, 1) := chk_nth ocL_law_21 (k := 15) rfl
theorem dL_law_814 : decode cL_law 814 = .ok (.iload_n 3, 1) := chk_nth ocL_law_21 (k := 16) rfl
theorem dL_law_815 : decode cL_law 815 = .ok (.iconst 2, 1) := chk_nth ocL_law_21 (k := 17) rfl
theorem dL_law_816 : decode cL_law 816 = .ok (.iadd, 1) := chk_nth ocL_law_21 (k := 18) rfl
theorem dL_law_817 : decode cL_law 817 = .ok (.iaload, 1) := chk_nth ocL_law_21 (k := 19) rfl
theorem dL_law_818 : decode cL_law 818 = .ok (.aload_n 0, 1) := chk_nth ocL_law_21 (k := 20) rfl
theorem dL_law_819 : decode cL_law 819 = .ok (.iload_n 3, 1) := chk_nth ocL_law_21 (k := 21) rfl
theorem dL_law_820 : decode cL_law 820 = .ok (.iconst 3, 1) := chk_nth ocL_law_21 (k := 22) rfl
theorem dL_law_821 : decode cL_law 821 = .ok (.iadd, 1) := chk_nth ocL_law_21 (k := 23) rfl
def tcL_law_22 : List (Instr × Nat) := [(.iaload, 1), (.aload_n 0, 1), (.iload_n 3, 1), (.iconst 4, 1), (.iadd, 1), (.iaload, 1), (.invokevirtual 86, 3), (.aload_n 2, 1), (.aload_n 0, 1), (.iload_n 3, 1), (.iconst 1, 1), (.iadd, 1), (.iaload, 1), (.aload_n 0, 1), (.iload_n 3, 1), (.iconst 2, 1), (.iadd, 1), (.iaload, 1), (.aload_n 0, 1), (.iload_n 3, 1), (.iconst 3, 1), (.iadd, 1), (.iaload, 1), (.aload_n 0, 1)]
theorem ocL_law_22 : chk (cL_law.data.toList.drop 822) tcL_law_22 = true := by decide +kernel
theorem dL_law_822 : decode cL_law 822 = .ok (.iaload, 1) := chk_nth ocL_law_22 (k := 0) rfl
theorem dL_law_823 : decode cL_law 823 = .ok (.aload_n 0, 1) := chk_nth ocL_law_22 (k := 1) rfl
theorem dL_law_824 : decode cL_law 824 = .ok (.iload_n 3, 1) := chk_nth ocL_law_22 (k := 2) rfl
theorem dL_law_825 : decode cL_law 825 = .ok (.iconst 4, 1) := chk_nth ocL_law_22 (k := 3) rfl
theorem dL_law_826 : decode cL_law 826 = .ok (.iadd, 1) := chk_nth ocL_law_22 (k := 4) rfl
theorem dL_law_827 : decode cL_law 827 = .ok (.iaload, 1) := chk_nth ocL_law_22 (k := 5) rfl
theorem dL_law_828 : decode cL_law 828 = .ok (.invokevirtual 86, 3) := chk_nth ocL_law_22 (k := 6) rfl
theorem dL_law_831 : decode cL_law 831 = .ok (.aload_n 2, 1) := chk_nth ocL_law_22 (k := 7) rfl
theorem dL_law_832 : decode cL_law 832 = .ok (.aload_n 0, 1) := chk_nth ocL_law_22 (k := 8) rfl
theorem dL_law_833 : decode cL_law 833 = .ok (.iload_n 3, 1) := chk_nth ocL_law_22 (k := 9) rfl
theorem dL_law_834 : decode cL_law 834 = .ok (.iconst 1, 1) := chk_nth ocL_law_22 (k := 10) rfl
theorem dL_law_835 : decode cL_law 835 = .ok (.iadd, 1) := chk_nth ocL_law_22 (k := 11) rfl
theorem dL_law_836 : decode cL_law 836 = .ok (.iaload, 1) := chk_nth ocL_law_22 (k := 12) rfl
theorem dL_law_837 : decode cL_law 837 = .ok (.aload_n 0, 1) := chk_nth ocL_law_22 (k := 13) rfl
theorem dL_law_838 : decode cL_law 838 = .ok (.iload_n 3, 1) := chk_nth ocL_law_22 (k := 14) rfl
theorem dL_law_839 : decode cL_law 839 = .ok (.iconst 2, 1) := chk_nth ocL_law_22 (k := 15) rfl
theorem dL_law_840 : decode cL_law 840 = .ok (.iadd, 1) := chk_nth ocL_law_22 (k := 16) rfl
theorem dL_law_841 : decode cL_law 841 = .ok (.iaload, 1) := chk_nth ocL_law_22 (k := 17) rfl
theorem dL_law_842 : decode cL_law 842 = .ok (.aload_n 0, 1) := chk_nth ocL_law_22 (k := 18) rfl
theorem dL_law_843 : decode cL_law 843 = .ok (.iload_n 3, 1) := chk_nth ocL_law_22 (k := 19) rfl
theorem dL_law_844 : decode cL_law 844 = .ok (.iconst 3, 1) := chk_nth ocL_law_22 (k := 20) rfl
theorem dL_law_845 : decode cL_law 845 = .ok (.iadd, 1) := chk_nth ocL_law_22 (k := 21) rfl
theorem dL_law_846 : decode cL_law 846 = .ok (.iaload, 1) := chk_nth ocL_law_22 (k := 22) rfl
theorem dL_law_847 : decode cL_law 847 = .ok (.aload_n 0, 1) := chk_nth ocL_law_22 (k := 23) rfl
def tcL_law_23 : List (Instr × Nat) := [(.iload_n 3, 1), (.iconst 4, 1), (.iadd, 1), (.iaload, 1), (.invokevirtual 90, 3), (.lcmp, 1), (.ifCond .eq 888, 3), (.iconst 0, 1), (.ireturn, 1), (.aload_n 1, 1), (.aload_n 0, 1), (.iload_n 3, 1), (.iconst 1, 1), (.iadd, 1), (.iaload, 1), (.aload_n 0, 1), (.iload_n 3, 1), (.iconst 2, 1), (.iadd, 1), (.iaload, 1), (.invokevirtual 91, 3), (.aload_n 2, 1), (.aload_n 0, 1), (.iload_n 3, 1)]
theorem ocL_law_23 : chk (cL_law.data.toList.drop 848) tcL_law_23 = true := by decide +kernel
theorem dL_law_848 : decode cL_law 848 = .ok (.iload_n 3, 1) := chk_nth ocL_law_23 (k := 0) rfl
theorem dL_law_849 : decode cL_law 849 = .ok (.iconst 4, 1) := chk_nth ocL_law_23 (k := 1) rfl
theorem dL_law_850 : decode cL_law 850 = .ok (.iadd, 1) := chk_nth ocL_law_23 (k := 2) rfl
theorem dL_law_851 : decode cL_law 851 = .ok (.iaload, 1) := chk_nth ocL_law_23 (k := 3) rfl
theorem dL_law_852 : decode cL_law 852 = .ok (.invokevirtual 90, 3) := chk_nth ocL_law_23 (k := 4) rfl
theorem dL_law_855 : decode cL_law 855 = .ok (.lcmp, 1) := chk_nth ocL_law_23 (k := 5) rfl
theorem dL_law_856 : decode cL_law 856 = .ok (.ifCond .eq 888, 3) := chk_nth ocL_law_23 (k := 6) rfl
theorem dL_law_859 : decode cL_law 859 = .ok (.iconst 0, 1) := chk_nth ocL_law_23 (k := 7) rfl
theorem dL_law_860 : decode cL_law 860 = .ok (.ireturn, 1) := chk_nth ocL_law_23 (k := 8) rfl
theorem dL_law_861 : decode cL_law 861 = .ok (.aload_n 1, 1) := chk_nth ocL_law_23 (k := 9) rfl
theorem dL_law_862 : decode cL_law 862 = .ok (.aload_n 0, 1) := chk_nth ocL_law_23 (k := 10) rfl
theorem dL_law_863 : decode cL_law 863 = .ok (.iload_n 3, 1) := chk_nth ocL_law_23 (k := 11) rfl
theorem dL_law_864 : decode cL_law 864 = .ok (.iconst 1, 1) := chk_nth ocL_law_23 (k := 12) rfl
theorem dL_law_865 : decode cL_law 865 = .ok (.iadd, 1) := chk_nth ocL_law_23 (k := 13) rfl
theorem dL_law_866 : decode cL_law 866 = .ok (.iaload, 1) := chk_nth ocL_law_23 (k := 14) rfl
theorem dL_law_867 : decode cL_law 867 = .ok (.aload_n 0, 1) := chk_nth ocL_law_23 (k := 15) rfl
theorem dL_law_868 : decode cL_law 868 = .ok (.iload_n 3, 1) := chk_nth ocL_law_23 (k := 16) rfl
theorem dL_law_869 : decode cL_law 869 = .ok (.iconst 2, 1) := chk_nth ocL_law_23 (k := 17) rfl
theorem dL_law_870 : decode cL_law 870 = .ok (.iadd, 1) := chk_nth ocL_law_23 (k := 18) rfl
theorem dL_law_871 : decode cL_law 871 = .ok (.iaload, 1) := chk_nth ocL_law_23 (k := 19) rfl
theorem dL_law_872 : decode cL_law 872 = .ok (.invokevirtual 91, 3) := chk_nth ocL_law_23 (k := 20) rfl
theorem dL_law_875 : decode cL_law 875 = .ok (.aload_n 2, 1) := chk_nth ocL_law_23 (k := 21) rfl
theorem dL_law_876 : decode cL_law 876 = .ok (.aload_n 0, 1) := chk_nth ocL_law_23 (k := 22) rfl
theorem dL_law_877 : decode cL_law 877 = .ok (.iload_n 3, 1) := chk_nth ocL_law_23 (k := 23) rfl
def tcL_law_24 : List (Instr × Nat) := [(.iconst 1, 1), (.iadd, 1), (.iaload, 1), (.aload_n 0, 1), (.iload_n 3, 1), (.iconst 2, 1), (.iadd, 1), (.iaload, 1), (.invokevirtual 94, 3), (.if_icmp .eq 855, 3), (.iconst 0, 1), (.ireturn, 1), (.aload_n 1, 1), (.aload_n 0, 1), (.iload_n 3, 1), (.iconst 1, 1), (.iadd, 1), (.iaload, 1), (.aload_n 0, 1), (.iload_n 3, 1), (.iconst 2, 1), (.iadd, 1), (.iaload, 1), (.invokevirtual 95, 3)]
theorem ocL_law_24 : chk (cL_law.data.toList.drop 878) tcL_law_24 = true := by decide +kernel
theorem dL_law_878 : decode cL_law 878 = .ok (.iconst 1, 1) := chk_nth ocL_law_24 (k := 0) rfl
theorem dL_law_879 : decode cL_law 879 = .ok (.iadd, 1) := chk_nth ocL_law_24 (k := 1) rfl
theorem dL_law_880 : decode cL_law 880 = .ok (.iaload, 1) := chk_nth ocL_law_24 (k := 2) rfl
theorem dL_law_881 : decode cL_law 881 = .ok (.aload_n 0, 1) := chk_nth ocL_law_24 (k := 3) rfl
theorem dL_law_882 : decode cL_law 882 = .ok (.iload_n 3, 1) := chk_nth ocL_law_24 (k := 4) rfl
theorem dL_law_883 : decode cL_law 883 = .ok (.iconst 2, 1) := chk_nth ocL_law_24 (k := 5) rfl
theorem dL_law_884 : decode cL_law 884 = .ok (.iadd, 1) := chk_nth ocL_law_24 (k := 6) rfl
theorem dL_law_885 : decode cL_law 885 = .ok (.iaload, 1) := chk_nth ocL_law_24 (k := 7) rfl
theorem dL_law_886 : decode cL_law 886 = .ok (.invokevirtual 94, 3) := chk_nth ocL_law_24 (k := 8) rfl
theorem dL_law_889 : decode cL_law 889 = .ok (.if_icmp .eq 855, 3) := chk_nth ocL_law_24 (k := 9) rfl
theorem dL_law_892 : decode cL_law 892 = .ok (.iconst 0, 1) := chk_nth ocL_law_24 (k := 10) rfl
theorem dL_law_893 : decode cL_law 893 = .ok (.ireturn, 1) := chk_nth ocL_law_24 (k := 11) rfl
theorem dL_law_894 : decode cL_law 894 = .ok (.aload_n 1, 1) := chk_nth ocL_law_24 (k := 12) rfl
theorem dL_law_895 : decode cL_law 895 = .ok (.aload_n 0, 1) := chk_nth ocL_law_24 (k := 13) rfl
theorem dL_law_896 : decode cL_law 896 = .ok (.iload_n 3, 1) := chk_nth ocL_law_24 (k := 14) rfl
theorem dL_law_897 : decode cL_law 897 = .ok (.iconst 1, 1) := chk_nth ocL_law_24 (k := 15) rfl
theorem dL_law_898 : decode cL_law 898 = .ok (.iadd, 1) := chk_nth ocL_law_24 (k := 16) rfl
theorem dL_law_899 : decode cL_law 899 = .ok (.iaload, 1) := chk_nth ocL_law_24 (k := 17) rfl
theorem dL_law_900 : decode cL_law 900 = .ok (.aload_n 0, 1) := chk_nth ocL_law_24 (k := 18) rfl
theorem dL_law_901 : decode cL_law 901 = .ok (.iload_n 3, 1) := chk_nth ocL_law_24 (k := 19) rfl
theorem dL_law_902 : decode cL_law 902 = .ok (.iconst 2, 1) := chk_nth ocL_law_24 (k := 20) rfl
theorem dL_law_903 : decode cL_law 903 = .ok (.iadd, 1) := chk_nth ocL_law_24 (k := 21) rfl
theorem dL_law_904 : decode cL_law 904 = .ok (.iaload, 1) := chk_nth ocL_law_24 (k := 22) rfl
theorem dL_law_905 : decode cL_law 905 = .ok (.invokevirtual 95, 3) := chk_nth ocL_law_24 (k := 23) rfl
def tcL_law_25 : List (Instr × Nat) := [(.aload_n 2, 1), (.aload_n 0, 1), (.iload_n 3, 1), (.iconst 1, 1), (.iadd, 1), (.iaload, 1), (.aload_n 0, 1), (.iload_n 3, 1), (.iconst 2, 1), (.iadd, 1), (.iaload, 1), (.invokevirtual 98, 3), (.if_icmp .eq 822, 3), (.iconst 0, 1), (.ireturn, 1), (.aload_n 1, 1), (.aload_n 0, 1), (.iload_n 3, 1), (.iconst 1, 1), (.iadd, 1), (.iaload, 1), (.invokevirtual 99, 3), (.aload_n 2, 1), (.aload_n 0, 1)]
theorem ocL_law_25 : chk (cL_law.data.toList.drop 908) tcL_law_25 = true := by decide +kernel
theorem dL_law_908 : decode cL_law 908 = .ok (.aload_n 2, 1) := chk_nth ocL_law_25 (k := 0) rfl
theorem dL_law_909 : decode cL_law 909 = .ok (.aload_n 0, 1) := chk_nth ocL_law_25 (k := 1) rfl
theorem dL_law_910 : decode cL_law 910 = .ok (.iload_n 3, 1) := chk_nth ocL_law_25 (k := 2) rfl
theorem dL_law_911 : decode cL_law 911 = .ok (.iconst 1, 1) := chk_nth ocL_law_25 (k := 3) rfl
theorem dL_law_912 : decode cL_law 912 = .ok (.iadd, 1) := chk_nth ocL_law_25 (k := 4) rfl
theorem dL_law_913 : decode cL_law 913 = .ok (.iaload, 1) := chk_nth ocL_law_25 (k := 5) rfl
theorem dL_law_914 : decode cL_law 914 = .ok (.aload_n 0, 1) := chk_nth ocL_law_25 (k := 6) rfl
theorem dL_law_915 : decode cL_law 915 = .ok (.iload_n 3, 1) := chk_nth ocL_law_25 (k := 7) rfl
theorem dL_law_916 : decode cL_law 916 = .ok (.iconst 2, 1) := chk_nth ocL_law_25 (k := 8) rfl
theorem dL_law_917 : decode cL_law 917 = .ok (.iadd, 1) := chk_nth ocL_law_25 (k := 9) rfl
theorem dL_law_918 : decode cL_law 918 = .ok (.iaload, 1) := chk_nth ocL_law_25 (k := 10) rfl
theorem dL_law_919 : decode cL_law 919 = .ok (.invokevirtual 98, 3) := chk_nth ocL_law_25 (k := 11) rfl
theorem dL_law_922 : decode cL_law 922 = .ok (.if_icmp .eq 822, 3) := chk_nth ocL_law_25 (k := 12) rfl
theorem dL_law_925 : decode cL_law 925 = .ok (.iconst 0, 1) := chk_nth ocL_law_25 (k := 13) rfl
theorem dL_law_926 : decode cL_law 926 = .ok (.ireturn, 1) := chk_nth ocL_law_25 (k := 14) rfl
theorem dL_law_927 : decode cL_law 927 = .ok (.aload_n 1, 1) := chk_nth ocL_law_25 (k := 15) rfl
theorem dL_law_928 : decode cL_law 928 = .ok (.aload_n 0, 1) := chk_nth ocL_law_25 (k := 16) rfl
theorem dL_law_929 : decode cL_law 929 = .ok (.iload_n 3, 1) := chk_nth ocL_law_25 (k := 17) rfl
theorem dL_law_930 : decode cL_law 930 = .ok (.iconst 1, 1) := chk_nth ocL_law_25 (k := 18) rfl
theorem dL_law_931 : decode cL_law 931 = .ok (.iadd, 1) := chk_nth ocL_law_25 (k := 19) rfl
theorem dL_law_932 : decode cL_law 932 = .ok (.iaload, 1) := chk_nth ocL_law_25 (k := 20) rfl
theorem dL_law_933 : decode cL_law 933 = .ok (.invokevirtual 99, 3) := chk_nth ocL_law_25 (k := 21) rfl
theorem dL_law_936 : decode cL_law 936 = .ok (.aload_n 2, 1) := chk_nth ocL_law_25 (k := 22) rfl
theorem dL_law_937 : decode cL_law 937 = .ok (.aload_n 0, 1) := chk_nth ocL_law_25 (k := 23) rfl
def tcL_law_26 : List (Instr × Nat) := [(.iload_n 3, 1), (.iconst 1, 1), (.iadd, 1), (.iaload, 1), (.invokevirtual 102, 3), (.if_icmp .eq 799, 3), (.iconst 0, 1), (.ireturn, 1), (.aload_n 1, 1), (.aload_n 0, 1), (.iload_n 3, 1), (.iconst 1, 1), (.iadd, 1), (.iaload, 1), (.aload_n 0, 1), (.iload_n 3, 1), (.iconst 2, 1), (.iadd, 1), (.iaload, 1), (.invokevirtual 103, 3), (.aload_n 2, 1), (.aload_n 0, 1), (.iload_n 3, 1), (.iconst 1, 1)]
theorem ocL_law_26 : chk (cL_law.data.toList.drop 938) tcL_law_26 = true := by decide +kernel
theorem dL_law_938 : decode cL_law 938 = .ok (.iload_n 3, 1) := chk_nth ocL_law_26 (k := 0) rfl
theorem dL_law_939 : decode cL_law 939 = .ok (.iconst 1, 1) := chk_nth ocL_law_26 (k := 1) rfl
theorem dL_law_940 : decode cL_law 940 = .ok (.iadd, 1) := chk_nth ocL_law_26 (k := 2) rfl
theorem dL_law_941 : decode cL_law 941 = .ok (.iaload, 1) := chk_nth ocL_law_26 (k := 3) rfl
theorem dL_law_942 : decode cL_law 942 = .ok (.invokevirtual 102, 3) := chk_nth ocL_law_26 (k := 4) rfl
theorem dL_law_945 : decode cL_law 945 = .ok (.if_icmp .eq 799, 3) := chk_nth ocL_law_26 (k := 5) rfl
theorem dL_law_948 : decode cL_law 948 = .ok (.iconst 0, 1) := chk_nth ocL_law_26 (k := 6) rfl
theorem dL_law_949 : decode cL_law 949 = .ok (.ireturn, 1) := chk_nth ocL_law_26 (k := 7) rfl
theorem dL_law_950 : decode cL_law 950 = .ok (.aload_n 1, 1) := chk_nth ocL_law_26 (k := 8) rfl
theorem dL_law_951 : decode cL_law 951 = .ok (.aload_n 0, 1) := chk_nth ocL_law_26 (k := 9) rfl
theorem dL_law_952 : decode cL_law 952 = .ok (.iload_n 3, 1) := chk_nth ocL_law_26 (k := 10) rfl
theorem dL_law_953 : decode cL_law 953 = .ok (.iconst 1, 1) := chk_nth ocL_law_26 (k := 11) rfl
theorem dL_law_954 : decode cL_law 954 = .ok (.iadd, 1) := chk_nth ocL_law_26 (k := 12) rfl
theorem dL_law_955 : decode cL_law 955 = .ok (.iaload, 1) := chk_nth ocL_law_26 (k := 13) rfl
theorem dL_law_956 : decode cL_law 956 = .ok (.aload_n 0, 1) := chk_nth ocL_law_26 (k := 14) rfl
theorem dL_law_957 : decode cL_law 957 = .ok (.iload_n 3, 1) := chk_nth ocL_law_26 (k := 15) rfl
theorem dL_law_958 : decode cL_law 958 = .ok (.iconst 2, 1) := chk_nth ocL_law_26 (k := 16) rfl
theorem dL_law_959 : decode cL_law 959 = .ok (.iadd, 1) := chk_nth ocL_law_26 (k := 17) rfl
theorem dL_law_960 : decode cL_law 960 = .ok (.iaload, 1) := chk_nth ocL_law_26 (k := 18) rfl
theorem dL_law_961 : decode cL_law 961 = .ok (.invokevirtual 103, 3) := chk_nth ocL_law_26 (k := 19) rfl
theorem dL_law_964 : decode cL_law 964 = .ok (.aload_n 2, 1) := chk_nth ocL_law_26 (k := 20) rfl
theorem dL_law_965 : decode cL_law 965 = .ok (.aload_n 0, 1) := chk_nth ocL_law_26 (k := 21) rfl
theorem dL_law_966 : decode cL_law 966 = .ok (.iload_n 3, 1) := chk_nth ocL_law_26 (k := 22) rfl
theorem dL_law_967 : decode cL_law 967 = .ok (.iconst 1, 1) := chk_nth ocL_law_26 (k := 23) rfl
def tcL_law_27 : List (Instr × Nat) := [(.iadd, 1), (.iaload, 1), (.aload_n 0, 1), (.iload_n 3, 1), (.iconst 2, 1), (.iadd, 1), (.iaload, 1), (.invokevirtual 106, 3), (.if_icmp .eq 766, 3), (.iconst 0, 1), (.ireturn, 1), (.aload_n 1, 1), (.aload_n 0, 1), (.iload_n 3, 1), (.iconst 1, 1), (.iadd, 1), (.iaload, 1), (.aload_n 0, 1), (.iload_n 3, 1), (.iconst 2, 1), (.iadd, 1), (.iaload, 1), (.aload_n 0, 1), (.iload_n 3, 1)]
theorem ocL_law_27 : chk (cL_law.data.toList.drop 968) tcL_law_27 = true := by decide +kernel
theorem dL_law_968 : decode cL_law 968 = .ok (.iadd, 1) := chk_nth ocL_law_27 (k := 0) rfl
theorem dL_law_969 : decode cL_law 969 = .ok (.iaload, 1) := chk_nth ocL_law_27 (k := 1) rfl
theorem dL_law_970 : decode cL_law 970 = .ok (.aload_n 0, 1) := chk_nth ocL_law_27 (k := 2) rfl
theorem dL_law_971 : decode cL_law 971 = .ok (.iload_n 3, 1) := chk_nth ocL_law_27 (k := 3) rfl
theorem dL_law_972 : decode cL_law 972 = .ok (.iconst 2, 1) := chk_nth ocL_law_27 (k := 4) rfl
theorem dL_law_973 : decode cL_law 973 = .ok (.iadd, 1) := chk_nth ocL_law_27 (k := 5) rfl
theorem dL_law_974 : decode cL_law 974 = .ok (.iaload, 1) := chk_nth ocL_law_27 (k := 6) rfl
theorem dL_law_975 : decode cL_law 975 = .ok (.invokevirtual 106, 3) := chk_nth ocL_law_27 (k := 7) rfl
theorem dL_law_978 : decode cL_law 978 = .ok (.if_icmp .eq 766, 3) := chk_nth ocL_law_27 (k := 8) rfl
theorem dL_law_981 : decode cL_law 981 = .ok (.iconst 0, 1) := chk_nth ocL_law_27 (k := 9) rfl
theorem dL_law_982 : decode cL_law 982 = .ok (.ireturn, 1) := chk_nth ocL_law_27 (k := 10) rfl
theorem dL_law_983 : decode cL_law 983 = .ok (.aload_n 1, 1) := chk_nth ocL_law_27 (k := 11) rfl
theorem dL_law_984 : decode cL_law 984 = .ok (.aload_n 0, 1) := chk_nth ocL_law_27 (k := 12) rfl
theorem dL_law_985 : decode cL_law 985 = .ok (.iload_n 3, 1) := chk_nth ocL_law_27 (k := 13) rfl
theorem dL_law_986 : decode cL_law 986 = .ok (.iconst 1, 1) := chk_nth ocL_law_27 (k := 14) rfl
theorem dL_law_987 : decode cL_law 987 = .ok (.iadd, 1) := chk_nth ocL_law_27 (k := 15) rfl
theorem dL_law_988 : decode cL_law 988 = .ok (.iaload, 1) := chk_nth ocL_law_27 (k := 16) rfl
theorem dL_law_989 : decode cL_law 989 = .ok (.aload_n 0, 1) := chk_nth ocL_law_27 (k := 17) rfl
theorem dL_law_990 : decode cL_law 990 = .ok (.iload_n 3, 1) := chk_nth ocL_law_27 (k := 18) rfl
theorem dL_law_991 : decode cL_law 991 = .ok (.iconst 2, 1) := chk_nth ocL_law_27 (k := 19) rfl
theorem dL_law_992 : decode cL_law 992 = .ok (.iadd, 1) := chk_nth ocL_law_27 (k := 20) rfl
theorem dL_law_993 : decode cL_law 993 = .ok (.iaload, 1) := chk_nth ocL_law_27 (k := 21) rfl
theorem dL_law_994 : decode cL_law 994 = .ok (.aload_n 0, 1) := chk_nth ocL_law_27 (k := 22) rfl
theorem dL_law_995 : decode cL_law 995 = .ok (.iload_n 3, 1) := chk_nth ocL_law_27 (k := 23) rfl
def tcL_law_28 : List (Instr × Nat) := [(.iconst 3, 1), (.iadd, 1), (.iaload, 1), (.invokevirtual 107, 3), (.aload_n 2, 1), (.aload_n 0, 1), (.iload_n 3, 1), (.iconst 1, 1), (.iadd, 1), (.iaload, 1), (.aload_n 0, 1), (.iload_n 3, 1), (.iconst 2, 1), (.iadd, 1), (.iaload, 1), (.aload_n 0, 1), (.iload_n 3, 1), (.iconst 3, 1), (.iadd, 1), (.iaload, 1), (.invokevirtual 110, 3), (.if_icmp .eq 723, 3), (.iconst 0, 1), (.ireturn, 1)]
theorem ocL_law_28 : chk (cL_law.data.toList.drop 996) tcL_law_28 = true := by decide +kernel
theorem dL_law_996 : decode cL_law 996 = .ok (.iconst 3, 1) := chk_nth ocL_law_28 (k := 0) rfl
theorem dL_law_997 : decode cL_law 997 = .ok (.iadd, 1) := chk_nth ocL_law_28 (k := 1) rfl
theorem dL_law_998 : decode cL_law 998 = .ok (.iaload, 1) := chk_nth ocL_law_28 (k := 2) rfl
theorem dL_law_999 : decode cL_law 999 = .ok (.invokevirtual 107, 3) := chk_nth ocL_law_28 (k := 3) rfl
theorem dL_law_1002 : decode cL_law 1002 = .ok (.aload_n 2, 1) := chk_nth ocL_law_28 (k := 4) rfl
theorem dL_law_1003 : decode cL_law 1003 = .ok (.aload_n 0, 1) := chk_nth ocL_law_28 (k := 5) rfl
theorem dL_law_1004 : decode cL_law 1004 = .ok (.iload_n 3, 1) := chk_nth ocL_law_28 (k := 6) rfl
theorem dL_law_1005 : decode cL_law 1005 = .ok (.iconst 1, 1) := chk_nth ocL_law_28 (k := 7) rfl
theorem dL_law_1006 : decode cL_law 1006 = .ok (.iadd, 1) := chk_nth ocL_law_28 (k := 8) rfl
theorem dL_law_1007 : decode cL_law 1007 = .ok (.iaload, 1) := chk_nth ocL_law_28 (k := 9) rfl
theorem dL_law_1008 : decode cL_law 1008 = .ok (.aload_n 0, 1) := chk_nth ocL_law_28 (k := 10) rfl
theorem dL_law_1009 : decode cL_law 1009 = .ok (.iload_n 3, 1) := chk_nth ocL_law_28 (k := 11) rfl
theorem dL_law_1010 : decode cL_law 1010 = .ok (.iconst 2, 1) := chk_nth ocL_law_28 (k := 12) rfl
theorem dL_law_1011 : decode cL_law 1011 = .ok (.iadd, 1) := chk_nth ocL_law_28 (k := 13) rfl
theorem dL_law_1012 : decode cL_law 1012 = .ok (.iaload, 1) := chk_nth ocL_law_28 (k := 14) rfl
theorem dL_law_1013 : decode cL_law 1013 = .ok (.aload_n 0, 1) := chk_nth ocL_law_28 (k := 15) rfl
theorem dL_law_1014 : decode cL_law 1014 = .ok (.iload_n 3, 1) := chk_nth ocL_law_28 (k := 16) rfl
theorem dL_law_1015 : decode cL_law 1015 = .ok (.iconst 3, 1) := chk_nth ocL_law_28 (k := 17) rfl
theorem dL_law_1016 : decode cL_law 1016 = .ok (.iadd, 1) := chk_nth ocL_law_28 (k := 18) rfl
theorem dL_law_1017 : decode cL_law 1017 = .ok (.iaload, 1) := chk_nth ocL_law_28 (k := 19) rfl
theorem dL_law_1018 : decode cL_law 1018 = .ok (.invokevirtual 110, 3) := chk_nth ocL_law_28 (k := 20) rfl
theorem dL_law_1021 : decode cL_law 1021 = .ok (.if_icmp .eq 723, 3) := chk_nth ocL_law_28 (k := 21) rfl
theorem dL_law_1024 : decode cL_law 1024 = .ok (.iconst 0, 1) := chk_nth ocL_law_28 (k := 22) rfl
theorem dL_law_1025 : decode cL_law 1025 = .ok (.ireturn, 1) := chk_nth ocL_law_28 (k := 23) rfl
def tcL_law_29 : List (Instr × Nat) := [(.aload_n 1, 1), (.aload_n 0, 1), (.iload_n 3, 1), (.iconst 1, 1), (.iadd, 1), (.iaload, 1), (.invokevirtual 111, 3), (.aload_n 2, 1), (.aload_n 0, 1), (.iload_n 3, 1), (.iconst 1, 1), (.iadd, 1), (.iaload, 1), (.invokevirtual 114, 3), (.if_icmp .eq 700, 3), (.iconst 0, 1), (.ireturn, 1), (.aload_n 1, 1), (.aload_n 0, 1), (.iload_n 3, 1), (.iconst 1, 1), (.iadd, 1), (.iaload, 1), (.invokevirtual 115, 3)]
theorem ocL_law_29 : chk (cL_law.data.toList.drop 1026) tcL_law_29 = true := by decide +kernel
theorem dL_law_1026 : decode cL_law 1026 = .ok (.aload_n 1, 1) := chk_nth ocL_law_29 (k := 0) rfl
theorem dL_law_1027 : decode cL_law 1027 = .ok (.aload_n 0, 1) := chk_nth ocL_law_29 (k := 1) rfl
theorem dL_law_1028 : decode cL_law 1028 = .ok (.iload_n 3, 1) := chk_nth ocL_law_29 (k := 2) rfl
theorem dL_law_1029 : decode cL_law 1029 = .ok (.iconst 1, 1) := chk_nth ocL_law_29 (k := 3) rfl
theorem dL_law_1030 : decode cL_law 1030 = .ok (.iadd, 1) := chk_nth ocL_law_29 (k := 4) rfl
theorem dL_law_1031 : decode cL_law 1031 = .ok (.iaload, 1) := chk_nth ocL_law_29 (k := 5) rfl
theorem dL_law_1032 : decode cL_law 1032 = .ok (.invokevirtual 111, 3) := chk_nth ocL_law_29 (k := 6) rfl
theorem dL_law_1035 : decode cL_law 1035 = .ok (.aload_n 2, 1) := chk_nth ocL_law_29 (k := 7) rfl
theorem dL_law_1036 : decode cL_law 1036 = .ok (.aload_n 0, 1) := chk_nth ocL_law_29 (k := 8) rfl
theorem dL_law_1037 : decode cL_law 1037 = .ok (.iload_n 3, 1) := chk_nth ocL_law_29 (k := 9) rfl
theorem dL_law_1038 : decode cL_law 1038 = .ok (.iconst 1, 1) := chk_nth ocL_law_29 (k := 10) rfl
theorem dL_law_1039 : decode cL_law 1039 = .ok (.iadd, 1) := chk_nth ocL_law_29 (k := 11) rfl
theorem dL_law_1040 : decode cL_law 1040 = .ok (.iaload, 1) := chk_nth ocL_law_29 (k := 12) rfl
theorem dL_law_1041 : decode cL_law 1041 = .ok (.invokevirtual 114, 3) := chk_nth ocL_law_29 (k := 13) rfl
theorem dL_law_1044 : decode cL_law 1044 = .ok (.if_icmp .eq 700, 3) := chk_nth ocL_law_29 (k := 14) rfl
theorem dL_law_1047 : decode cL_law 1047 = .ok (.iconst 0, 1) := chk_nth ocL_law_29 (k := 15) rfl
theorem dL_law_1048 : decode cL_law 1048 = .ok (.ireturn, 1) := chk_nth ocL_law_29 (k := 16) rfl
theorem dL_law_1049 : decode cL_law 1049 = .ok (.aload_n 1, 1) := chk_nth ocL_law_29 (k := 17) rfl
theorem dL_law_1050 : decode cL_law 1050 = .ok (.aload_n 0, 1) := chk_nth ocL_law_29 (k := 18) rfl
theorem dL_law_1051 : decode cL_law 1051 = .ok (.iload_n 3, 1) := chk_nth ocL_law_29 (k := 19) rfl
theorem dL_law_1052 : decode cL_law 1052 = .ok (.iconst 1, 1) := chk_nth ocL_law_29 (k := 20) rfl
theorem dL_law_1053 : decode cL_law 1053 = .ok (.iadd, 1) := chk_nth ocL_law_29 (k := 21) rfl
theorem dL_law_1054 : decode cL_law 1054 = .ok (.iaload, 1) := chk_nth ocL_law_29 (k := 22) rfl
theorem dL_law_1055 : decode cL_law 1055 = .ok (.invokevirtual 115, 3) := chk_nth ocL_law_29 (k := 23) rfl
def tcL_law_30 : List (Instr × Nat) := [(.aload_n 2, 1), (.aload_n 0, 1), (.iload_n 3, 1), (.iconst 1, 1), (.iadd, 1), (.iaload, 1), (.invokevirtual 118, 3), (.if_icmp .eq 677, 3), (.iconst 0, 1), (.ireturn, 1), (.aload_n 1, 1), (.aload_n 0, 1), (.iload_n 3, 1), (.iconst 1, 1), (.iadd, 1), (.iaload, 1), (.aload_n 0, 1), (.iload_n 3, 1), (.iconst 2, 1), (.iadd, 1), (.iaload, 1), (.invokevirtual 119, 3), (.aload_n 2, 1), (.aload_n 0, 1)]
theorem ocL_law_30 : chk (cL_law.data.toList.drop 1058) tcL_law_30 = true := by decide +kernel
theorem dL_law_1058 : decode cL_law 1058 = .ok (.aload_n 2, 1) := chk_nth ocL_law_30 (k := 0) rfl
theorem dL_law_1059 : decode cL_law 1059 = .ok (.aload_n 0, 1) := chk_nth ocL_law_30 (k := 1) rfl
theorem dL_law_1060 : decode cL_law 1060 = .ok (.iload_n 3, 1) := chk_nth ocL_law_30 (k := 2) rfl
theorem dL_law_1061 : decode cL_law 1061 = .ok (.iconst 1, 1) := chk_nth ocL_law_30 (k := 3) rfl
theorem dL_law_1062 : decode cL_law 1062 = .ok (.iadd, 1) := chk_nth ocL_law_30 (k := 4) rfl
theorem dL_law_1063 : decode cL_law 1063 = .ok (.iaload, 1) := chk_nth ocL_law_30 (k := 5) rfl
theorem dL_law_1064 : decode cL_law 1064 = .ok (.invokevirtual 118, 3) := chk_nth ocL_law_30 (k := 6) rfl
theorem dL_law_1067 : decode cL_law 1067 = .ok (.if_icmp .eq 677, 3) := chk_nth ocL_law_30 (k := 7) rfl
theorem dL_law_1070 : decode cL_law 1070 = .ok (.iconst 0, 1) := chk_nth ocL_law_30 (k := 8) rfl
theorem dL_law_1071 : decode cL_law 1071 = .ok (.ireturn, 1) := chk_nth ocL_law_30 (k := 9) rfl
theorem dL_law_1072 : decode cL_law 1072 = .ok (.aload_n 1, 1) := chk_nth ocL_law_30 (k := 10) rfl
theorem dL_law_1073 : decode cL_law 1073 = .ok (.aload_n 0, 1) := chk_nth ocL_law_30 (k := 11) rfl
theorem dL_law_1074 : decode cL_law 1074 = .ok (.iload_n 3, 1) := chk_nth ocL_law_30 (k := 12) rfl
theorem dL_law_1075 : decode cL_law 1075 = .ok (.iconst 1, 1) := chk_nth ocL_law_30 (k := 13) rfl
theorem dL_law_1076 : decode cL_law 1076 = .ok (.iadd, 1) := chk_nth ocL_law_30 (k := 14) rfl
theorem dL_law_1077 : decode cL_law 1077 = .ok (.iaload, 1) := chk_nth ocL_law_30 (k := 15) rfl
theorem dL_law_1078 : decode cL_law 1078 = .ok (.aload_n 0, 1) := chk_nth ocL_law_30 (k := 16) rfl
theorem dL_law_1079 : decode cL_law 1079 = .ok (.iload_n 3, 1) := chk_nth ocL_law_30 (k := 17) rfl
theorem dL_law_1080 : decode cL_law 1080 = .ok (.iconst 2, 1) := chk_nth ocL_law_30 (k := 18) rfl
theorem dL_law_1081 : decode cL_law 1081 = .ok (.iadd, 1) := chk_nth ocL_law_30 (k := 19) rfl
theorem dL_law_1082 : decode cL_law 1082 = .ok (.iaload, 1) := chk_nth ocL_law_30 (k := 20) rfl
theorem dL_law_1083 : decode cL_law 1083 = .ok (.invokevirtual 119, 3) := chk_nth ocL_law_30 (k := 21) rfl
theorem dL_law_1086 : decode cL_law 1086 = .ok (.aload_n 2, 1) := chk_nth ocL_law_30 (k := 22) rfl
theorem dL_law_1087 : decode cL_law 1087 = .ok (.aload_n 0, 1) := chk_nth ocL_law_30 (k := 23) rfl
def tcL_law_31 : List (Instr × Nat) := [(.iload_n 3, 1), (.iconst 1, 1), (.iadd, 1), (.iaload, 1), (.aload_n 0, 1), (.iload_n 3, 1), (.iconst 2, 1), (.iadd, 1), (.iaload, 1), (.invokevirtual 122, 3), (.if_icmp .eq 644, 3), (.iconst 0, 1), (.ireturn, 1), (.aload_n 1, 1), (.aload_n 0, 1), (.iload_n 3, 1), (.iconst 1, 1), (.iadd, 1), (.iaload, 1), (.aload_n 0, 1), (.iload_n 3, 1), (.iconst 2, 1), (.iadd, 1), (.iaload, 1)]
theorem ocL_law_31 : chk (cL_law.data.toList.drop 1088) tcL_law_31 = true := by decide +kernel
theorem dL_law_1088 : decode cL_law 1088 = .ok (.iload_n 3, 1) := chk_nth ocL_law_31 (k := 0) rfl
theorem dL_law_1089 : decode cL_law 1089 = .ok (.iconst 1, 1) := chk_nth ocL_law_31 (k := 1) rfl
theorem dL_law_1090 : decode cL_law 1090 = .ok (.iadd, 1) := chk_nth ocL_law_31 (k := 2) rfl
theorem dL_law_1091 : decode cL_law 1091 = .ok (.iaload, 1) := chk_nth ocL_law_31 (k := 3) rfl
theorem dL_law_1092 : decode cL_law 1092 = .ok (.aload_n 0, 1) := chk_nth ocL_law_31 (k := 4) rfl
theorem dL_law_1093 : decode cL_law 1093 = .ok (.iload_n 3, 1) := chk_nth ocL_law_31 (k := 5) rfl
theorem dL_law_1094 : decode cL_law 1094 = .ok (.iconst 2, 1) := chk_nth ocL_law_31 (k := 6) rfl
theorem dL_law_1095 : decode cL_law 1095 = .ok (.iadd, 1) := chk_nth ocL_law_31 (k := 7) rfl
theorem dL_law_1096 : decode cL_law 1096 = .ok (.iaload, 1) := chk_nth ocL_law_31 (k := 8) rfl
theorem dL_law_1097 : decode cL_law 1097 = .ok (.invokevirtual 122, 3) := chk_nth ocL_law_31 (k := 9) rfl
theorem dL_law_1100 : decode cL_law 1100 = .ok (.if_icmp .eq 644, 3) := chk_nth ocL_law_31 (k := 10) rfl
theorem dL_law_1103 : decode cL_law 1103 = .ok (.iconst 0, 1) := chk_nth ocL_law_31 (k := 11) rfl
theorem dL_law_1104 : decode cL_law 1104 = .ok (.ireturn, 1) := chk_nth ocL_law_31 (k := 12) rfl
theorem dL_law_1105 : decode cL_law 1105 = .ok (.aload_n 1, 1) := chk_nth ocL_law_31 (k := 13) rfl
theorem dL_law_1106 : decode cL_law 1106 = .ok (.aload_n 0, 1) := chk_nth ocL_law_31 (k := 14) rfl
theorem dL_law_1107 : decode cL_law 1107 = .ok (.iload_n 3, 1) := chk_nth ocL_law_31 (k := 15) rfl
theorem dL_law_1108 : decode cL_law 1108 = .ok (.iconst 1, 1) := chk_nth ocL_law_31 (k := 16) rfl
theorem dL_law_1109 : decode cL_law 1109 = .ok (.iadd, 1) := chk_nth ocL_law_31 (k := 17) rfl
theorem dL_law_1110 : decode cL_law 1110 = .ok (.iaload, 1) := chk_nth ocL_law_31 (k := 18) rfl
theorem dL_law_1111 : decode cL_law 1111 = .ok (.aload_n 0, 1) := chk_nth ocL_law_31 (k := 19) rfl
theorem dL_law_1112 : decode cL_law 1112 = .ok (.iload_n 3, 1) := chk_nth ocL_law_31 (k := 20) rfl
theorem dL_law_1113 : decode cL_law 1113 = .ok (.iconst 2, 1) := chk_nth ocL_law_31 (k := 21) rfl
theorem dL_law_1114 : decode cL_law 1114 = .ok (.iadd, 1) := chk_nth ocL_law_31 (k := 22) rfl
theorem dL_law_1115 : decode cL_law 1115 = .ok (.iaload, 1) := chk_nth ocL_law_31 (k := 23) rfl
def tcL_law_32 : List (Instr × Nat) := [(.aload_n 0, 1), (.iload_n 3, 1), (.iconst 3, 1), (.iadd, 1), (.iaload, 1), (.invokevirtual 123, 3), (.aload_n 2, 1), (.aload_n 0, 1), (.iload_n 3, 1), (.iconst 1, 1), (.iadd, 1), (.iaload, 1), (.aload_n 0, 1), (.iload_n 3, 1), (.iconst 2, 1), (.iadd, 1), (.iaload, 1), (.aload_n 0, 1), (.iload_n 3, 1), (.iconst 3, 1), (.iadd, 1), (.iaload, 1), (.invokevirtual 126, 3), (.if_icmp .eq 601, 3)]
theorem ocL_law_32 : chk (cL_law.data.toList.drop 1116) tcL_law_32 = true := by decide +kernel
theorem dL_law_1116 : decode cL_law 1116 = .ok (.aload_n 0, 1) := chk_nth ocL_law_32 (k := 0) rfl
theorem dL_law_1117 : decode cL_law 1117 = .ok (.iload_n 3, 1) := chk_nth ocL_law_32 (k := 1) rfl
theorem dL_law_1118 : decode cL_law 1118 = .ok (.iconst 3, 1) := chk_nth ocL_law_32 (k := 2) rfl
theorem dL_law_1119 : decode cL_law 1119 = .ok (.iadd, 1) := chk_nth ocL_law_32 (k := 3) rfl
theorem dL_law_1120 : decode cL_law 1120 = .ok (.iaload, 1) := chk_nth ocL_law_32 (k := 4) rfl
theorem dL_law_1121 : decode cL_law 1121 = .ok (.invokevirtual 123, 3) := chk_nth ocL_law_32 (k := 5) rfl
theorem dL_law_1124 : decode cL_law 1124 = .ok (.aload_n 2, 1) := chk_nth ocL_law_32 (k := 6) rfl
theorem dL_law_1125 : decode cL_law 1125 = .ok (.aload_n 0, 1) := chk_nth ocL_law_32 (k := 7) rfl
theorem dL_law_1126 : decode cL_law 1126 = .ok (.iload_n 3, 1) := chk_nth ocL_law_32 (k := 8) rfl
theorem dL_law_1127 : decode cL_law 1127 = .ok (.iconst 1, 1) := chk_nth ocL_law_32 (k := 9) rfl
theorem dL_law_1128 : decode cL_law 1128 = .ok (.iadd, 1) := chk_nth ocL_law_32 (k := 10) rfl
theorem dL_law_1129 : decode cL_law 1129 = .ok (.iaload, 1) := chk_nth ocL_law_32 (k := 11) rfl
theorem dL_law_1130 : decode cL_law 1130 = .ok (.aload_n 0, 1) := chk_nth ocL_law_32 (k := 12) rfl
theorem dL_law_1131 : decode cL_law 1131 = .ok (.iload_n 3, 1) := chk_nth ocL_law_32 (k := 13) rfl
theorem dL_law_1132 : decode cL_law 1132 = .ok (.iconst 2, 1) := chk_nth ocL_law_32 (k := 14) rfl
theorem dL_law_1133 : decode cL_law 1133 = .ok (.iadd, 1) := chk_nth ocL_law_32 (k := 15) rfl
theorem dL_law_1134 : decode cL_law 1134 = .ok (.iaload, 1) := chk_nth ocL_law_32 (k := 16) rfl
theorem dL_law_1135 : decode cL_law 1135 = .ok (.aload_n 0, 1) := chk_nth ocL_law_32 (k := 17) rfl
theorem dL_law_1136 : decode cL_law 1136 = .ok (.iload_n 3, 1) := chk_nth ocL_law_32 (k := 18) rfl
theorem dL_law_1137 : decode cL_law 1137 = .ok (.iconst 3, 1) := chk_nth ocL_law_32 (k := 19) rfl
theorem dL_law_1138 : decode cL_law 1138 = .ok (.iadd, 1) := chk_nth ocL_law_32 (k := 20) rfl
theorem dL_law_1139 : decode cL_law 1139 = .ok (.iaload, 1) := chk_nth ocL_law_32 (k := 21) rfl
theorem dL_law_1140 : decode cL_law 1140 = .ok (.invokevirtual 126, 3) := chk_nth ocL_law_32 (k := 22) rfl
theorem dL_law_1143 : decode cL_law 1143 = .ok (.if_icmp .eq 601, 3) := chk_nth ocL_law_32 (k := 23) rfl
def tcL_law_33 : List (Instr × Nat) := [(.iconst 0, 1), (.ireturn, 1), (.aload_n 1, 1), (.aload_n 0, 1), (.iload_n 3, 1), (.iconst 1, 1), (.iadd, 1), (.iaload, 1), (.aload_n 0, 1), (.iload_n 3, 1), (.iconst 2, 1), (.iadd, 1), (.iaload, 1), (.invokevirtual 127, 3), (.aload_n 2, 1), (.aload_n 0, 1), (.iload_n 3, 1), (.iconst 1, 1), (.iadd, 1), (.iaload, 1), (.aload_n 0, 1), (.iload_n 3, 1), (.iconst 2, 1), (.iadd, 1)]
theorem ocL_law_33 : chk (cL_law.data.toList.drop 1146) tcL_law_33 = true := by decide +kernel
theorem dL_law_1146 : decode cL_law 1146 = .ok (.iconst 0, 1) := chk_nth ocL_law_33 (k := 0) rfl
theorem dL_law_1147 : decode cL_law 1147 = .ok (.ireturn, 1) := chk_nth ocL_law_33 (k := 1) rfl
theorem dL_law_1148 : decode cL_law 1148 = .ok (.aload_n 1, 1) := chk_nth ocL_law_33 (k := 2) rfl
theorem dL_law_1149 : decode cL_law 1149 = .ok (.aload_n 0, 1) := chk_nth ocL_law_33 (k := 3) rfl
theorem dL_law_1150 : decode cL_law 1150 = .ok (.iload_n 3, 1) := chk_nth ocL_law_33 (k := 4) rfl
theorem dL_law_1151 : decode cL_law 1151 = .ok (.iconst 1, 1) := chk_nth ocL_law_33 (k := 5) rfl
theorem dL_law_1152 : decode cL_law 1152 = .ok (.iadd, 1) := chk_nth ocL_law_33 (k := 6) rfl
theorem dL_law_1153 : decode cL_law 1153 = .ok (.iaload, 1) := chk_nth ocL_law_33 (k := 7) rfl
theorem dL_law_1154 : decode cL_law 1154 = .ok (.aload_n 0, 1) := chk_nth ocL_law_33 (k := 8) rfl
theorem dL_law_1155 : decode cL_law 1155 = .ok (.iload_n 3, 1) := chk_nth ocL_law_33 (k := 9) rfl
theorem dL_law_1156 : decode cL_law 1156 = .ok (.iconst 2, 1) := chk_nth ocL_law_33 (k := 10) rfl
theorem dL_law_1157 : decode cL_law 1157 = .ok (.iadd, 1) := chk_nth ocL_law_33 (k := 11) rfl
theorem dL_law_1158 : decode cL_law 1158 = .ok (.iaload, 1) := chk_nth ocL_law_33 (k := 12) rfl
theorem dL_law_1159 : decode cL_law 1159 = .ok (.invokevirtual 127, 3) := chk_nth ocL_law_33 (k := 13) rfl
theorem dL_law_1162 : decode cL_law 1162 = .ok (.aload_n 2, 1) := chk_nth ocL_law_33 (k := 14) rfl
theorem dL_law_1163 : decode cL_law 1163 = .ok (.aload_n 0, 1) := chk_nth ocL_law_33 (k := 15) rfl
theorem dL_law_1164 : decode cL_law 1164 = .ok (.iload_n 3, 1) := chk_nth ocL_law_33 (k := 16) rfl
theorem dL_law_1165 : decode cL_law 1165 = .ok (.iconst 1, 1) := chk_nth ocL_law_33 (k := 17) rfl
theorem dL_law_1166 : decode cL_law 1166 = .ok (.iadd, 1) := chk_nth ocL_law_33 (k := 18) rfl
theorem dL_law_1167 : decode cL_law 1167 = .ok (.iaload, 1) := chk_nth ocL_law_33 (k := 19) rfl
theorem dL_law_1168 : decode cL_law 1168 = .ok (.aload_n 0, 1) := chk_nth ocL_law_33 (k := 20) rfl
theorem dL_law_1169 : decode cL_law 1169 = .ok (.iload_n 3, 1) := chk_nth ocL_law_33 (k := 21) rfl
theorem dL_law_1170 : decode cL_law 1170 = .ok (.iconst 2, 1) := chk_nth ocL_law_33 (k := 22) rfl
theorem dL_law_1171 : decode cL_law 1171 = .ok (.iadd, 1) := chk_nth ocL_law_33 (k := 23) rfl
def tcL_law_34 : List (Instr × Nat) := [(.iaload, 1), (.invokevirtual 130, 3), (.if_icmp .eq 568, 3), (.iconst 0, 1), (.ireturn, 1), (.aload_n 1, 1), (.aload_n 0, 1), (.iload_n 3, 1), (.iconst 1, 1), (.iadd, 1), (.iaload, 1), (.aload_n 0, 1), (.iload_n 3, 1), (.iconst 2, 1), (.iadd, 1), (.iaload, 1), (.aload_n 0, 1), (.iload_n 3, 1), (.iconst 3, 1), (.iadd, 1), (.iaload, 1), (.invokevirtual 131, 3), (.aload_n 2, 1), (.aload_n 0, 1)]
theorem ocL_law_34 : chk (cL_law.data.toList.drop 1172) tcL_law_34 = true := by decide +kernel
theorem dL_law_1172 : decode cL_law 1172 = .ok (.iaload, 1) := chk_nth ocL_law_34 (k := 0) rfl
theorem dL_law_1173 : decode cL_law 1173 = .ok (.invokevirtual 130, 3) := chk_nth ocL_law_34 (k := 1) rfl
theorem dL_law_1176 : decode cL_law 1176 = .ok (.if_icmp .eq 568, 3) := chk_nth ocL_law_34 (k := 2) rfl
theorem dL_law_1179 : decode cL_law 1179 = .ok (.iconst 0, 1) := chk_nth ocL_law_34 (k := 3) rfl
theorem dL_law_1180 : decode cL_law 1180 = .ok (.ireturn, 1) := chk_nth ocL_law_34 (k := 4) rfl
theorem dL_law_1181 : decode cL_law 1181 = .ok (.aload_n 1, 1) := chk_nth ocL_law_34 (k := 5) rfl
theorem dL_law_1182 : decode cL_law 1182 = .ok (.aload_n 0, 1) := chk_nth ocL_law_34 (k := 6) rfl
theorem dL_law_1183 : decode cL_law 1183 = .ok (.iload_n 3, 1) := chk_nth ocL_law_34 (k := 7) rfl
theorem dL_law_1184 : decode cL_law 1184 = .ok (.iconst 1, 1) := chk_nth ocL_law_34 (k := 8) rfl
theorem dL_law_1185 : decode cL_law 1185 = .ok (.iadd, 1) := chk_nth ocL_law_34 (k := 9) rfl
theorem dL_law_1186 : decode cL_law 1186 = .ok (.iaload, 1) := chk_nth ocL_law_34 (k := 10) rfl
theorem dL_law_1187 : decode cL_law 1187 = .ok (.aload_n 0, 1) := chk_nth ocL_law_34 (k := 11) rfl
theorem dL_law_1188 : decode cL_law 1188 = .ok (.iload_n 3, 1) := chk_nth ocL_law_34 (k := 12) rfl
theorem dL_law_1189 : decode cL_law 1189 = .ok (.iconst 2, 1) := chk_nth ocL_law_34 (k := 13) rfl
theorem dL_law_1190 : decode cL_law 1190 = .ok (.iadd, 1) := chk_nth ocL_law_34 (k := 14) rfl
theorem dL_law_1191 : decode cL_law 1191 = .ok (.iaload, 1) := chk_nth ocL_law_34 (k := 15) rfl
theorem dL_law_1192 : decode cL_law 1192 = .ok (.aload_n 0, 1) := chk_nth ocL_law_34 (k := 16) rfl
theorem dL_law_1193 : decode cL_law 1193 = .ok (.iload_n 3, 1) := chk_nth ocL_law_34 (k := 17) rfl
theorem dL_law_1194 : decode cL_law 1194 = .ok (.iconst 3, 1) := chk_nth ocL_law_34 (k := 18) rfl
theorem dL_law_1195 : decode cL_law 1195 = .ok (.iadd, 1) := chk_nth ocL_law_34 (k := 19) rfl
theorem dL_law_1196 : decode cL_law 1196 = .ok (.iaload, 1) := chk_nth ocL_law_34 (k := 20) rfl
theorem dL_law_1197 : decode cL_law 1197 = .ok (.invokevirtual 131, 3) := chk_nth ocL_law_34 (k := 21) rfl
theorem dL_law_1200 : decode cL_law 1200 = .ok (.aload_n 2, 1) := chk_nth ocL_law_34 (k := 22) rfl
theorem dL_law_1201 : decode cL_law 1201 = .ok (.aload_n 0, 1) := chk_nth ocL_law_34 (k := 23) rfl
def tcL_law_35 : List (Instr × Nat) := [(.iload_n 3, 1), (.iconst 1, 1), (.iadd, 1), (.iaload, 1), (.aload_n 0, 1), (.iload_n 3, 1), (.iconst 2, 1), (.iadd, 1), (.iaload, 1), (.aload_n 0, 1), (.iload_n 3, 1), (.iconst 3, 1), (.iadd, 1), (.iaload, 1), (.invokevirtual 134, 3), (.if_icmp .eq 525, 3), (.iconst 0, 1), (.ireturn, 1), (.aload_n 1, 1), (.aload_n 0, 1), (.iload_n 3, 1), (.iconst 1, 1), (.iadd, 1), (.iaload, 1)]
theorem ocL_law_35 : chk (cL_law.data.toList.drop 1202) tcL_law_35 = true := by decide +kernel
theorem dL_law_1202 : decode cL_law 1202 = .ok (.iload_n 3, 1) := chk_nth ocL_law_35 (k := 0) rfl
theorem dL_law_1203 : decode cL_law 1203 = .ok (.iconst 1, 1) := chk_nth ocL_law_35 (k := 1) rfl
theorem dL_law_1204 : decode cL_law 1204 = .ok (.iadd, 1) := chk_nth ocL_law_35 (k := 2) rfl
theorem dL_law_1205 : decode cL_law 1205 = .ok (.iaload, 1) := chk_nth ocL_law_35 (k := 3) rfl
theorem dL_law_1206 : decode cL_law 1206 = .ok (.aload_n 0, 1) := chk_nth ocL_law_35 (k := 4) rfl
theorem dL_law_1207 : decode cL_law 1207 = .ok (.iload_n 3, 1) := chk_nth ocL_law_35 (k := 5) rfl
theorem dL_law_1208 : decode cL_law 1208 = .ok (.iconst 2, 1) := chk_nth ocL_law_35 (k := 6) rfl
theorem dL_law_1209 : decode cL_law 1209 = .ok (.iadd, 1) := chk_nth ocL_law_35 (k := 7) rfl
theorem dL_law_1210 : decode cL_law 1210 = .ok (.iaload, 1) := chk_nth ocL_law_35 (k := 8) rfl
theorem dL_law_1211 : decode cL_law 1211 = .ok (.aload_n 0, 1) := chk_nth ocL_law_35 (k := 9) rfl
theorem dL_law_1212 : decode cL_law 1212 = .ok (.iload_n 3, 1) := chk_nth ocL_law_35 (k := 10) rfl
theorem dL_law_1213 : decode cL_law 1213 = .ok (.iconst 3, 1) := chk_nth ocL_law_35 (k := 11) rfl
theorem dL_law_1214 : decode cL_law 1214 = .ok (.iadd, 1) := chk_nth ocL_law_35 (k := 12) rfl
theorem dL_law_1215 : decode cL_law 1215 = .ok (.iaload, 1) := chk_nth ocL_law_35 (k := 13) rfl
theorem dL_law_1216 : decode cL_law 1216 = .ok (.invokevirtual 134, 3) := chk_nth ocL_law_35 (k := 14) rfl
theorem dL_law_1219 : decode cL_law 1219 = .ok (.if_icmp .eq 525, 3) := chk_nth ocL_law_35 (k := 15) rfl
theorem dL_law_1222 : decode cL_law 1222 = .ok (.iconst 0, 1) := chk_nth ocL_law_35 (k := 16) rfl
theorem dL_law_1223 : decode cL_law 1223 = .ok (.ireturn, 1) := chk_nth ocL_law_35 (k := 17) rfl
theorem dL_law_1224 : decode cL_law 1224 = .ok (.aload_n 1, 1) := chk_nth ocL_law_35 (k := 18) rfl
theorem dL_law_1225 : decode cL_law 1225 = .ok (.aload_n 0, 1) := chk_nth ocL_law_35 (k := 19) rfl
theorem dL_law_1226 : decode cL_law 1226 = .ok (.iload_n 3, 1) := chk_nth ocL_law_35 (k := 20) rfl
theorem dL_law_1227 : decode cL_law 1227 = .ok (.iconst 1, 1) := chk_nth ocL_law_35 (k := 21) rfl
theorem dL_law_1228 : decode cL_law 1228 = .ok (.iadd, 1) := chk_nth ocL_law_35 (k := 22) rfl
theorem dL_law_1229 : decode cL_law 1229 = .ok (.iaload, 1) := chk_nth ocL_law_35 (k := 23) rfl
def tcL_law_36 : List (Instr × Nat) := [(.aload_n 0, 1), (.iload_n 3, 1), (.iconst 2, 1), (.iadd, 1), (.iaload, 1), (.aload_n 0, 1), (.iload_n 3, 1), (.iconst 3, 1), (.iadd, 1), (.iaload, 1), (.invokevirtual 135, 3), (.aload_n 2, 1), (.aload_n 0, 1), (.iload_n 3, 1), (.iconst 1, 1), (.iadd, 1), (.iaload, 1), (.aload_n 0, 1), (.iload_n 3, 1), (.iconst 2, 1), (.iadd, 1), (.iaload, 1), (.aload_n 0, 1), (.iload_n 3, 1)]
theorem ocL_law_36 : chk (cL_law.data.toList.drop 1230) tcL_law_36 = true := by decide +kernel
theorem dL_law_1230 : decode cL_law 1230 = .ok (.aload_n 0, 1) := chk_nth ocL_law_36 (k := 0) rfl
theorem dL_law_1231 : decode cL_law 1231 = .ok (.iload_n 3, 1) := chk_nth ocL_law_36 (k := 1) rfl
theorem dL_law_1232 : decode cL_law 1232 = .ok (.iconst 2, 1) := chk_nth ocL_law_36 (k := 2) rfl
theorem dL_law_1233 : decode cL_law 1233 = .ok (.iadd, 1) := chk_nth ocL_law_36 (k := 3) rfl
theorem dL_law_1234 : decode cL_law 1234 = .ok (.iaload, 1) := chk_nth ocL_law_36 (k := 4) rfl
theorem dL_law_1235 : decode cL_law 1235 = .ok (.aload_n 0, 1) := chk_nth ocL_law_36 (k := 5) rfl
theorem dL_law_1236 : decode cL_law 1236 = .ok (.iload_n 3, 1) := chk_nth ocL_law_36 (k := 6) rfl
theorem dL_law_1237 : decode cL_law 1237 = .ok (.iconst 3, 1) := chk_nth ocL_law_36 (k := 7) rfl
theorem dL_law_1238 : decode cL_law 1238 = .ok (.iadd, 1) := chk_nth ocL_law_36 (k := 8) rfl
theorem dL_law_1239 : decode cL_law 1239 = .ok (.iaload, 1) := chk_nth ocL_law_36 (k := 9) rfl
theorem dL_law_1240 : decode cL_law 1240 = .ok (.invokevirtual 135, 3) := chk_nth ocL_law_36 (k := 10) rfl
theorem dL_law_1243 : decode cL_law 1243 = .ok (.aload_n 2, 1) := chk_nth ocL_law_36 (k := 11) rfl
theorem dL_law_1244 : decode cL_law 1244 = .ok (.aload_n 0, 1) := chk_nth ocL_law_36 (k := 12) rfl
theorem dL_law_1245 : decode cL_law 1245 = .ok (.iload_n 3, 1) := chk_nth ocL_law_36 (k := 13) rfl
theorem dL_law_1246 : decode cL_law 1246 = .ok (.iconst 1, 1) := chk_nth ocL_law_36 (k := 14) rfl
theorem dL_law_1247 : decode cL_law 1247 = .ok (.iadd, 1) := chk_nth ocL_law_36 (k := 15) rfl
theorem dL_law_1248 : decode cL_law 1248 = .ok (.iaload, 1) := chk_nth ocL_law_36 (k := 16) rfl
theorem dL_law_1249 : decode cL_law 1249 = .ok (.aload_n 0, 1) := chk_nth ocL_law_36 (k := 17) rfl
theorem dL_law_1250 : decode cL_law 1250 = .ok (.iload_n 3, 1) := chk_nth ocL_law_36 (k := 18) rfl
theorem dL_law_1251 : decode cL_law 1251 = .ok (.iconst 2, 1) := chk_nth ocL_law_36 (k := 19) rfl
theorem dL_law_1252 : decode cL_law 1252 = .ok (.iadd, 1) := chk_nth ocL_law_36 (k := 20) rfl
theorem dL_law_1253 : decode cL_law 1253 = .ok (.iaload, 1) := chk_nth ocL_law_36 (k := 21) rfl
theorem dL_law_1254 : decode cL_law 1254 = .ok (.aload_n 0, 1) := chk_nth ocL_law_36 (k := 22) rfl
theorem dL_law_1255 : decode cL_law 1255 = .ok (.iload_n 3, 1) := chk_nth ocL_law_36 (k := 23) rfl
def tcL_law_37 : List (Instr × Nat) := [(.iconst 3, 1), (.iadd, 1), (.iaload, 1), (.invokevirtual 138, 3), (.if_icmp .eq 482, 3), (.iconst 0, 1), (.ireturn, 1), (.aload_n 1, 1), (.aload_n 0, 1), (.iload_n 3, 1), (.iconst 1, 1), (.iadd, 1), (.iaload, 1), (.aload_n 0, 1), (.iload_n 3, 1), (.iconst 2, 1), (.iadd, 1), (.iaload, 1), (.aload_n 0, 1), (.iload_n 3, 1), (.iconst 3, 1), (.iadd, 1), (.iaload, 1), (.invokevirtual 139, 3)]
theorem ocL_law_37 : chk (cL_law.data.toList.drop 1256) tcL_law_37 = true := by decide +kernel
theorem dL_law_1256 : decode cL_law 1256 = .ok (.iconst 3, 1) := chk_nth ocL_law_37 (k := 0) rfl
theorem dL_law_1257 : decode cL_law 1257 = .ok (.iadd, 1) := chk_nth ocL_law_37 (k := 1) rfl
theorem dL_law_1258 : decode cL_law 1258 = .ok (.iaload, 1) := chk_nth ocL_law_37 (k := 2) rfl
theorem dL_law_1259 : decode cL_law 1259 = .ok (.invokevirtual 138, 3) := chk_nth ocL_law_37 (k := 3) rfl
theorem dL_law_1262 : decode cL_law 1262 = .ok (.if_icmp .eq 482, 3) := chk_nth ocL_law_37 (k := 4) rfl
theorem dL_law_1265 : decode cL_law 1265 = .ok (.iconst 0, 1) := chk_nth ocL_law_37 (k := 5) rfl
theorem dL_law_1266 : decode cL_law 1266 = .ok (.ireturn, 1) := chk_nth ocL_law_37 (k := 6) rfl
theorem dL_law_1267 : decode cL_law 1267 = .ok (.aload_n 1, 1) := chk_nth ocL_law_37 (k := 7) rfl
theorem dL_law_1268 : decode cL_law 1268 = .ok (.aload_n 0, 1) := chk_nth ocL_law_37 (k := 8) rfl
theorem dL_law_1269 : decode cL_law 1269 = .ok (.iload_n 3, 1) := chk_nth ocL_law_37 (k := 9) rfl
theorem dL_law_1270 : decode cL_law 1270 = .ok (.iconst 1, 1) := chk_nth ocL_law_37 (k := 10) rfl
theorem dL_law_1271 : decode cL_law 1271 = .ok (.iadd, 1) := chk_nth ocL_law_37 (k := 11) rfl
theorem dL_law_1272 : decode cL_law 1272 = .ok (.iaload, 1) := chk_nth ocL_law_37 (k := 12) rfl
theorem dL_law_1273 : decode cL_law 1273 = .ok (.aload_n 0, 1) := chk_nth ocL_law_37 (k := 13) rfl
theorem dL_law_1274 : decode cL_law 1274 = .ok (.iload_n 3, 1) := chk_nth ocL_law_37 (k := 14) rfl
theorem dL_law_1275 : decode cL_law 1275 = .ok (.iconst 2, 1) := chk_nth ocL_law_37 (k := 15) rfl
theorem dL_law_1276 : decode cL_law 1276 = .ok (.iadd, 1) := chk_nth ocL_law_37 (k := 16) rfl
theorem dL_law_1277 : decode cL_law 1277 = .ok (.iaload, 1) := chk_nth ocL_law_37 (k := 17) rfl
theorem dL_law_1278 : decode cL_law 1278 = .ok (.aload_n 0, 1) := chk_nth ocL_law_37 (k := 18) rfl
theorem dL_law_1279 : decode cL_law 1279 = .ok (.iload_n 3, 1) := chk_nth ocL_law_37 (k := 19) rfl
theorem dL_law_1280 : decode cL_law 1280 = .ok (.iconst 3, 1) := chk_nth ocL_law_37 (k := 20) rfl
theorem dL_law_1281 : decode cL_law 1281 = .ok (.iadd, 1) := chk_nth ocL_law_37 (k := 21) rfl
theorem dL_law_1282 : decode cL_law 1282 = .ok (.iaload, 1) := chk_nth ocL_law_37 (k := 22) rfl
theorem dL_law_1283 : decode cL_law 1283 = .ok (.invokevirtual 139, 3) := chk_nth ocL_law_37 (k := 23) rfl
def tcL_law_38 : List (Instr × Nat) := [(.aload_n 2, 1), (.aload_n 0, 1), (.iload_n 3, 1), (.iconst 1, 1), (.iadd, 1), (.iaload, 1), (.aload_n 0, 1), (.iload_n 3, 1), (.iconst 2, 1), (.iadd, 1), (.iaload, 1), (.aload_n 0, 1), (.iload_n 3, 1), (.iconst 3, 1), (.iadd, 1), (.iaload, 1), (.invokevirtual 142, 3), (.if_icmp .eq 439, 3), (.iconst 0, 1), (.ireturn, 1), (.aload_n 1, 1), (.aload_n 0, 1), (.iload_n 3, 1), (.iconst 1, 1)]
theorem ocL_law_38 : chk (cL_law.data.toList.drop 1286) tcL_law_38 = true := by decide +kernel
theorem dL_law_1286 : decode cL_law 1286 = .ok (.aload_n 2, 1) := chk_nth ocL_law_38 (k := 0) rfl
theorem dL_law_1287 : decode cL_law 1287 = .ok (.aload_n 0, 1) := chk_nth ocL_law_38 (k := 1) rfl
theorem dL_law_1288 : decode cL_law 1288 = .ok (.iload_n 3, 1) := chk_nth ocL_law_38 (k := 2) rfl
theorem dL_law_1289 : decode cL_law 1289 = .ok (.iconst 1, 1) := chk_nth ocL_law_38 (k := 3) rfl
theorem dL_law_1290 : decode cL_law 1290 = .ok (.iadd, 1) := chk_nth ocL_law_38 (k := 4) rfl
theorem dL_law_1291 : decode cL_law 1291 = .ok (.iaload, 1) := chk_nth ocL_law_38 (k := 5) rfl
theorem dL_law_1292 : decode cL_law 1292 = .ok (.aload_n 0, 1) := chk_nth ocL_law_38 (k := 6) rfl
theorem dL_law_1293 : decode cL_law 1293 = .ok (.iload_n 3, 1) := chk_nth ocL_law_38 (k := 7) rfl
theorem dL_law_1294 : decode cL_law 1294 = .ok (.iconst 2, 1) := chk_nth ocL_law_38 (k := 8) rfl
theorem dL_law_1295 : decode cL_law 1295 = .ok (.iadd, 1) := chk_nth ocL_law_38 (k := 9) rfl
theorem dL_law_1296 : decode cL_law 1296 = .ok (.iaload, 1) := chk_nth ocL_law_38 (k := 10) rfl
theorem dL_law_1297 : decode cL_law 1297 = .ok (.aload_n 0, 1) := chk_nth ocL_law_38 (k := 11) rfl
theorem dL_law_1298 : decode cL_law 1298 = .ok (.iload_n 3, 1) := chk_nth ocL_law_38 (k := 12) rfl
theorem dL_law_1299 : decode cL_law 1299 = .ok (.iconst 3, 1) := chk_nth ocL_law_38 (k := 13) rfl
theorem dL_law_1300 : decode cL_law 1300 = .ok (.iadd, 1) := chk_nth ocL_law_38 (k := 14) rfl
theorem dL_law_1301 : decode cL_law 1301 = .ok (.iaload, 1) := chk_nth ocL_law_38 (k := 15) rfl
theorem dL_law_1302 : decode cL_law 1302 = .ok (.invokevirtual 142, 3) := chk_nth ocL_law_38 (k := 16) rfl
theorem dL_law_1305 : decode cL_law 1305 = .ok (.if_icmp .eq 439, 3) := chk_nth ocL_law_38 (k := 17) rfl
theorem dL_law_1308 : decode cL_law 1308 = .ok (.iconst 0, 1) := chk_nth ocL_law_38 (k := 18) rfl
theorem dL_law_1309 : decode cL_law 1309 = .ok (.ireturn, 1) := chk_nth ocL_law_38 (k := 19) rfl
theorem dL_law_1310 : decode cL_law 1310 = .ok (.aload_n 1, 1) := chk_nth ocL_law_38 (k := 20) rfl
theorem dL_law_1311 : decode cL_law 1311 = .ok (.aload_n 0, 1) := chk_nth ocL_law_38 (k := 21) rfl
theorem dL_law_1312 : decode cL_law 1312 = .ok (.iload_n 3, 1) := chk_nth ocL_law_38 (k := 22) rfl
theorem dL_law_1313 : decode cL_law 1313 = .ok (.iconst 1, 1) := chk_nth ocL_law_38 (k := 23) rfl
def tcL_law_39 : List (Instr × Nat) := [(.iadd, 1), (.iaload, 1), (.aload_n 0, 1), (.iload_n 3, 1), (.iconst 2, 1), (.iadd, 1), (.iaload, 1), (.invokevirtual 143, 3), (.aload_n 2, 1), (.aload_n 0, 1), (.iload_n 3, 1), (.iconst 1, 1), (.iadd, 1), (.iaload, 1), (.aload_n 0, 1), (.iload_n 3, 1), (.iconst 2, 1), (.iadd, 1), (.iaload, 1), (.invokevirtual 146, 3), (.if_icmp .eq 406, 3), (.iconst 0, 1), (.ireturn, 1), (.aload_n 1, 1)]
theorem ocL_law_39 : chk (cL_law.data.toList.drop 1314) tcL_law_39 = true := by decide +kernel
theorem dL_law_1314 : decode cL_law 1314 = .ok (.iadd, 1) := chk_nth ocL_law_39 (k := 0) rfl
theorem dL_law_1315 : decode cL_law 1315 = .ok (.iaload, 1) := chk_nth ocL_law_39 (k := 1) rfl
theorem dL_law_1316 : decode cL_law 1316 = .ok (.aload_n 0, 1) := chk_nth ocL_law_39 (k := 2) rfl
theorem dL_law_1317 : decode cL_law 1317 = .ok (.iload_n 3, 1) := chk_nth ocL_law_39 (k := 3) rfl
theorem dL_law_1318 : decode cL_law 1318 = .ok (.iconst 2, 1) := chk_nth ocL_law_39 (k := 4) rfl
theorem dL_law_1319 : decode cL_law 1319 = .ok (.iadd, 1) := chk_nth ocL_law_39 (k := 5) rfl
theorem dL_law_1320 : decode cL_law 1320 = .ok (.iaload, 1) := chk_nth ocL_law_39 (k := 6) rfl
theorem dL_law_1321 : decode cL_law 1321 = .ok (.invokevirtual 143, 3) := chk_nth ocL_law_39 (k := 7) rfl
theorem dL_law_1324 : decode cL_law 1324 = .ok (.aload_n 2, 1) := chk_nth ocL_law_39 (k := 8) rfl
theorem dL_law_1325 : decode cL_law 1325 = .ok (.aload_n 0, 1) := chk_nth ocL_law_39 (k := 9) rfl
theorem dL_law_1326 : decode cL_law 1326 = .ok (.iload_n 3, 1) := chk_nth ocL_law_39 (k := 10) rfl
theorem dL_law_1327 : decode cL_law 1327 = .ok (.iconst 1, 1) := chk_nth ocL_law_39 (k := 11) rfl
theorem dL_law_1328 : decode cL_law 1328 = .ok (.iadd, 1) := chk_nth ocL_law_39 (k := 12) rfl
theorem dL_law_1329 : decode cL_law 1329 = .ok (.iaload, 1) := chk_nth ocL_law_39 (k := 13) rfl
theorem dL_law_1330 : decode cL_law 1330 = .ok (.aload_n 0, 1) := chk_nth ocL_law_39 (k := 14) rfl
theorem dL_law_1331 : decode cL_law 1331 = .ok (.iload_n 3, 1) := chk_nth ocL_law_39 (k := 15) rfl
theorem dL_law_1332 : decode cL_law 1332 = .ok (.iconst 2, 1) := chk_nth ocL_law_39 (k := 16) rfl
theorem dL_law_1333 : decode cL_law 1333 = .ok (.iadd, 1) := chk_nth ocL_law_39 (k := 17) rfl
theorem dL_law_1334 : decode cL_law 1334 = .ok (.iaload, 1) := chk_nth ocL_law_39 (k := 18) rfl
theorem dL_law_1335 : decode cL_law 1335 = .ok (.invokevirtual 146, 3) := chk_nth ocL_law_39 (k := 19) rfl
theorem dL_law_1338 : decode cL_law 1338 = .ok (.if_icmp .eq 406, 3) := chk_nth ocL_law_39 (k := 20) rfl
theorem dL_law_1341 : decode cL_law 1341 = .ok (.iconst 0, 1) := chk_nth ocL_law_39 (k := 21) rfl
theorem dL_law_1342 : decode cL_law 1342 = .ok (.ireturn, 1) := chk_nth ocL_law_39 (k := 22) rfl
theorem dL_law_1343 : decode cL_law 1343 = .ok (.aload_n 1, 1) := chk_nth ocL_law_39 (k := 23) rfl
def tcL_law_40 : List (Instr × Nat) := [(.aload_n 0, 1), (.iload_n 3, 1), (.iconst 1, 1), (.iadd, 1), (.iaload, 1), (.aload_n 0, 1), (.iload_n 3, 1), (.iconst 2, 1), (.iadd, 1), (.iaload, 1), (.invokevirtual 147, 3), (.aload_n 2, 1), (.aload_n 0, 1), (.iload_n 3, 1), (.iconst 1, 1), (.iadd, 1), (.iaload, 1), (.aload_n 0, 1), (.iload_n 3, 1), (.iconst 2, 1), (.iadd, 1), (.iaload, 1), (.invokevirtual 150, 3), (.if_icmp .eq 373, 3)]
theorem ocL_law_40 : chk (cL_law.data.toList.drop 1344) tcL_law_40 = true := by decide +kernel
theorem dL_law_1344 : decode cL_law 1344 = .ok (.aload_n 0, 1) := chk_nth ocL_law_40 (k := 0) rfl
theorem dL_law_1345 : decode cL_law 1345 = .ok (.iload_n 3, 1) := chk_nth ocL_law_40 (k := 1) rfl
theorem dL_law_1346 : decode cL_law 1346 = .ok (.iconst 1, 1) := chk_nth ocL_law_40 (k := 2) rfl
theorem dL_law_1347 : decode cL_law 1347 = .ok (.iadd, 1) := chk_nth ocL_law_40 (k := 3) rfl
theorem dL_law_1348 : decode cL_law 1348 = .ok (.iaload, 1) := chk_nth ocL_law_40 (k := 4) rfl
theorem dL_law_1349 : decode cL_law 1349 = .ok (.aload_n 0, 1) := chk_nth ocL_law_40 (k := 5) rfl
theorem dL_law_1350 : decode cL_law 1350 = .ok (.iload_n 3, 1) := chk_nth ocL_law_40 (k := 6) rfl
theorem dL_law_1351 : decode cL_law 1351 = .ok (.iconst 2, 1) := chk_nth ocL_law_40 (k := 7) rfl
theorem dL_law_1352 : decode cL_law 1352 = .ok (.iadd, 1) := chk_nth ocL_law_40 (k := 8) rfl
theorem dL_law_1353 : decode cL_law 1353 = .ok (.iaload, 1) := chk_nth ocL_law_40 (k := 9) rfl
theorem dL_law_1354 : decode cL_law 1354 = .ok (.invokevirtual 147, 3) := chk_nth ocL_law_40 (k := 10) rfl
theorem dL_law_1357 : decode cL_law 1357 = .ok (.aload_n 2, 1) := chk_nth ocL_law_40 (k := 11) rfl
theorem dL_law_1358 : decode cL_law 1358 = .ok (.aload_n 0, 1) := chk_nth ocL_law_40 (k := 12) rfl
theorem dL_law_1359 : decode cL_law 1359 = .ok (.iload_n 3, 1) := chk_nth ocL_law_40 (k := 13) rfl
theorem dL_law_1360 : decode cL_law 1360 = .ok (.iconst 1, 1) := chk_nth ocL_law_40 (k := 14) rfl
theorem dL_law_1361 : decode cL_law 1361 = .ok (.iadd, 1) := chk_nth ocL_law_40 (k := 15) rfl
theorem dL_law_1362 : decode cL_law 1362 = .ok (.iaload, 1) := chk_nth ocL_law_40 (k := 16) rfl
theorem dL_law_1363 : decode cL_law 1363 = .ok (.aload_n 0, 1) := chk_nth ocL_law_40 (k := 17) rfl
theorem dL_law_1364 : decode cL_law 1364 = .ok (.iload_n 3, 1) := chk_nth ocL_law_40 (k := 18) rfl
theorem dL_law_1365 : decode cL_law 1365 = .ok (.iconst 2, 1) := chk_nth ocL_law_40 (k := 19) rfl
theorem dL_law_1366 : decode cL_law 1366 = .ok (.iadd, 1) := chk_nth ocL_law_40 (k := 20) rfl
theorem dL_law_1367 : decode cL_law 1367 = .ok (.iaload, 1) := chk_nth ocL_law_40 (k := 21) rfl
theorem dL_law_1368 : decode cL_law 1368 = .ok (.invokevirtual 150, 3) := chk_nth ocL_law_40 (k := 22) rfl
theorem dL_law_1371 : decode cL_law 1371 = .ok (.if_icmp .eq 373, 3) := chk_nth ocL_law_40 (k := 23) rfl
def tcL_law_41 : List (Instr × Nat) := [(.iconst 0, 1), (.ireturn, 1), (.aload_n 1, 1), (.aload_n 0, 1), (.iload_n 3, 1), (.iconst 1, 1), (.iadd, 1), (.iaload, 1), (.aload_n 0, 1), (.iload_n 3, 1), (.iconst 2, 1), (.iadd, 1), (.iaload, 1), (.aload_n 0, 1), (.iload_n 3, 1), (.iconst 3, 1), (.iadd, 1), (.iaload, 1), (.aload_n 0, 1), (.iload_n 3, 1), (.iconst 4, 1), (.iadd, 1), (.iaload, 1), (.invokevirtual 151, 3)]
theorem ocL_law_41 : chk (cL_law.data.toList.drop 1374) tcL_law_41 = true := by decide +kernel
theorem dL_law_1374 : decode cL_law 1374 = .ok (.iconst 0, 1) := chk_nth ocL_law_41 (k := 0) rfl
theorem dL_law_1375 : decode cL_law 1375 = .ok (.ireturn, 1) := chk_nth ocL_law_41 (k := 1) rfl
theorem dL_law_1376 : decode cL_law 1376 = .ok (.aload_n 1, 1) := chk_nth ocL_law_41 (k := 2) rfl
theorem dL_law_1377 : decode cL_law 1377 = .ok (.aload_n 0, 1) := chk_nth ocL_law_41 (k := 3) rfl
theorem dL_law_1378 : decode cL_law 1378 = .ok (.iload_n 3, 1) := chk_nth ocL_law_41 (k := 4) rfl
theorem dL_law_1379 : decode cL_law 1379 = .ok (.iconst 1, 1) := chk_nth ocL_law_41 (k := 5) rfl
theorem dL_law_1380 : decode cL_law 1380 = .ok (.iadd, 1) := chk_nth ocL_law_41 (k := 6) rfl
theorem dL_law_1381 : decode cL_law 1381 = .ok (.iaload, 1) := chk_nth ocL_law_41 (k := 7) rfl
theorem dL_law_1382 : decode cL_law 1382 = .ok (.aload_n 0, 1) := chk_nth ocL_law_41 (k := 8) rfl
theorem dL_law_1383 : decode cL_law 1383 = .ok (.iload_n 3, 1) := chk_nth ocL_law_41 (k := 9) rfl
theorem dL_law_1384 : decode cL_law 1384 = .ok (.iconst 2, 1) := chk_nth ocL_law_41 (k := 10) rfl
theorem dL_law_1385 : decode cL_law 1385 = .ok (.iadd, 1) := chk_nth ocL_law_41 (k := 11) rfl
theorem dL_law_1386 : decode cL_law 1386 = .ok (.iaload, 1) := chk_nth ocL_law_41 (k := 12) rfl
theorem dL_law_1387 : decode cL_law 1387 = .ok (.aload_n 0, 1) := chk_nth ocL_law_41 (k := 13) rfl
theorem dL_law_1388 : decode cL_law 1388 = .ok (.iload_n 3, 1) := chk_nth ocL_law_41 (k := 14) rfl
theorem dL_law_1389 : decode cL_law 1389 = .ok (.iconst 3, 1) := chk_nth ocL_law_41 (k := 15) rfl
theorem dL_law_1390 : decode cL_law 1390 = .ok (.iadd, 1) := chk_nth ocL_law_41 (k := 16) rfl
theorem dL_law_1391 : decode cL_law 1391 = .ok (.iaload, 1) := chk_nth ocL_law_41 (k := 17) rfl
theorem dL_law_1392 : decode cL_law 1392 = .ok (.aload_n 0, 1) := chk_nth ocL_law_41 (k := 18) rfl
theorem dL_law_1393 : decode cL_law 1393 = .ok (.iload_n 3, 1) := chk_nth ocL_law_41 (k := 19) rfl
theorem dL_law_1394 : decode cL_law 1394 = .ok (.iconst 4, 1) := chk_nth ocL_law_41 (k := 20) rfl
theorem dL_law_1395 : decode cL_law 1395 = .ok (.iadd, 1) := chk_nth ocL_law_41 (k := 21) rfl
theorem dL_law_1396 : decode cL_law 1396 = .ok (.iaload, 1) := chk_nth ocL_law_41 (k := 22) rfl
theorem dL_law_1397 : decode cL_law 1397 = .ok (.invokevirtual 151, 3) := chk_nth ocL_law_41 (k := 23) rfl
def tcL_law_42 : List (Instr × Nat) := [(.aload_n 2, 1), (.aload_n 0, 1), (.iload_n 3, 1), (.iconst 1, 1), (.iadd, 1), (.iaload, 1), (.aload_n 0, 1), (.iload_n 3, 1), (.iconst 2, 1), (.iadd, 1), (.iaload, 1), (.aload_n 0, 1), (.iload_n 3, 1), (.iconst 3, 1), (.iadd, 1), (.iaload, 1), (.aload_n 0, 1), (.iload_n 3, 1), (.iconst 4, 1), (.iadd, 1), (.iaload, 1), (.invokevirtual 154, 3), (.if_icmp .eq 320, 3), (.iconst 0, 1)]
theorem ocL_law_42 : chk (cL_law.data.toList.drop 1400) tcL_law_42 = true := by decide +kernel
theorem dL_law_1400 : decode cL_law 1400 = .ok (.aload_n 2, 1) := chk_nth ocL_law_42 (k := 0) rfl
theorem dL_law_1401 : decode cL_law 1401 = .ok (.aload_n 0, 1) := chk_nth ocL_law_42 (k := 1) rfl
theorem dL_law_1402 : decode cL_law 1402 = .ok (.iload_n 3, 1) := chk_nth ocL_law_42 (k := 2) rfl
theorem dL_law_1403 : decode cL_law 1403 = .ok (.iconst 1, 1) := chk_nth ocL_law_42 (k := 3) rfl
theorem dL_law_1404 : decode cL_law 1404 = .ok (.iadd, 1) := chk_nth ocL_law_42 (k := 4) rfl
theorem dL_law_1405 : decode cL_law 1405 = .ok (.iaload, 1) := chk_nth ocL_law_42 (k := 5) rfl
theorem dL_law_1406 : decode cL_law 1406 = .ok (.aload_n 0, 1) := chk_nth ocL_law_42 (k := 6) rfl
theorem dL_law_1407 : decode cL_law 1407 = .ok (.iload_n 3, 1) := chk_nth ocL_law_42 (k := 7) rfl
theorem dL_law_1408 : decode cL_law 1408 = .ok (.iconst 2, 1) := chk_nth ocL_law_42 (k := 8) rfl
theorem dL_law_1409 : decode cL_law 1409 = .ok (.iadd, 1) := chk_nth ocL_law_42 (k := 9) rfl
theorem dL_law_1410 : decode cL_law 1410 = .ok (.iaload, 1) := chk_nth ocL_law_42 (k := 10) rfl
theorem dL_law_1411 : decode cL_law 1411 = .ok (.aload_n 0, 1) := chk_nth ocL_law_42 (k := 11) rfl
theorem dL_law_1412 : decode cL_law 1412 = .ok (.iload_n 3, 1) := chk_nth ocL_law_42 (k := 12) rfl
theorem dL_law_1413 : decode cL_law 1413 = .ok (.iconst 3, 1) := chk_nth ocL_law_42 (k := 13) rfl
theorem dL_law_1414 : decode cL_law 1414 = .ok (.iadd, 1) := chk_nth ocL_law_42 (k := 14) rfl
theorem dL_law_1415 : decode cL_law 1415 = .ok (.iaload, 1) := chk_nth ocL_law_42 (k := 15) rfl
theorem dL_law_1416 : decode cL_law 1416 = .ok (.aload_n 0, 1) := chk_nth ocL_law_42 (k := 16) rfl
theorem dL_law_1417 : decode cL_law 1417 = .ok (.iload_n 3, 1) := chk_nth ocL_law_42 (k := 17) rfl
theorem dL_law_1418 : decode cL_law 1418 = .ok (.iconst 4, 1) := chk_nth ocL_law_42 (k := 18) rfl
theorem dL_law_1419 : decode cL_law 1419 = .ok (.iadd, 1) := chk_nth ocL_law_42 (k := 19) rfl
theorem dL_law_1420 : decode cL_law 1420 = .ok (.iaload, 1) := chk_nth ocL_law_42 (k := 20) rfl
theorem dL_law_1421 : decode cL_law 1421 = .ok (.invokevirtual 154, 3) := chk_nth ocL_law_42 (k := 21) rfl
theorem dL_law_1424 : decode cL_law 1424 = .ok (.if_icmp .eq 320, 3) := chk_nth ocL_law_42 (k := 22) rfl
theorem dL_law_1427 : decode cL_law 1427 = .ok (.iconst 0, 1) := chk_nth ocL_law_42 (k := 23) rfl
def tcL_law_43 : List (Instr × Nat) := [(.ireturn, 1), (.aload_n 1, 1), (.aload_n 0, 1), (.iload_n 3, 1), (.iconst 1, 1), (.iadd, 1), (.iaload, 1), (.aload_n 0, 1), (.iload_n 3, 1), (.iconst 2, 1), (.iadd, 1), (.iaload, 1), (.aload_n 0, 1), (.iload_n 3, 1), (.iconst 3, 1), (.iadd, 1), (.iaload, 1), (.invokevirtual 155, 3), (.aload_n 2, 1), (.aload_n 0, 1), (.iload_n 3, 1), (.iconst 1, 1), (.iadd, 1), (.iaload, 1)]
theorem ocL_law_43 : chk (cL_law.data.toList.drop 1428) tcL_law_43 = true := by decide +kernel
theorem dL_law_1428 : decode cL_law 1428 = .ok (.ireturn, 1) := chk_nth ocL_law_43 (k := 0) rfl
theorem dL_law_1429 : decode cL_law 1429 = .ok (.aload_n 1, 1) := chk_nth ocL_law_43 (k := 1) rfl
theorem dL_law_1430 : decode cL_law 1430 = .ok (.aload_n 0, 1) := chk_nth ocL_law_43 (k := 2) rfl
theorem dL_law_1431 : decode cL_law 1431 = .ok (.iload_n 3, 1) := chk_nth ocL_law_43 (k := 3) rfl
theorem dL_law_1432 : decode cL_law 1432 = .ok (.iconst 1, 1) := chk_nth ocL_law_43 (k := 4) rfl
theorem dL_law_1433 : decode cL_law 1433 = .ok (.iadd, 1) := chk_nth ocL_law_43 (k := 5) rfl
theorem dL_law_1434 : decode cL_law 1434 = .ok (.iaload, 1) := chk_nth ocL_law_43 (k := 6) rfl
theorem dL_law_1435 : decode cL_law 1435 = .ok (.aload_n 0, 1) := chk_nth ocL_law_43 (k := 7) rfl
theorem dL_law_1436 : decode cL_law 1436 = .ok (.iload_n 3, 1) := chk_nth ocL_law_43 (k := 8) rfl
theorem dL_law_1437 : decode cL_law 1437 = .ok (.iconst 2, 1) := chk_nth ocL_law_43 (k := 9) rfl
theorem dL_law_1438 : decode cL_law 1438 = .ok (.iadd, 1) := chk_nth ocL_law_43 (k := 10) rfl
theorem dL_law_1439 : decode cL_law 1439 = .ok (.iaload, 1) := chk_nth ocL_law_43 (k := 11) rfl
theorem dL_law_1440 : decode cL_law 1440 = .ok (.aload_n 0, 1) := chk_nth ocL_law_43 (k := 12) rfl
theorem dL_law_1441 : decode cL_law 1441 = .ok (.iload_n 3, 1) := chk_nth ocL_law_43 (k := 13) rfl
theorem dL_law_1442 : decode cL_law 1442 = .ok (.iconst 3, 1) := chk_nth ocL_law_43 (k := 14) rfl
theorem dL_law_1443 : decode cL_law 1443 = .ok (.iadd, 1) := chk_nth ocL_law_43 (k := 15) rfl
theorem dL_law_1444 : decode cL_law 1444 = .ok (.iaload, 1) := chk_nth ocL_law_43 (k := 16) rfl
theorem dL_law_1445 : decode cL_law 1445 = .ok (.invokevirtual 155, 3) := chk_nth ocL_law_43 (k := 17) rfl
theorem dL_law_1448 : decode cL_law 1448 = .ok (.aload_n 2, 1) := chk_nth ocL_law_43 (k := 18) rfl
theorem dL_law_1449 : decode cL_law 1449 = .ok (.aload_n 0, 1) := chk_nth ocL_law_43 (k := 19) rfl
theorem dL_law_1450 : decode cL_law 1450 = .ok (.iload_n 3, 1) := chk_nth ocL_law_43 (k := 20) rfl
theorem dL_law_1451 : decode cL_law 1451 = .ok (.iconst 1, 1) := chk_nth ocL_law_43 (k := 21) rfl
theorem dL_law_1452 : decode cL_law 1452 = .ok (.iadd, 1) := chk_nth ocL_law_43 (k := 22) rfl
theorem dL_law_1453 : decode cL_law 1453 = .ok (.iaload, 1) := chk_nth ocL_law_43 (k := 23) rfl
def tcL_law_44 : List (Instr × Nat) := [(.aload_n 0, 1), (.iload_n 3, 1), (.iconst 2, 1), (.iadd, 1), (.iaload, 1), (.aload_n 0, 1), (.iload_n 3, 1), (.iconst 3, 1), (.iadd, 1), (.iaload, 1), (.invokevirtual 158, 3), (.if_icmp .eq 277, 3), (.iconst 0, 1), (.ireturn, 1), (.aload_n 1, 1), (.aload_n 0, 1), (.iload_n 3, 1), (.iconst 1, 1), (.iadd, 1), (.iaload, 1), (.aload_n 0, 1), (.iload_n 3, 1), (.iconst 2, 1), (.iadd, 1)]
theorem ocL_law_44 : chk (cL_law.data.toList.drop 1454) tcL_law_44 = true := by decide +kernel
theorem dL_law_1454 : decode cL_law 1454 = .ok (.aload_n 0, 1) := chk_nth ocL_law_44 (k := 0) rfl
theorem dL_law_1455 : decode cL_law 1455 = .ok (.iload_n 3, 1) := chk_nth ocL_law_44 (k := 1) rfl
theorem dL_law_1456 : decode cL_law 1456 = .ok (.iconst 2, 1) := chk_nth ocL_law_44 (k := 2) rfl
theorem dL_law_1457 : decode cL_law 1457 = .ok (.iadd, 1) := chk_nth ocL_law_44 (k := 3) rfl
theorem dL_law_1458 : decode cL_law 1458 = .ok (.iaload, 1) := chk_nth ocL_law_44 (k := 4) rfl
theorem dL_law_1459 : decode cL_law 1459 = .ok (.aload_n 0, 1) := chk_nth ocL_law_44 (k := 5) rfl
theorem dL_law_1460 : decode cL_law 1460 = .ok (.iload_n 3, 1) := chk_nth ocL_law_44 (k := 6) rfl
theorem dL_law_1461 : decode cL_law 1461 = .ok (.iconst 3, 1) := chk_nth ocL_law_44 (k := 7) rfl
theorem dL_law_1462 : decode cL_law 1462 = .ok (.iadd, 1) := chk_nth ocL_law_44 (k := 8) rfl
theorem dL_law_1463 : decode cL_law 1463 = .ok (.iaload, 1) := chk_nth ocL_law_44 (k := 9) rfl
theorem dL_law_1464 : decode cL_law 1464 = .ok (.invokevirtual 158, 3) := chk_nth ocL_law_44 (k := 10) rfl
theorem dL_law_1467 : decode cL_law 1467 = .ok (.if_icmp .eq 277, 3) := chk_nth ocL_law_44 (k := 11) rfl
theorem dL_law_1470 : decode cL_law 1470 = .ok (.iconst 0, 1) := chk_nth ocL_law_44 (k := 12) rfl
theorem dL_law_1471 : decode cL_law 1471 = .ok (.ireturn, 1) := chk_nth ocL_law_44 (k := 13) rfl
theorem dL_law_1472 : decode cL_law 1472 = .ok (.aload_n 1, 1) := chk_nth ocL_law_44 (k := 14) rfl
theorem dL_law_1473 : decode cL_law 1473 = .ok (.aload_n 0, 1) := chk_nth ocL_law_44 (k := 15) rfl
theorem dL_law_1474 : decode cL_law 1474 = .ok (.iload_n 3, 1) := chk_nth ocL_law_44 (k := 16) rfl
theorem dL_law_1475 : decode cL_law 1475 = .ok (.iconst 1, 1) := chk_nth ocL_law_44 (k := 17) rfl
theorem dL_law_1476 : decode cL_law 1476 = .ok (.iadd, 1) := chk_nth ocL_law_44 (k := 18) rfl
theorem dL_law_1477 : decode cL_law 1477 = .ok (.iaload, 1) := chk_nth ocL_law_44 (k := 19) rfl
theorem dL_law_1478 : decode cL_law 1478 = .ok (.aload_n 0, 1) := chk_nth ocL_law_44 (k := 20) rfl
theorem dL_law_1479 : decode cL_law 1479 = .ok (.iload_n 3, 1) := chk_nth ocL_law_44 (k := 21) rfl
theorem dL_law_1480 : decode cL_law 1480 = .ok (.iconst 2, 1) := chk_nth ocL_law_44 (k := 22) rfl
theorem dL_law_1481 : decode cL_law 1481 = .ok (.iadd, 1) := chk_nth ocL_law_44 (k := 23) rfl
def tcL_law_45 : List (Instr × Nat) := [(.iaload, 1), (.invokevirtual 159, 3), (.aload_n 2, 1), (.aload_n 0, 1), (.iload_n 3, 1), (.iconst 1, 1), (.iadd, 1), (.iaload, 1), (.aload_n 0, 1), (.iload_n 3, 1), (.iconst 2, 1), (.iadd, 1), (.iaload, 1), (.invokevirtual 162, 3), (.if_icmp .eq 244, 3), (.iconst 0, 1), (.ireturn, 1), (.aload_n 1, 1), (.aload_n 0, 1), (.iload_n 3, 1), (.iconst 1, 1), (.iadd, 1), (.iaload, 1), (.aload_n 0, 1)]
theorem ocL_law_45 : chk (cL_law.data.toList.drop 1482) tcL_law_45 = true := by decide +kernel
theorem dL_law_1482 : decode cL_law 1482 = .ok (.iaload, 1) := chk_nth ocL_law_45 (k := 0) rfl
theorem dL_law_1483 : decode cL_law 1483 = .ok (.invokevirtual 159, 3) := chk_nth ocL_law_45 (k := 1) rfl
theorem dL_law_1486 : decode cL_law 1486 = .ok (.aload_n 2, 1) := chk_nth ocL_law_45 (k := 2) rfl
theorem dL_law_1487 : decode cL_law 1487 = .ok (.aload_n 0, 1) := chk_nth ocL_law_45 (k := 3) rfl
theorem dL_law_1488 : decode cL_law 1488 = .ok (.iload_n 3, 1) := chk_nth ocL_law_45 (k := 4) rfl
theorem dL_law_1489 : decode cL_law 1489 = .ok (.iconst 1, 1) := chk_nth ocL_law_45 (k := 5) rfl
theorem dL_law_1490 : decode cL_law 1490 = .ok (.iadd, 1) := chk_nth ocL_law_45 (k := 6) rfl
theorem dL_law_1491 : decode cL_law 1491 = .ok (.iaload, 1) := chk_nth ocL_law_45 (k := 7) rfl
theorem dL_law_1492 : decode cL_law 1492 = .ok (.aload_n 0, 1) := chk_nth ocL_law_45 (k := 8) rfl
theorem dL_law_1493 : decode cL_law 1493 = .ok (.iload_n 3, 1) := chk_nth ocL_law_45 (k := 9) rfl
theorem dL_law_1494 : decode cL_law 1494 = .ok (.iconst 2, 1) := chk_nth ocL_law_45 (k := 10) rfl
theorem dL_law_1495 : decode cL_law 1495 = .ok (.iadd, 1) := chk_nth ocL_law_45 (k := 11) rfl
theorem dL_law_1496 : decode cL_law 1496 = .ok (.iaload, 1) := chk_nth ocL_law_45 (k := 12) rfl
theorem dL_law_1497 : decode cL_law 1497 = .ok (.invokevirtual 162, 3) := chk_nth ocL_law_45 (k := 13) rfl
theorem dL_law_1500 : decode cL_law 1500 = .ok (.if_icmp .eq 244, 3) := chk_nth ocL_law_45 (k := 14) rfl
theorem dL_law_1503 : decode cL_law 1503 = .ok (.iconst 0, 1) := chk_nth ocL_law_45 (k := 15) rfl
theorem dL_law_1504 : decode cL_law 1504 = .ok (.ireturn, 1) := chk_nth ocL_law_45 (k := 16) rfl
theorem dL_law_1505 : decode cL_law 1505 = .ok (.aload_n 1, 1) := chk_nth ocL_law_45 (k := 17) rfl
theorem dL_law_1506 : decode cL_law 1506 = .ok (.aload_n 0, 1) := chk_nth ocL_law_45 (k := 18) rfl
theorem dL_law_1507 : decode cL_law 1507 = .ok (.iload_n 3, 1) := chk_nth ocL_law_45 (k := 19) rfl
theorem dL_law_1508 : decode cL_law 1508 = .ok (.iconst 1, 1) := chk_nth ocL_law_45 (k := 20) rfl
theorem dL_law_1509 : decode cL_law 1509 = .ok (.iadd, 1) := chk_nth ocL_law_45 (k := 21) rfl
theorem dL_law_1510 : decode cL_law 1510 = .ok (.iaload, 1) := chk_nth ocL_law_45 (k := 22) rfl
theorem dL_law_1511 : decode cL_law 1511 = .ok (.aload_n 0, 1) := chk_nth ocL_law_45 (k := 23) rfl
def tcL_law_46 : List (Instr × Nat) := [(.iload_n 3, 1), (.iconst 2, 1), (.iadd, 1), (.iaload, 1), (.aload_n 0, 1), (.iload_n 3, 1), (.iconst 3, 1), (.iadd, 1), (.iaload, 1), (.invokevirtual 163, 3), (.aload_n 2, 1), (.aload_n 0, 1), (.iload_n 3, 1), (.iconst 1, 1), (.iadd, 1), (.iaload, 1), (.aload_n 0, 1), (.iload_n 3, 1), (.iconst 2, 1), (.iadd, 1), (.iaload, 1), (.aload_n 0, 1), (.iload_n 3, 1), (.iconst 3, 1)]
theorem ocL_law_46 : chk (cL_law.data.toList.drop 1512) tcL_law_46 = true := by decide +kernel
theorem dL_law_1512 : decode cL_law 1512 = .ok (.iload_n 3, 1) := chk_nth ocL_law_46 (k := 0) rfl
theorem dL_law_1513 : decode cL_law 1513 = .ok (.iconst 2, 1) := chk_nth ocL_law_46 (k := 1) rfl
theorem dL_law_1514 : decode cL_law 1514 = .ok (.iadd, 1) := chk_nth ocL_law_46 (k := 2) rfl
theorem dL_law_1515 : decode cL_law 1515 = .ok (.iaload, 1) := chk_nth ocL_law_46 (k := 3) rfl
theorem dL_law_1516 : decode cL_law 1516 = .ok (.aload_n 0, 1) := chk_nth ocL_law_46 (k := 4) rfl
theorem dL_law_1517 : decode cL_law 1517 = .ok (.iload_n 3, 1) := chk_nth ocL_law_46 (k := 5) rfl
theorem dL_law_1518 : decode cL_law 1518 = .ok (.iconst 3, 1) := chk_nth ocL_law_46 (k := 6) rfl
theorem dL_law_1519 : decode cL_law 1519 = .ok (.iadd, 1) := chk_nth ocL_law_46 (k := 7) rfl
theorem dL_law_1520 : decode cL_law 1520 = .ok (.iaload, 1) := chk_nth ocL_law_46 (k := 8) rfl
theorem dL_law_1521 : decode cL_law 1521 = .ok (.invokevirtual 163, 3) := chk_nth ocL_law_46 (k := 9) rfl
theorem dL_law_1524 : decode cL_law 1524 = .ok (.aload_n 2, 1) := chk_nth ocL_law_46 (k := 10) rfl
theorem dL_law_1525 : decode cL_law 1525 = .ok (.aload_n 0, 1) := chk_nth ocL_law_46 (k := 11) rfl
theorem dL_law_1526 : decode cL_law 1526 = .ok (.iload_n 3, 1) := chk_nth ocL_law_46 (k := 12) rfl
theorem dL_law_1527 : decode cL_law 1527 = .ok (.iconst 1, 1) := chk_nth ocL_law_46 (k := 13) rfl
theorem dL_law_1528 : decode cL_law 1528 = .ok (.iadd, 1) := chk_nth ocL_law_46 (k := 14) rfl
theorem dL_law_1529 : decode cL_law 1529 = .ok (.iaload, 1) := chk_nth ocL_law_46 (k := 15) rfl
theorem dL_law_1530 : decode cL_law 1530 = .ok (.aload_n 0, 1) := chk_nth ocL_law_46 (k := 16) rfl
theorem dL_law_1531 : decode cL_law 1531 = .ok (.iload_n 3, 1) := chk_nth ocL_law_46 (k := 17) rfl
theorem dL_law_1532 : decode cL_law 1532 = .ok (.iconst 2, 1) := chk_nth ocL_law_46 (k := 18) rfl
theorem dL_law_1533 : decode cL_law 1533 = .ok (.iadd, 1) := chk_nth ocL_law_46 (k := 19) rfl
theorem dL_law_1534 : decode cL_law 1534 = .ok (.iaload, 1) := chk_nth ocL_law_46 (k := 20) rfl
theorem dL_law_1535 : decode cL_law 1535 = .ok (.aload_n 0, 1) := chk_nth ocL_law_46 (k := 21) rfl
theorem dL_law_1536 : decode cL_law 1536 = .ok (.iload_n 3, 1) := chk_nth ocL_law_46 (k := 22) rfl
theorem dL_law_1537 : decode cL_law 1537 = .ok (.iconst 3, 1) := chk_nth ocL_law_46 (k := 23) rfl
def tcL_law_47 : List (Instr × Nat) := [(.iadd, 1), (.iaload, 1), (.invokevirtual 166, 3), (.if_icmp .eq 201, 3), (.iconst 0, 1), (.ireturn, 1), (.aload_n 1, 1), (.aload_n 0, 1), (.iload_n 3, 1), (.iconst 1, 1), (.iadd, 1), (.iaload, 1), (.aload_n 0, 1), (.iload_n 3, 1), (.iconst 2, 1), (.iadd, 1), (.iaload, 1), (.aload_n 0, 1), (.iload_n 3, 1), (.iconst 3, 1), (.iadd, 1), (.iaload, 1), (.i2l, 1), (.bipush 32, 2)]
theorem ocL_law_47 : chk (cL_law.data.toList.drop 1538) tcL_law_47 = true := by decide +kernel
theorem dL_law_1538 : decode cL_law 1538 = .ok (.iadd, 1) := chk_nth ocL_law_47 (k := 0) rfl
theorem dL_law_1539 : decode cL_law 1539 = .ok (.iaload, 1) := chk_nth ocL_law_47 (k := 1) rfl
theorem dL_law_1540 : decode cL_law 1540 = .ok (.invokevirtual 166, 3) := chk_nth ocL_law_47 (k := 2) rfl
theorem dL_law_1543 : decode cL_law 1543 = .ok (.if_icmp .eq 201, 3) := chk_nth ocL_law_47 (k := 3) rfl
theorem dL_law_1546 : decode cL_law 1546 = .ok (.iconst 0, 1) := chk_nth ocL_law_47 (k := 4) rfl
theorem dL_law_1547 : decode cL_law 1547 = .ok (.ireturn, 1) := chk_nth ocL_law_47 (k := 5) rfl
theorem dL_law_1548 : decode cL_law 1548 = .ok (.aload_n 1, 1) := chk_nth ocL_law_47 (k := 6) rfl
theorem dL_law_1549 : decode cL_law 1549 = .ok (.aload_n 0, 1) := chk_nth ocL_law_47 (k := 7) rfl
theorem dL_law_1550 : decode cL_law 1550 = .ok (.iload_n 3, 1) := chk_nth ocL_law_47 (k := 8) rfl
theorem dL_law_1551 : decode cL_law 1551 = .ok (.iconst 1, 1) := chk_nth ocL_law_47 (k := 9) rfl
theorem dL_law_1552 : decode cL_law 1552 = .ok (.iadd, 1) := chk_nth ocL_law_47 (k := 10) rfl
theorem dL_law_1553 : decode cL_law 1553 = .ok (.iaload, 1) := chk_nth ocL_law_47 (k := 11) rfl
theorem dL_law_1554 : decode cL_law 1554 = .ok (.aload_n 0, 1) := chk_nth ocL_law_47 (k := 12) rfl
theorem dL_law_1555 : decode cL_law 1555 = .ok (.iload_n 3, 1) := chk_nth ocL_law_47 (k := 13) rfl
theorem dL_law_1556 : decode cL_law 1556 = .ok (.iconst 2, 1) := chk_nth ocL_law_47 (k := 14) rfl
theorem dL_law_1557 : decode cL_law 1557 = .ok (.iadd, 1) := chk_nth ocL_law_47 (k := 15) rfl
theorem dL_law_1558 : decode cL_law 1558 = .ok (.iaload, 1) := chk_nth ocL_law_47 (k := 16) rfl
theorem dL_law_1559 : decode cL_law 1559 = .ok (.aload_n 0, 1) := chk_nth ocL_law_47 (k := 17) rfl
theorem dL_law_1560 : decode cL_law 1560 = .ok (.iload_n 3, 1) := chk_nth ocL_law_47 (k := 18) rfl
theorem dL_law_1561 : decode cL_law 1561 = .ok (.iconst 3, 1) := chk_nth ocL_law_47 (k := 19) rfl
theorem dL_law_1562 : decode cL_law 1562 = .ok (.iadd, 1) := chk_nth ocL_law_47 (k := 20) rfl
theorem dL_law_1563 : decode cL_law 1563 = .ok (.iaload, 1) := chk_nth ocL_law_47 (k := 21) rfl
theorem dL_law_1564 : decode cL_law 1564 = .ok (.i2l, 1) := chk_nth ocL_law_47 (k := 22) rfl
theorem dL_law_1565 : decode cL_law 1565 = .ok (.bipush 32, 2) := chk_nth ocL_law_47 (k := 23) rfl
def tcL_law_48 : List (Instr × Nat) := [(.lshl, 1), (.aload_n 0, 1), (.iload_n 3, 1), (.iconst 4, 1), (.iadd, 1), (.iaload, 1), (.i2l, 1), (.ldc2_w 167, 3), (.land, 1), (.lor, 1), (.invokevirtual 169, 3), (.aload_n 2, 1), (.aload_n 0, 1), (.iload_n 3, 1), (.iconst 1, 1), (.iadd, 1), (.iaload, 1), (.aload_n 0, 1), (.iload_n 3, 1), (.iconst 2, 1), (.iadd, 1), (.iaload, 1), (.aload_n 0, 1), (.iload_n 3, 1)]
theorem ocL_law_48 : chk (cL_law.data.toList.drop 1567) tcL_law_48 = true := by decide +kernel
theorem dL_law_1567 : decode cL_law 1567 = .ok (.lshl, 1) := chk_nth ocL_law_48 (k := 0) rfl
theorem dL_law_1568 : decode cL_law 1568 = .ok (.aload_n 0, 1) := chk_nth ocL_law_48 (k := 1) rfl
theorem dL_law_1569 : decode cL_law 1569 = .ok (.iload_n 3, 1) := chk_nth ocL_law_48 (k := 2) rfl
theorem dL_law_1570 : decode cL_law 1570 = .ok (.iconst 4, 1) := chk_nth ocL_law_48 (k := 3) rfl
theorem dL_law_1571 : decode cL_law 1571 = .ok (.iadd, 1) := chk_nth ocL_law_48 (k := 4) rfl
theorem dL_law_1572 : decode cL_law 1572 = .ok (.iaload, 1) := chk_nth ocL_law_48 (k := 5) rfl
theorem dL_law_1573 : decode cL_law 1573 = .ok (.i2l, 1) := chk_nth ocL_law_48 (k := 6) rfl
theorem dL_law_1574 : decode cL_law 1574 = .ok (.ldc2_w 167, 3) := chk_nth ocL_law_48 (k := 7) rfl
theorem dL_law_1577 : decode cL_law 1577 = .ok (.land, 1) := chk_nth ocL_law_48 (k := 8) rfl
theorem dL_law_1578 : decode cL_law 1578 = .ok (.lor, 1) := chk_nth ocL_law_48 (k := 9) rfl
theorem dL_law_1579 : decode cL_law 1579 = .ok (.invokevirtual 169, 3) := chk_nth ocL_law_48 (k := 10) rfl
theorem dL_law_1582 : decode cL_law 1582 = .ok (.aload_n 2, 1) := chk_nth ocL_law_48 (k := 11) rfl
theorem dL_law_1583 : decode cL_law 1583 = .ok (.aload_n 0, 1) := chk_nth ocL_law_48 (k := 12) rfl
theorem dL_law_1584 : decode cL_law 1584 = .ok (.iload_n 3, 1) := chk_nth ocL_law_48 (k := 13) rfl
theorem dL_law_1585 : decode cL_law 1585 = .ok (.iconst 1, 1) := chk_nth ocL_law_48 (k := 14) rfl
theorem dL_law_1586 : decode cL_law 1586 = .ok (.iadd, 1) := chk_nth ocL_law_48 (k := 15) rfl
theorem dL_law_1587 : decode cL_law 1587 = .ok (.iaload, 1) := chk_nth ocL_law_48 (k := 16) rfl
theorem dL_law_1588 : decode cL_law 1588 = .ok (.aload_n 0, 1) := chk_nth ocL_law_48 (k := 17) rfl
theorem dL_law_1589 : decode cL_law 1589 = .ok (.iload_n 3, 1) := chk_nth ocL_law_48 (k := 18) rfl
theorem dL_law_1590 : decode cL_law 1590 = .ok (.iconst 2, 1) := chk_nth ocL_law_48 (k := 19) rfl
theorem dL_law_1591 : decode cL_law 1591 = .ok (.iadd, 1) := chk_nth ocL_law_48 (k := 20) rfl
theorem dL_law_1592 : decode cL_law 1592 = .ok (.iaload, 1) := chk_nth ocL_law_48 (k := 21) rfl
theorem dL_law_1593 : decode cL_law 1593 = .ok (.aload_n 0, 1) := chk_nth ocL_law_48 (k := 22) rfl
theorem dL_law_1594 : decode cL_law 1594 = .ok (.iload_n 3, 1) := chk_nth ocL_law_48 (k := 23) rfl
def tcL_law_49 : List (Instr × Nat) := [(.iconst 3, 1), (.iadd, 1), (.iaload, 1), (.i2l, 1), (.bipush 32, 2), (.lshl, 1), (.aload_n 0, 1), (.iload_n 3, 1), (.iconst 4, 1), (.iadd, 1), (.iaload, 1), (.i2l, 1), (.ldc2_w 167, 3), (.land, 1), (.lor, 1), (.invokevirtual 173, 3), (.lcmp, 1), (.ifCond .eq 127, 3), (.iconst 0, 1), (.ireturn, 1), (.aload_n 1, 1), (.aload_n 0, 1), (.iload_n 3, 1), (.iconst 1, 1)]
theorem ocL_law_49 : chk (cL_law.data.toList.drop 1595) tcL_law_49 = true := by decide +kernel
theorem dL_law_1595 : decode cL_law 1595 = .ok (.iconst 3, 1) := chk_nth ocL_law_49 (k := 0) rfl
theorem dL_law_1596 : decode cL_law 1596 = .ok (.iadd, 1) := chk_nth ocL_law_49 (k := 1) rfl
theorem dL_law_1597 : decode cL_law 1597 = .ok (.iaload, 1) := chk_nth ocL_law_49 (k := 2) rfl
theorem dL_law_1598 : decode cL_law 1598 = .ok (.i2l, 1) := chk_nth ocL_law_49 (k := 3) rfl
theorem dL_law_1599 : decode cL_law 1599 = .ok (.bipush 32, 2) := chk_nth ocL_law_49 (k := 4) rfl
theorem dL_law_1601 : decode cL_law 1601 = .ok (.lshl, 1) := chk_nth ocL_law_49 (k := 5) rfl
theorem dL_law_1602 : decode cL_law 1602 = .ok (.aload_n 0, 1) := chk_nth ocL_law_49 (k := 6) rfl
theorem dL_law_1603 : decode cL_law 1603 = .ok (.iload_n 3, 1) := chk_nth ocL_law_49 (k := 7) rfl
theorem dL_law_1604 : decode cL_law 1604 = .ok (.iconst 4, 1) := chk_nth ocL_law_49 (k := 8) rfl
theorem dL_law_1605 : decode cL_law 1605 = .ok (.iadd, 1) := chk_nth ocL_law_49 (k := 9) rfl
theorem dL_law_1606 : decode cL_law 1606 = .ok (.iaload, 1) := chk_nth ocL_law_49 (k := 10) rfl
theorem dL_law_1607 : decode cL_law 1607 = .ok (.i2l, 1) := chk_nth ocL_law_49 (k := 11) rfl
theorem dL_law_1608 : decode cL_law 1608 = .ok (.ldc2_w 167, 3) := chk_nth ocL_law_49 (k := 12) rfl
theorem dL_law_1611 : decode cL_law 1611 = .ok (.land, 1) := chk_nth ocL_law_49 (k := 13) rfl
theorem dL_law_1612 : decode cL_law 1612 = .ok (.lor, 1) := chk_nth ocL_law_49 (k := 14) rfl
theorem dL_law_1613 : decode cL_law 1613 = .ok (.invokevirtual 173, 3) := chk_nth ocL_law_49 (k := 15) rfl
theorem dL_law_1616 : decode cL_law 1616 = .ok (.lcmp, 1) := chk_nth ocL_law_49 (k := 16) rfl
theorem dL_law_1617 : decode cL_law 1617 = .ok (.ifCond .eq 127, 3) := chk_nth ocL_law_49 (k := 17) rfl
theorem dL_law_1620 : decode cL_law 1620 = .ok (.iconst 0, 1) := chk_nth ocL_law_49 (k := 18) rfl
theorem dL_law_1621 : decode cL_law 1621 = .ok (.ireturn, 1) := chk_nth ocL_law_49 (k := 19) rfl
theorem dL_law_1622 : decode cL_law 1622 = .ok (.aload_n 1, 1) := chk_nth ocL_law_49 (k := 20) rfl
theorem dL_law_1623 : decode cL_law 1623 = .ok (.aload_n 0, 1) := chk_nth ocL_law_49 (k := 21) rfl
theorem dL_law_1624 : decode cL_law 1624 = .ok (.iload_n 3, 1) := chk_nth ocL_law_49 (k := 22) rfl
theorem dL_law_1625 : decode cL_law 1625 = .ok (.iconst 1, 1) := chk_nth ocL_law_49 (k := 23) rfl
def tcL_law_50 : List (Instr × Nat) := [(.iadd, 1), (.iaload, 1), (.aload_n 0, 1), (.iload_n 3, 1), (.iconst 2, 1), (.iadd, 1), (.iaload, 1), (.aload_n 0, 1), (.iload_n 3, 1), (.iconst 3, 1), (.iadd, 1), (.iaload, 1), (.aload_n 0, 1), (.iload_n 3, 1), (.iconst 4, 1), (.iadd, 1), (.iaload, 1), (.invokevirtual 174, 3), (.aload_n 2, 1), (.aload_n 0, 1), (.iload_n 3, 1), (.iconst 1, 1), (.iadd, 1), (.iaload, 1)]
theorem ocL_law_50 : chk (cL_law.data.toList.drop 1626) tcL_law_50 = true := by decide +kernel
theorem dL_law_1626 : decode cL_law 1626 = .ok (.iadd, 1) := chk_nth ocL_law_50 (k := 0) rfl
theorem dL_law_1627 : decode cL_law 1627 = .ok (.iaload, 1) := chk_nth ocL_law_50 (k := 1) rfl
theorem dL_law_1628 : decode cL_law 1628 = .ok (.aload_n 0, 1) := chk_nth ocL_law_50 (k := 2) rfl
theorem dL_law_1629 : decode cL_law 1629 = .ok (.iload_n 3, 1) := chk_nth ocL_law_50 (k := 3) rfl
theorem dL_law_1630 : decode cL_law 1630 = .ok (.iconst 2, 1) := chk_nth ocL_law_50 (k := 4) rfl
theorem dL_law_1631 : decode cL_law 1631 = .ok (.iadd, 1) := chk_nth ocL_law_50 (k := 5) rfl
theorem dL_law_1632 : decode cL_law 1632 = .ok (.iaload, 1) := chk_nth ocL_law_50 (k := 6) rfl
theorem dL_law_1633 : decode cL_law 1633 = .ok (.aload_n 0, 1) := chk_nth ocL_law_50 (k := 7) rfl
theorem dL_law_1634 : decode cL_law 1634 = .ok (.iload_n 3, 1) := chk_nth ocL_law_50 (k := 8) rfl
theorem dL_law_1635 : decode cL_law 1635 = .ok (.iconst 3, 1) := chk_nth ocL_law_50 (k := 9) rfl
theorem dL_law_1636 : decode cL_law 1636 = .ok (.iadd, 1) := chk_nth ocL_law_50 (k := 10) rfl
theorem dL_law_1637 : decode cL_law 1637 = .ok (.iaload, 1) := chk_nth ocL_law_50 (k := 11) rfl
theorem dL_law_1638 : decode cL_law 1638 = .ok (.aload_n 0, 1) := chk_nth ocL_law_50 (k := 12) rfl
theorem dL_law_1639 : decode cL_law 1639 = .ok (.iload_n 3, 1) := chk_nth ocL_law_50 (k := 13) rfl
theorem dL_law_1640 : decode cL_law 1640 = .ok (.iconst 4, 1) := chk_nth ocL_law_50 (k := 14) rfl
theorem dL_law_1641 : decode cL_law 1641 = .ok (.iadd, 1) := chk_nth ocL_law_50 (k := 15) rfl
theorem dL_law_1642 : decode cL_law 1642 = .ok (.iaload, 1) := chk_nth ocL_law_50 (k := 16) rfl
theorem dL_law_1643 : decode cL_law 1643 = .ok (.invokevirtual 174, 3) := chk_nth ocL_law_50 (k := 17) rfl
theorem dL_law_1646 : decode cL_law 1646 = .ok (.aload_n 2, 1) := chk_nth ocL_law_50 (k := 18) rfl
theorem dL_law_1647 : decode cL_law 1647 = .ok (.aload_n 0, 1) := chk_nth ocL_law_50 (k := 19) rfl
theorem dL_law_1648 : decode cL_law 1648 = .ok (.iload_n 3, 1) := chk_nth ocL_law_50 (k := 20) rfl
theorem dL_law_1649 : decode cL_law 1649 = .ok (.iconst 1, 1) := chk_nth ocL_law_50 (k := 21) rfl
theorem dL_law_1650 : decode cL_law 1650 = .ok (.iadd, 1) := chk_nth ocL_law_50 (k := 22) rfl
theorem dL_law_1651 : decode cL_law 1651 = .ok (.iaload, 1) := chk_nth ocL_law_50 (k := 23) rfl
def tcL_law_51 : List (Instr × Nat) := [(.aload_n 0, 1), (.iload_n 3, 1), (.iconst 2, 1), (.iadd, 1), (.iaload, 1), (.aload_n 0, 1), (.iload_n 3, 1), (.iconst 3, 1), (.iadd, 1), (.iaload, 1), (.aload_n 0, 1), (.iload_n 3, 1), (.iconst 4, 1), (.iadd, 1), (.iaload, 1), (.invokevirtual 177, 3), (.if_icmp .eq 74, 3), (.iconst 0, 1), (.ireturn, 1), (.aload_n 1, 1), (.aload_n 0, 1), (.iload_n 3, 1), (.iconst 1, 1), (.iadd, 1)]
theorem ocL_law_51 : chk (cL_law.data.toList.drop 1652) tcL_law_51 = true := by decide +kernel
theorem dL_law_1652 : decode cL_law 1652 = .ok (.aload_n 0, 1) := chk_nth ocL_law_51 (k := 0) rfl
theorem dL_law_1653 : decode cL_law 1653 = .ok (.iload_n 3, 1) := chk_nth ocL_law_51 (k := 1) rfl
theorem dL_law_1654 : decode cL_law 1654 = .ok (.iconst 2, 1) := chk_nth ocL_law_51 (k := 2) rfl
theorem dL_law_1655 : decode cL_law 1655 = .ok (.iadd, 1) := chk_nth ocL_law_51 (k := 3) rfl
theorem dL_law_1656 : decode cL_law 1656 = .ok (.iaload, 1) := chk_nth ocL_law_51 (k := 4) rfl
theorem dL_law_1657 : decode cL_law 1657 = .ok (.aload_n 0, 1) := chk_nth ocL_law_51 (k := 5) rfl
theorem dL_law_1658 : decode cL_law 1658 = .ok (.iload_n 3, 1) := chk_nth ocL_law_51 (k := 6) rfl
theorem dL_law_1659 : decode cL_law 1659 = .ok (.iconst 3, 1) := chk_nth ocL_law_51 (k := 7) rfl
theorem dL_law_1660 : decode cL_law 1660 = .ok (.iadd, 1) := chk_nth ocL_law_51 (k := 8) rfl
theorem dL_law_1661 : decode cL_law 1661 = .ok (.iaload, 1) := chk_nth ocL_law_51 (k := 9) rfl
theorem dL_law_1662 : decode cL_law 1662 = .ok (.aload_n 0, 1) := chk_nth ocL_law_51 (k := 10) rfl
theorem dL_law_1663 : decode cL_law 1663 = .ok (.iload_n 3, 1) := chk_nth ocL_law_51 (k := 11) rfl
theorem dL_law_1664 : decode cL_law 1664 = .ok (.iconst 4, 1) := chk_nth ocL_law_51 (k := 12) rfl
theorem dL_law_1665 : decode cL_law 1665 = .ok (.iadd, 1) := chk_nth ocL_law_51 (k := 13) rfl
theorem dL_law_1666 : decode cL_law 1666 = .ok (.iaload, 1) := chk_nth ocL_law_51 (k := 14) rfl
theorem dL_law_1667 : decode cL_law 1667 = .ok (.invokevirtual 177, 3) := chk_nth ocL_law_51 (k := 15) rfl
theorem dL_law_1670 : decode cL_law 1670 = .ok (.if_icmp .eq 74, 3) := chk_nth ocL_law_51 (k := 16) rfl
theorem dL_law_1673 : decode cL_law 1673 = .ok (.iconst 0, 1) := chk_nth ocL_law_51 (k := 17) rfl
theorem dL_law_1674 : decode cL_law 1674 = .ok (.ireturn, 1) := chk_nth ocL_law_51 (k := 18) rfl
theorem dL_law_1675 : decode cL_law 1675 = .ok (.aload_n 1, 1) := chk_nth ocL_law_51 (k := 19) rfl
theorem dL_law_1676 : decode cL_law 1676 = .ok (.aload_n 0, 1) := chk_nth ocL_law_51 (k := 20) rfl
theorem dL_law_1677 : decode cL_law 1677 = .ok (.iload_n 3, 1) := chk_nth ocL_law_51 (k := 21) rfl
theorem dL_law_1678 : decode cL_law 1678 = .ok (.iconst 1, 1) := chk_nth ocL_law_51 (k := 22) rfl
theorem dL_law_1679 : decode cL_law 1679 = .ok (.iadd, 1) := chk_nth ocL_law_51 (k := 23) rfl
def tcL_law_52 : List (Instr × Nat) := [(.iaload, 1), (.invokevirtual 178, 3), (.aload_n 2, 1), (.aload_n 0, 1), (.iload_n 3, 1), (.iconst 1, 1), (.iadd, 1), (.iaload, 1), (.invokevirtual 181, 3), (.if_icmp .eq 51, 3), (.iconst 0, 1), (.ireturn, 1), (.aload_n 1, 1), (.aload_n 0, 1), (.iload_n 3, 1), (.iconst 1, 1), (.iadd, 1), (.iaload, 1), (.invokevirtual 182, 3), (.aload_n 2, 1), (.aload_n 0, 1), (.iload_n 3, 1), (.iconst 1, 1), (.iadd, 1)]
theorem ocL_law_52 : chk (cL_law.data.toList.drop 1680) tcL_law_52 = true := by decide +kernel
theorem dL_law_1680 : decode cL_law 1680 = .ok (.iaload, 1) := chk_nth ocL_law_52 (k := 0) rfl
theorem dL_law_1681 : decode cL_law 1681 = .ok (.invokevirtual 178, 3) := chk_nth ocL_law_52 (k := 1) rfl
theorem dL_law_1684 : decode cL_law 1684 = .ok (.aload_n 2, 1) := chk_nth ocL_law_52 (k := 2) rfl
theorem dL_law_1685 : decode cL_law 1685 = .ok (.aload_n 0, 1) := chk_nth ocL_law_52 (k := 3) rfl
theorem dL_law_1686 : decode cL_law 1686 = .ok (.iload_n 3, 1) := chk_nth ocL_law_52 (k := 4) rfl
theorem dL_law_1687 : decode cL_law 1687 = .ok (.iconst 1, 1) := chk_nth ocL_law_52 (k := 5) rfl
theorem dL_law_1688 : decode cL_law 1688 = .ok (.iadd, 1) := chk_nth ocL_law_52 (k := 6) rfl
theorem dL_law_1689 : decode cL_law 1689 = .ok (.iaload, 1) := chk_nth ocL_law_52 (k := 7) rfl
theorem dL_law_1690 : decode cL_law 1690 = .ok (.invokevirtual 181, 3) := chk_nth ocL_law_52 (k := 8) rfl
theorem dL_law_1693 : decode cL_law 1693 = .ok (.if_icmp .eq 51, 3) := chk_nth ocL_law_52 (k := 9) rfl
theorem dL_law_1696 : decode cL_law 1696 = .ok (.iconst 0, 1) := chk_nth ocL_law_52 (k := 10) rfl
theorem dL_law_1697 : decode cL_law 1697 = .ok (.ireturn, 1) := chk_nth ocL_law_52 (k := 11) rfl
theorem dL_law_1698 : decode cL_law 1698 = .ok (.aload_n 1, 1) := chk_nth ocL_law_52 (k := 12) rfl
theorem dL_law_1699 : decode cL_law 1699 = .ok (.aload_n 0, 1) := chk_nth ocL_law_52 (k := 13) rfl
theorem dL_law_1700 : decode cL_law 1700 = .ok (.iload_n 3, 1) := chk_nth ocL_law_52 (k := 14) rfl
theorem dL_law_1701 : decode cL_law 1701 = .ok (.iconst 1, 1) := chk_nth ocL_law_52 (k := 15) rfl
theorem dL_law_1702 : decode cL_law 1702 = .ok (.iadd, 1) := chk_nth ocL_law_52 (k := 16) rfl
theorem dL_law_1703 : decode cL_law 1703 = .ok (.iaload, 1) := chk_nth ocL_law_52 (k := 17) rfl
theorem dL_law_1704 : decode cL_law 1704 = .ok (.invokevirtual 182, 3) := chk_nth ocL_law_52 (k := 18) rfl
theorem dL_law_1707 : decode cL_law 1707 = .ok (.aload_n 2, 1) := chk_nth ocL_law_52 (k := 19) rfl
theorem dL_law_1708 : decode cL_law 1708 = .ok (.aload_n 0, 1) := chk_nth ocL_law_52 (k := 20) rfl
theorem dL_law_1709 : decode cL_law 1709 = .ok (.iload_n 3, 1) := chk_nth ocL_law_52 (k := 21) rfl
theorem dL_law_1710 : decode cL_law 1710 = .ok (.iconst 1, 1) := chk_nth ocL_law_52 (k := 22) rfl
theorem dL_law_1711 : decode cL_law 1711 = .ok (.iadd, 1) := chk_nth ocL_law_52 (k := 23) rfl
def tcL_law_53 : List (Instr × Nat) := [(.iaload, 1), (.invokevirtual 185, 3), (.if_icmp .eq 28, 3), (.iconst 0, 1), (.ireturn, 1), (.aload_n 1, 1), (.aload_n 0, 1), (.iload_n 3, 1), (.iconst 1, 1), (.iadd, 1), (.iaload, 1), (.invokevirtual 186, 3), (.aload_n 2, 1), (.aload_n 0, 1), (.iload_n 3, 1), (.iconst 1, 1), (.iadd, 1), (.iaload, 1), (.invokevirtual 189, 3), (.if_icmp .eq 5, 3), (.iconst 0, 1), (.ireturn, 1), (.iinc 3 6, 3), (.goto (-1729), 3)]
theorem ocL_law_53 : chk (cL_law.data.toList.drop 1712) tcL_law_53 = true := by decide +kernel
theorem dL_law_1712 : decode cL_law 1712 = .ok (.iaload, 1) := chk_nth ocL_law_53 (k := 0) rfl
theorem dL_law_1713 : decode cL_law 1713 = .ok (.invokevirtual 185, 3) := chk_nth ocL_law_53 (k := 1) rfl
theorem dL_law_1716 : decode cL_law 1716 = .ok (.if_icmp .eq 28, 3) := chk_nth ocL_law_53 (k := 2) rfl
theorem dL_law_1719 : decode cL_law 1719 = .ok (.iconst 0, 1) := chk_nth ocL_law_53 (k := 3) rfl
theorem dL_law_1720 : decode cL_law 1720 = .ok (.ireturn, 1) := chk_nth ocL_law_53 (k := 4) rfl
theorem dL_law_1721 : decode cL_law 1721 = .ok (.aload_n 1, 1) := chk_nth ocL_law_53 (k := 5) rfl
theorem dL_law_1722 : decode cL_law 1722 = .ok (.aload_n 0, 1) := chk_nth ocL_law_53 (k := 6) rfl
theorem dL_law_1723 : decode cL_law 1723 = .ok (.iload_n 3, 1) := chk_nth ocL_law_53 (k := 7) rfl
theorem dL_law_1724 : decode cL_law 1724 = .ok (.iconst 1, 1) := chk_nth ocL_law_53 (k := 8) rfl
theorem dL_law_1725 : decode cL_law 1725 = .ok (.iadd, 1) := chk_nth ocL_law_53 (k := 9) rfl
theorem dL_law_1726 : decode cL_law 1726 = .ok (.iaload, 1) := chk_nth ocL_law_53 (k := 10) rfl
theorem dL_law_1727 : decode cL_law 1727 = .ok (.invokevirtual 186, 3) := chk_nth ocL_law_53 (k := 11) rfl
theorem dL_law_1730 : decode cL_law 1730 = .ok (.aload_n 2, 1) := chk_nth ocL_law_53 (k := 12) rfl
theorem dL_law_1731 : decode cL_law 1731 = .ok (.aload_n 0, 1) := chk_nth ocL_law_53 (k := 13) rfl
theorem dL_law_1732 : decode cL_law 1732 = .ok (.iload_n 3, 1) := chk_nth ocL_law_53 (k := 14) rfl
theorem dL_law_1733 : decode cL_law 1733 = .ok (.iconst 1, 1) := chk_nth ocL_law_53 (k := 15) rfl
theorem dL_law_1734 : decode cL_law 1734 = .ok (.iadd, 1) := chk_nth ocL_law_53 (k := 16) rfl
theorem dL_law_1735 : decode cL_law 1735 = .ok (.iaload, 1) := chk_nth ocL_law_53 (k := 17) rfl
theorem dL_law_1736 : decode cL_law 1736 = .ok (.invokevirtual 189, 3) := chk_nth ocL_law_53 (k := 18) rfl
theorem dL_law_1739 : decode cL_law 1739 = .ok (.if_icmp .eq 5, 3) := chk_nth ocL_law_53 (k := 19) rfl
theorem dL_law_1742 : decode cL_law 1742 = .ok (.iconst 0, 1) := chk_nth ocL_law_53 (k := 20) rfl
theorem dL_law_1743 : decode cL_law 1743 = .ok (.ireturn, 1) := chk_nth ocL_law_53 (k := 21) rfl
theorem dL_law_1744 : decode cL_law 1744 = .ok (.iinc 3 6, 3) := chk_nth ocL_law_53 (k := 22) rfl
theorem dL_law_1747 : decode cL_law 1747 = .ok (.goto (-1729), 3) := chk_nth ocL_law_53 (k := 23) rfl
def tcL_law_54 : List (Instr × Nat) := [(.iconst 1, 1), (.ireturn, 1)]
theorem ocL_law_54 : chk (cL_law.data.toList.drop 1750) tcL_law_54 = true := by decide +kernel
theorem dL_law_1750 : decode cL_law 1750 = .ok (.iconst 1, 1) := chk_nth ocL_law_54 (k := 0) rfl
theorem dL_law_1751 : decode cL_law 1751 = .ok (.ireturn, 1) := chk_nth ocL_law_54 (k := 1) rfl
