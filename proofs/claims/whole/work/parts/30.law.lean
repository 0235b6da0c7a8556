def M_L_law : jM := ((⟨"ChessLedgerLaw", "law", "([I)Z"⟩, code, 4, some .boolean), [none, none, none, some (.dup, 1, []), none, none, none, some (.astore_n 1, 1, []), none, none, none, some (.dup, 1, []), none, none, none, some (.astore_n 2, 1, []), some (.iconst (0), 1, []), some (.istore_n 3, 1, []), some (.iload_n 3, 1, []), some (.aload_n 0, 1, []), some (.arraylength, 1, []), some (.iconst (5), 1, []), some (.isub, 1, []), some (.if_icmp .gt (560), 3, []), none, none, some (.aload_n 0, 1, []), some (.iload_n 3, 1, []), some (.iaload, 1, []), some (.bipush (31), 2, []), none, some (.iand, 1, []), some (.tableswitch (545) (0) (19) #[96, 107, 140, 193, 216, 239, 252, 275, 298, 311, 345, 358, 371, 384, 407, 420, 483, 496, 509, 532], 96, []), none, none, none, none, none, none, none, none, none, none, none, none, none, none, none, none, none, none, none, none, none, none, none, none, none, none, none, none, none, none, none, none, none, none, none, none, none, none, none, none, none, none, none, none, none, none, none, none, none, none, none, none, none, none, none, none, none, none, none, none, none, none, none, none, none, none, none, none, none, none, none, none, none, none, none, none, none, none, none, none, none, none, none, none, none, none, none, none, none, none, none, none, none, none, none, some (.aload_n 1, 1, []), some (.invokevirtual 13, 3, [0, 268, 0]), none, none, some (.aload_n 2, 1, []), some (.invokevirtual 16, 3, [113, 832, 0]), none, none, some (.goto (441), 3, []), none, none, some (.aload_n 1, 1, []), some (.aload_n 0, 1, []), some (.iload_n 3, 1, []), some (.iconst (1), 1, []), some (.iadd, 1, []), some (.iaload, 1, []), some (.aload_n 0, 1, []), some (.iload_n 3, 1, []), some (.iconst (2), 1, []), some (.iadd, 1, []), some (.iaload, 1, []), some (.invokevirtual 17, 3, [5, 287, 0]), none, none, some (.aload_n 2, 1, []), some (.aload_n 0, 1, []), some (.iload_n 3, 1, []), some (.iconst (1), 1, []), some (.iadd, 1, []), some (.iaload, 1, []), some (.aload_n 0, 1, []), some (.iload_n 3, 1, []), some (.iconst (2), 1, []), some (.iadd, 1, []), some (.iaload, 1, []), some (.invokevirtual 21, 3, [114, 836, 0]), none, none, some (.if_icmp .eq (410), 3, []), none, none, some (.iconst (0), 1, []), some (.ireturn, 1, []), some (.aload_n 1, 1, []), some (.aload_n 0, 1, []), some (.iload_n 3, 1, []), some (.iconst (1), 1, []), some (.iadd, 1, []), some (.iaload, 1, []), some (.aload_n 0, 1, []), some (.iload_n 3, 1, []), some (.iconst (2), 1, []), some (.iadd, 1, []), some (.iaload, 1, []), some (.aload_n 0, 1, []), some (.iload_n 3, 1, []), some (.iconst (3), 1, []), some (.iadd, 1, []), some (.iaload, 1, []), some (.aload_n 0, 1, []), some (.iload_n 3, 1, []), some (.iconst (4), 1, []), some (.iadd, 1, []), some (.iaload, 1, []), some (.invokevirtual 22, 3, [7, 294, 0]), none, none, some (.aload_n 2, 1, []), some (.aload_n 0, 1, []), some (.iload_n 3, 1, []), some (.iconst (1), 1, []), some (.iadd, 1, []), some (.iaload, 1, []), some (.aload_n 0, 1, []), some (.iload_n 3, 1, []), some (.iconst (2), 1, []), some (.iadd, 1, []), some (.iaload, 1, []), some (.aload_n 0, 1, []), some (.iload_n 3, 1, []), some (.iconst (3), 1, []), some (.iadd, 1, []), some (.iaload, 1, []), some (.aload_n 0, 1, []), some (.iload_n 3, 1, []), some (.iconst (4), 1, []), some (.iadd, 1, []), some (.iaload, 1, []), some (.invokevirtual 26, 3, [116, 844, 0]), none, none, some (.if_icmp .eq (357), 3, []), none, none, some (.iconst (0), 1, []), some (.ireturn, 1, []), some (.aload_n 1, 1, []), some (.aload_n 0, 1, []), some (.iload_n 3, 1, []), some (.iconst (1), 1, []), some (.iadd, 1, []), some (.iaload, 1, []), some (.invokevirtual 27, 3, [38, 425, 0]), none, none, some (.aload_n 2, 1, []), some (.aload_n 0, 1, []), some (.iload_n 3, 1, []), some (.iconst (1), 1, []), some (.iadd, 1, []), some (.iaload, 1, []), some (.invokevirtual 31, 3, [137, 925, 0]), none, none, some (.if_icmp .eq (334), 3, []), none, none, some (.iconst (0), 1, []), some (.ireturn, 1, []), some (.aload_n 1, 1, []), some (.aload_n 0, 1, []), some (.iload_n 3, 1, []), some (.iconst (1), 1, []), some (.iadd, 1, []), some (.iaload, 1, []), some (.invokevirtual 32, 3, [39, 429, 0]), none, none, some (.aload_n 2, 1, []), some (.aload_n 0, 1, []), some (.iload_n 3, 1, []), some (.iconst (1), 1, []), some (.iadd, 1, []), some (.iaload, 1, []), some (.invokevirtual 35, 3, [138, 929, 0]), none, none, some (.if_icmp .eq (311), 3, []), none, none, some (.iconst (0), 1, []), some (.ireturn, 1, []), some (.aload_n 1, 1, []), some (.invokevirtual 36, 3, [40, 433, 0]), none, none, some (.aload_n 2, 1, []), some (.invokevirtual 40, 3, [139, 933, 0]), none, none, some (.if_icmp .eq (298), 3, []), none, none, some (.iconst (0), 1, []), some (.ireturn, 1, []), some (.aload_n 1, 1, []), some (.aload_n 0, 1, []), some (.iload_n 3, 1, []), some (.iconst (1), 1, []), some (.iadd, 1, []), some (.iaload, 1, []), some (.invokevirtual 41, 3, [57, 516, 0]), none, none, some (.aload_n 2, 1, []), some (.aload_n 0, 1, []), some (.iload_n 3, 1, []), some (.iconst (1), 1, []), some (.iadd, 1, []), some (.iaload, 1, []), some (.invokevirtual 44, 3, [146, 961, 0]), none, none, some (.if_icmp .eq (275), 3, []), none, none, some (.iconst (0), 1, []), some (.ireturn, 1, []), some (.aload_n 1, 1, []), some (.aload_n 0, 1, []), some (.iload_n 3, 1, []), some (.iconst (1), 1, []), some (.iadd, 1, []), some (.iaload, 1, []), some (.invokevirtual 45, 3, [61, 531, 0]), none, none, some (.aload_n 2, 1, []), some (.aload_n 0, 1, []), some (.iload_n 3, 1, []), some (.iconst (1), 1, []), some (.iadd, 1, []), some (.iaload, 1, []), some (.invokevirtual 48, 3, [148, 969, 0]), none, none, some (.if_icmp .eq (252), 3, []), none, none, some (.iconst (0), 1, []), some (.ireturn, 1, []), some (.aload_n 1, 1, []), some (.invokevirtual 49, 3, [69, 570, 0]), none, none, some (.aload_n 2, 1, []), some (.invokevirtual 52, 3, [151, 980, 0]), none, none, some (.if_icmp .eq (239), 3, []), none, none, some (.iconst (0), 1, []), some (.ireturn, 1, []), some (.aload_n 1, 1, []), some (.aload_n 0, 1, []), some (.iload_n 3, 1, []), some (.iconst (1), 1, []), some (.iadd, 1, []), some (.iaload, 1, []), some (.aload_n 0, 1, []), some (.iload_n 3, 1, []), some (.iconst (2), 1, []), some (.iadd, 1, []), some (.iaload, 1, []), some (.invokevirtual 53, 3, [71, 578, 0]), none, none, some (.aload_n 2, 1, []), some (.aload_n 0, 1, []), some (.iload_n 3, 1, []), some (.iconst (1), 1, []), some (.iadd, 1, []), some (.iaload, 1, []), some (.aload_n 0, 1, []), some (.iload_n 3, 1, []), some (.iconst (2), 1, []), some (.iadd, 1, []), some (.iaload, 1, []), some (.invokevirtual 57, 3, [152, 984, 0]), none, none, some (.lcmp, 1, []), some (.ifCond .eq (205), 3, []), none, none, some (.iconst (0), 1, []), some (.ireturn, 1, []), some (.aload_n 1, 1, []), some (.invokevirtual 58, 3, [72, 583, 0]), none, none, some (.aload_n 2, 1, []), some (.invokevirtual 61, 3, [154, 992, 0]), none, none, some (.if_icmp .eq (192), 3, []), none, none, some (.iconst (0), 1, []), some (.ireturn, 1, []), some (.aload_n 1, 1, []), some (.invokevirtual 62, 3, [73, 588, 0]), none, none, some (.aload_n 2, 1, []), some (.invokevirtual 65, 3, [158, 1008, 0]), none, none, some (.if_icmp .eq (179), 3, []), none, none, some (.iconst (0), 1, []), some (.ireturn, 1, []), some (.aload_n 1, 1, []), some (.invokevirtual 66, 3, [77, 604, 0]), none, none, some (.aload_n 2, 1, []), some (.invokevirtual 69, 3, [156, 1000, 0]), none, none, some (.if_icmp .eq (166), 3, []), none, none, some (.iconst (0), 1, []), some (.ireturn, 1, []), some (.aload_n 1, 1, []), some (.aload_n 0, 1, []), some (.iload_n 3, 1, []), some (.iconst (1), 1, []), some (.iadd, 1, []), some (.iaload, 1, []), some (.invokevirtual 70, 3, [78, 608, 0]), none, none, some (.aload_n 2, 1, []), some (.aload_n 0, 1, []), some (.iload_n 3, 1, []), some (.iconst (1), 1, []), some (.iadd, 1, []), some (.iaload, 1, []), some (.invokevirtual 73, 3, [160, 1016, 0]), none, none, some (.if_icmp .eq (143), 3, []), none, none, some (.iconst (0), 1, []), some (.ireturn, 1, []), some (.aload_n 1, 1, []), some (.invokevirtual 74, 3, [79, 612, 0]), none, none, some (.aload_n 2, 1, []), some (.invokevirtual 77, 3, [162, 1024, 0]), none, none, some (.if_icmp .eq (130), 3, []), none, none, some (.iconst (0), 1, []), some (.ireturn, 1, []), some (.aload_n 1, 1, []), some (.aload_n 0, 1, []), some (.iload_n 3, 1, []), some (.iconst (1), 1, []), some (.iadd, 1, []), some (.iaload, 1, []), some (.i2l, 1, []), some (.bipush (32), 2, []), none, some (.lshl, 1, []), some (.aload_n 0, 1, []), some (.iload_n 3, 1, []), some (.iconst (2), 1, []), some (.iadd, 1, []), some (.iaload, 1, []), some (.i2l, 1, []), some (.ldc2_w 78, 3, [1086, 4294967295]), none, none, some (.land, 1, []), some (.lor, 1, []), some (.aload_n 0, 1, []), some (.iload_n 3, 1, []), some (.iconst (3), 1, []), some (.iadd, 1, []), some (.iaload, 1, []), some (.invokevirtual 80, 3, [80, 616, 0]), none, none, some (.aload_n 2, 1, []), some (.aload_n 0, 1, []), some (.iload_n 3, 1, []), some (.iconst (1), 1, []), some (.iadd, 1, []), some (.iaload, 1, []), some (.i2l, 1, []), some (.bipush (32), 2, []), none, some (.lshl, 1, []), some (.aload_n 0, 1, []), some (.iload_n 3, 1, []), some (.iconst (2), 1, []), some (.iadd, 1, []), some (.iaload, 1, []), some (.i2l, 1, []), some (.ldc2_w 78, 3, [1086, 4294967295]), none, none, some (.land, 1, []), some (.lor, 1, []), some (.aload_n 0, 1, []), some (.iload_n 3, 1, []), some (.iconst (3), 1, []), some (.iadd, 1, []), some (.iaload, 1, []), some (.invokevirtual 84, 3, [163, 1028, 0]), none, none, some (.if_icmp .eq (67), 3, []), none, none, some (.iconst (0), 1, []), some (.ireturn, 1, []), some (.aload_n 1, 1, []), some (.invokevirtual 85, 3, [83, 627, 0]), none, none, some (.aload_n 2, 1, []), some (.invokevirtual 88, 3, [164, 1035, 0]), none, none, some (.if_icmp .eq (54), 3, []), none, none, some (.iconst (0), 1, []), some (.ireturn, 1, []), some (.aload_n 1, 1, []), some (.invokevirtual 89, 3, [102, 729, 0]), none, none, some (.aload_n 2, 1, []), some (.invokevirtual 92, 3, [173, 1070, 0]), none, none, some (.if_icmp .eq (41), 3, []), none, none, some (.iconst (0), 1, []), some (.ireturn, 1, []), some (.aload_n 1, 1, []), some (.aload_n 0, 1, []), some (.iload_n 3, 1, []), some (.iconst (1), 1, []), some (.iadd, 1, []), some (.iaload, 1, []), some (.invokevirtual 93, 3, [110, 767, 0]), none, none, some (.aload_n 2, 1, []), some (.aload_n 0, 1, []), some (.iload_n 3, 1, []), some (.iconst (1), 1, []), some (.iadd, 1, []), some (.iaload, 1, []), some (.invokevirtual 96, 3, [175, 1078, 0]), none, none, some (.if_icmp .eq (18), 3, []), none, none, some (.iconst (0), 1, []), some (.ireturn, 1, []), some (.aload_n 1, 1, []), some (.invokevirtual 97, 3, [111, 772, 0]), none, none, some (.aload_n 2, 1, []), some (.invokevirtual 100, 3, [176, 1082, 0]), none, none, some (.if_icmp .eq (5), 3, []), none, none, some (.iconst (0), 1, []), some (.ireturn, 1, []), some (.iinc 3 (5), 3, []), none, none, some (.goto (-562), 3, []), none, none, some (.iconst (1), 1, []), some (.ireturn, 1, [])], (11, 279, 0, 1), [])
set_option maxRecDepth 100000 in
theorem st_L_law : jokT2 M_L_law 0 (jt M_L_law) = true := by decide +kernel
def f_L_law_lp18 (E : jE) (k : Int → jH → Option (Int × jH)) : Nat → Int → jH → Option (Int × jH)
  | 0, _, _ => none
  | n + 1, l1, h2 => if jsub ((jsl E : Nat) : Int) 5 < l1 then k l1 h2 else jgd (0 ≤ l1 ∧ l1 < ((jsl E : Nat) : Int)) (if jand (jsx E l1.toNat) 31 = 0 then (f_X_clear h2).bind fun v3 => (f_M_clear v3).bind fun v4 => f_L_law_lp18 E k n (jadd l1 5) v4 else if jand (jsx E l1.toNat) 31 = 1 then jgd (0 ≤ jadd l1 1 ∧ jadd l1 1 < ((jsl E : Nat) : Int)) (jgd (0 ≤ jadd l1 2 ∧ jadd l1 2 < ((jsl E : Nat) : Int)) ((f_X_put h2 (jsx E (jadd l1 1).toNat) (jsx E (jadd l1 2).toNat)).bind fun v5 => jgd (0 ≤ jadd l1 1 ∧ jadd l1 1 < ((jsl E : Nat) : Int)) (jgd (0 ≤ jadd l1 2 ∧ jadd l1 2 < ((jsl E : Nat) : Int)) ((f_M_put v5.2 (jsx E (jadd l1 1).toNat) (jsx E (jadd l1 2).toNat)).bind fun v6 => if v5.1 = v6.1 then f_L_law_lp18 E k n (jadd l1 5) v6.2 else some (0, v6.2))))) else if jand (jsx E l1.toNat) 31 = 2 then jgd (0 ≤ jadd l1 1 ∧ jadd l1 1 < ((jsl E : Nat) : Int)) (jgd (0 ≤ jadd l1 2 ∧ jadd l1 2 < ((jsl E : Nat) : Int)) (jgd (0 ≤ jadd l1 3 ∧ jadd l1 3 < ((jsl E : Nat) : Int)) (jgd (0 ≤ jadd l1 4 ∧ jadd l1 4 < ((jsl E : Nat) : Int)) ((f_X_set h2 (jsx E (jadd l1 1).toNat) (jsx E (jadd l1 2).toNat) (jsx E (jadd l1 3).toNat) (jsx E (jadd l1 4).toNat)).bind fun v7 => jgd (0 ≤ jadd l1 1 ∧ jadd l1 1 < ((jsl E : Nat) : Int)) (jgd (0 ≤ jadd l1 2 ∧ jadd l1 2 < ((jsl E : Nat) : Int)) (jgd (0 ≤ jadd l1 3 ∧ jadd l1 3 < ((jsl E : Nat) : Int)) (jgd (0 ≤ jadd l1 4 ∧ jadd l1 4 < ((jsl E : Nat) : Int)) ((f_M_set v7.2 (jsx E (jadd l1 1).toNat) (jsx E (jadd l1 2).toNat) (jsx E (jadd l1 3).toNat) (jsx E (jadd l1 4).toNat)).bind fun v8 => if v7.1 = v8.1 then f_L_law_lp18 E k n (jadd l1 5) v8.2 else some (0, v8.2))))))))) else if jand (jsx E l1.toNat) 31 = 3 then jgd (0 ≤ jadd l1 1 ∧ jadd l1 1 < ((jsl E : Nat) : Int)) ((f_X_at h2 (jsx E (jadd l1 1).toNat)).bind fun v9 => jgd (0 ≤ jadd l1 1 ∧ jadd l1 1 < ((jsl E : Nat) : Int)) ((f_M_at h2 (jsx E (jadd l1 1).toNat)).bind fun v10 => if v9 = v10.1 then f_L_law_lp18 E k n (jadd l1 5) v10.2 else some (0, v10.2))) else if jand (jsx E l1.toNat) 31 = 4 then jgd (0 ≤ jadd l1 1 ∧ jadd l1 1 < ((jsl E : Nat) : Int)) ((f_X_state h2 (jsx E (jadd l1 1).toNat)).bind fun v11 => jgd (0 ≤ jadd l1 1 ∧ jadd l1 1 < ((jsl E : Nat) : Int)) ((f_M_state h2 (jsx E (jadd l1 1).toNat)).bind fun v12 => if v11 = v12.1 then f_L_law_lp18 E k n (jadd l1 5) v12.2 else some (0, v12.2))) else if jand (jsx E l1.toNat) 31 = 5 then (f_X_moves h2).bind fun v13 => (f_M_moves v13.2).bind fun v14 => if v13.1 = v14.1 then f_L_law_lp18 E k n (jadd l1 5) v14.2 else some (0, v14.2) else if jand (jsx E l1.toNat) 31 = 6 then jgd (0 ≤ jadd l1 1 ∧ jadd l1 1 < ((jsl E : Nat) : Int)) ((f_X_move h2 (jsx E (jadd l1 1).toNat)).bind fun v15 => jgd (0 ≤ jadd l1 1 ∧ jadd l1 1 < ((jsl E : Nat) : Int)) ((f_M_move v15.2 (jsx E (jadd l1 1).toNat)).bind fun v16 => if v15.1 = v16.1 then f_L_law_lp18 E k n (jadd l1 5) v16.2 else some (0, v16.2))) else if jand (jsx E l1.toNat) 31 = 7 then jgd (0 ≤ jadd l1 1 ∧ jadd l1 1 < ((jsl E : Nat) : Int)) ((f_X_make h2 (jsx E (jadd l1 1).toNat)).bind fun v17 => jgd (0 ≤ jadd l1 1 ∧ jadd l1 1 < ((jsl E : Nat) : Int)) ((f_M_make v17.2 (jsx E (jadd l1 1).toNat)).bind fun v18 => if v17.1 = v18.1 then f_L_law_lp18 E k n (jadd l1 5) v18.2 else some (0, v18.2))) else if jand (jsx E l1.toNat) 31 = 8 then (f_X_back h2).bind fun v19 => (f_M_back v19.2).bind fun v20 => if v19.1 = v20.1 then f_L_law_lp18 E k n (jadd l1 5) v20.2 else some (0, v20.2) else if jand (jsx E l1.toNat) 31 = 9 then jgd (0 ≤ jadd l1 1 ∧ jadd l1 1 < ((jsl E : Nat) : Int)) (jgd (0 ≤ jadd l1 2 ∧ jadd l1 2 < ((jsl E : Nat) : Int)) ((f_X_attackers h2 (jsx E (jadd l1 1).toNat) (jsx E (jadd l1 2).toNat)).bind fun v21 => jgd (0 ≤ jadd l1 1 ∧ jadd l1 1 < ((jsl E : Nat) : Int)) (jgd (0 ≤ jadd l1 2 ∧ jadd l1 2 < ((jsl E : Nat) : Int)) ((f_M_attackers h2 (jsx E (jadd l1 1).toNat) (jsx E (jadd l1 2).toNat)).bind fun v22 => if jcmp v21 v22.1 = 0 then f_L_law_lp18 E k n (jadd l1 5) v22.2 else some (0, v22.2))))) else if jand (jsx E l1.toNat) 31 = 10 then (f_X_checked h2).bind fun v23 => (f_M_checked h2).bind fun v24 => if v23 = v24.1 then f_L_law_lp18 E k n (jadd l1 5) v24.2 else some (0, v24.2) else if jand (jsx E l1.toNat) 31 = 11 then (f_X_status h2).bind fun v25 => (f_M_status v25.2).bind fun v26 => if v25.1 = v26.1 then f_L_law_lp18 E k n (jadd l1 5) v26.2 else some (0, v26.2) else if jand (jsx E l1.toNat) 31 = 12 then (f_X_seen h2).bind fun v27 => (f_M_seen h2).bind fun v28 => if v27 = v28.1 then f_L_law_lp18 E k n (jadd l1 5) v28.2 else some (0, v28.2) else if jand (jsx E l1.toNat) 31 = 13 then jgd (0 ≤ jadd l1 1 ∧ jadd l1 1 < ((jsl E : Nat) : Int)) ((f_X_lines h2 (jsx E (jadd l1 1).toNat)).bind fun v29 => jgd (0 ≤ jadd l1 1 ∧ jadd l1 1 < ((jsl E : Nat) : Int)) ((f_M_lines v29.2 (jsx E (jadd l1 1).toNat)).bind fun v30 => if v29.1 = v30.1 then f_L_law_lp18 E k n (jadd l1 5) v30.2 else some (0, v30.2))) else if jand (jsx E l1.toNat) 31 = 14 then (f_X_mates h2).bind fun v31 => (f_M_mates v31.2).bind fun v32 => if v31.1 = v32.1 then f_L_law_lp18 E k n (jadd l1 5) v32.2 else some (0, v32.2) else if jand (jsx E l1.toNat) 31 = 15 then jgd (0 ≤ jadd l1 1 ∧ jadd l1 1 < ((jsl E : Nat) : Int)) (jgd (0 ≤ jadd l1 2 ∧ jadd l1 2 < ((jsl E : Nat) : Int)) (jgd (0 ≤ jadd l1 3 ∧ jadd l1 3 < ((jsl E : Nat) : Int)) ((f_X_type h2 (jlor (jlshl (jsx E (jadd l1 1).toNat) 32) (jland (jsx E (jadd l1 2).toNat) 4294967295)) (jsx E (jadd l1 3).toNat)).bind fun v33 => jgd (0 ≤ jadd l1 1 ∧ jadd l1 1 < ((jsl E : Nat) : Int)) (jgd (0 ≤ jadd l1 2 ∧ jadd l1 2 < ((jsl E : Nat) : Int)) (jgd (0 ≤ jadd l1 3 ∧ jadd l1 3 < ((jsl E : Nat) : Int)) ((f_M_type v33.2 (jlor (jlshl (jsx E (jadd l1 1).toNat) 32) (jland (jsx E (jadd l1 2).toNat) 4294967295)) (jsx E (jadd l1 3).toNat)).bind fun v34 => if v33.1 = v34.1 then f_L_law_lp18 E k n (jadd l1 5) v34.2 else some (0, v34.2))))))) else if jand (jsx E l1.toNat) 31 = 16 then (f_X_read h2).bind fun v35 => (f_M_read v35.2).bind fun v36 => if v35.1 = v36.1 then f_L_law_lp18 E k n (jadd l1 5) v36.2 else some (0, v36.2) else if jand (jsx E l1.toNat) 31 = 17 then (f_X_print h2).bind fun v37 => (f_M_print v37.2).bind fun v38 => if v37.1 = v38.1 then f_L_law_lp18 E k n (jadd l1 5) v38.2 else some (0, v38.2) else if jand (jsx E l1.toNat) 31 = 18 then jgd (0 ≤ jadd l1 1 ∧ jadd l1 1 < ((jsl E : Nat) : Int)) ((f_X_character h2 (jsx E (jadd l1 1).toNat)).bind fun v39 => jgd (0 ≤ jadd l1 1 ∧ jadd l1 1 < ((jsl E : Nat) : Int)) ((f_M_character h2 (jsx E (jadd l1 1).toNat)).bind fun v40 => if v39 = v40.1 then f_L_law_lp18 E k n (jadd l1 5) v40.2 else some (0, v40.2))) else if jand (jsx E l1.toNat) 31 = 19 then (f_X_check h2).bind fun v41 => (f_M_check v41.2).bind fun v42 => if v41.1 = v42.1 then f_L_law_lp18 E k n (jadd l1 5) v42.2 else some (0, v42.2) else f_L_law_lp18 E k n (jadd l1 5) h2)
def f_L_law (E : jE) (h : jH) : Option (Int × jH) := f_L_law_lp18 E (fun l43 h44 => some (1, h44)) 1000 0 h
set_option maxRecDepth 100000 in
set_option maxHeartbeats 4000000 in
theorem f_L_law_lp18_ok (E : jE) (hE : (jsl E : Int) < 2147483648 ∧ ∀ j, ok32 (jsx E j)) {k : Int → jH → Option (Int × jH)} (hk : ∀ (l1 : Int) (h2 : jH) (res : Int × jH), k l1 h2 = some res → jG E M_L_law 583 [] [] h2 (some (0, res.1)) res.2) : ∀ (n : Nat) (l1 : Int) (h2 : jH) (res : Int × jH), f_L_law_lp18 E k n l1 h2 = some res → jG E M_L_law 18 [(0, (3, ((0 : Nat) : Int))), (1, (2, ((0 : Nat) : Int))), (2, (2, ((24 : Nat) : Int))), (3, (0, l1))] [] h2 (some (0, res.1)) res.2 := by
  intro n
  induction n with
  | zero => intro l1 h2 res hv; cases hv
  | succ n ih =>
    intro l1 h2 res hv
    rw [f_L_law_lp18] at hv
    refine jG.blk (st_L_law) 2 (pc1 := 20) (L1 := [(0, (3, ((0 : Nat) : Int))), (1, (2, ((0 : Nat) : Int))), (2, (2, ((24 : Nat) : Int))), (3, (0, l1))]) (st1 := [(3, ((0 : Nat) : Int)), (0, l1)]) (h1 := h2) rfl ?_
    refine jT.xlen (x := 0) (st_L_law) rfl (by decide) hE.1 ?_
    refine jG.blk (st_L_law) 2 (pc1 := 23) (L1 := [(0, (3, ((0 : Nat) : Int))), (1, (2, ((0 : Nat) : Int))), (2, (2, ((24 : Nat) : Int))), (3, (0, l1))]) (st1 := [(0, jsub ((jsl E : Nat) : Int) 5), (0, l1)]) (h1 := h2) rfl ?_
    refine jT.if2 (st_L_law) rfl (tgt := 583) (by decide) (fun hc => ?_) (fun hc => ?_)
    · have hc : jsub ((jsl E : Nat) : Int) 5 < l1 := hc
      try rw [if_pos hc] at hv
      refine jG.subp [] (L1 := []) rfl ?_
      exact hk _ _ _ hv
    · have hc : ¬ (jsub ((jsl E : Nat) : Int) 5 < l1) := hc
      try rw [if_neg hc] at hv
      refine jG.blk (st_L_law) 2 (pc1 := 28) (L1 := [(0, (3, ((0 : Nat) : Int))), (1, (2, ((0 : Nat) : Int))), (2, (2, ((24 : Nat) : Int))), (3, (0, l1))]) (st1 := [(0, l1), (3, ((0 : Nat) : Int))]) (h1 := h2) rfl ?_
      obtain ⟨hg, hv⟩ := jgd_some hv
      refine jT.xald (x := 0) (st_L_law) rfl (by decide) rfl hE.1 hg.1 hg.2 (hE.2 _) ?_
      refine jG.blk (st_L_law) 2 (pc1 := 32) (L1 := [(0, (3, ((0 : Nat) : Int))), (1, (2, ((0 : Nat) : Int))), (2, (2, ((24 : Nat) : Int))), (3, (0, l1))]) (st1 := [(0, jand (jsx E l1.toNat) 31)]) (h1 := h2) rfl ?_
      by_cases hn0 : jand (jsx E l1.toNat) 31 = 0
      · try rw [if_pos hn0] at hv
        refine jT.tswI (st_L_law) rfl (by omega) (by omega) (off := 96) (by rw [hn0]; rfl) (tgt := 128) (by decide) ?_
        refine jG.blk (st_L_law) 1 (pc1 := 129) (L1 := [(0, (3, ((0 : Nat) : Int))), (1, (2, ((0 : Nat) : Int))), (2, (2, ((24 : Nat) : Int))), (3, (0, l1))]) (st1 := [(2, ((0 : Nat) : Int))]) (h1 := h2) rfl ?_
        obtain ⟨v3, hq, hv⟩ := Option.bind_eq_some_iff.mp hv
        refine jT.cV (M1 := M_X_clear) (2, ((0 : Nat) : Int)) [] [] (st_L_law) rfl rfl ok_X_clear rfl (Or.inl ⟨rfl, _, _, _, rfl, rfl⟩) (Nat.le_of_ble_eq_true rfl) (Nat.le_of_ble_eq_true rfl) rfl (Nat.le_of_ble_eq_true rfl) (C_X_clear hq) ?_
        show jG E _ 132 [(0, (3, ((0 : Nat) : Int))), (1, (2, ((0 : Nat) : Int))), (2, (2, ((24 : Nat) : Int))), (3, (0, l1))] [] v3 _ _
        refine jG.blk (st_L_law) 1 (pc1 := 133) (L1 := [(0, (3, ((0 : Nat) : Int))), (1, (2, ((0 : Nat) : Int))), (2, (2, ((24 : Nat) : Int))), (3, (0, l1))]) (st1 := [(2, ((24 : Nat) : Int))]) (h1 := v3) rfl ?_
        obtain ⟨v4, hq, hv⟩ := Option.bind_eq_some_iff.mp hv
        refine jT.cV (M1 := M_M_clear) (2, ((24 : Nat) : Int)) [] [] (st_L_law) rfl rfl ok_M_clear rfl (Or.inl ⟨rfl, _, _, _, rfl, rfl⟩) (Nat.le_of_ble_eq_true rfl) (Nat.le_of_ble_eq_true rfl) rfl (Nat.le_of_ble_eq_true rfl) (C_M_clear hq) ?_
        show jG E _ 136 [(0, (3, ((0 : Nat) : Int))), (1, (2, ((0 : Nat) : Int))), (2, (2, ((24 : Nat) : Int))), (3, (0, l1))] [] v4 _ _
        refine jT.goto (st_L_law) rfl (tgt := 577) (by decide) ?_
        refine jG.blk (st_L_law) 1 (pc1 := 580) (L1 := [(3, (0, jadd l1 5)), (0, (3, ((0 : Nat) : Int))), (1, (2, ((0 : Nat) : Int))), (2, (2, ((24 : Nat) : Int)))]) (st1 := []) (h1 := v4) rfl ?_
        refine jT.goto (st_L_law) rfl (tgt := 18) (by decide) ?_
        refine jG.subp [1, 2, 3, 0] (L1 := [(0, (3, ((0 : Nat) : Int))), (1, (2, ((0 : Nat) : Int))), (2, (2, ((24 : Nat) : Int))), (3, (0, jadd l1 5))]) rfl ?_
        exact ih _ _ _ hv
      · try rw [if_neg hn0] at hv
        by_cases hn1 : jand (jsx E l1.toNat) 31 = 1
        · try rw [if_pos hn1] at hv
          refine jT.tswI (st_L_law) rfl (by omega) (by omega) (off := 107) (by rw [hn1]; rfl) (tgt := 139) (by decide) ?_
          refine jG.blk (st_L_law) 5 (pc1 := 144) (L1 := [(0, (3, ((0 : Nat) : Int))), (1, (2, ((0 : Nat) : Int))), (2, (2, ((24 : Nat) : Int))), (3, (0, l1))]) (st1 := [(0, jadd l1 1), (3, ((0 : Nat) : Int)), (2, ((0 : Nat) : Int))]) (h1 := h2) rfl ?_
          obtain ⟨hg, hv⟩ := jgd_some hv
          refine jT.xald (x := 0) (st_L_law) rfl (by decide) rfl hE.1 hg.1 hg.2 (hE.2 _) ?_
          refine jG.blk (st_L_law) 4 (pc1 := 149) (L1 := [(0, (3, ((0 : Nat) : Int))), (1, (2, ((0 : Nat) : Int))), (2, (2, ((24 : Nat) : Int))), (3, (0, l1))]) (st1 := [(0, jadd l1 2), (3, ((0 : Nat) : Int)), (0, jsx E (jadd l1 1).toNat), (2, ((0 : Nat) : Int))]) (h1 := h2) rfl ?_
          obtain ⟨hg, hv⟩ := jgd_some hv
          refine jT.xald (x := 0) (st_L_law) rfl (by decide) rfl hE.1 hg.1 hg.2 (hE.2 _) ?_
          obtain ⟨v5, hq, hv⟩ := Option.bind_eq_some_iff.mp hv
          refine jT.cV (M1 := M_X_put) (2, ((0 : Nat) : Int)) [(0, jsx E (jadd l1 1).toNat), (0, jsx E (jadd l1 2).toNat)] [] (st_L_law) rfl rfl ok_X_put rfl (Or.inl ⟨rfl, _, _, _, rfl, rfl⟩) (Nat.le_of_ble_eq_true rfl) (Nat.le_of_ble_eq_true rfl) rfl (Nat.le_of_ble_eq_true rfl) (C_X_put hq) ?_
          show jG E _ 153 [(0, (3, ((0 : Nat) : Int))), (1, (2, ((0 : Nat) : Int))), (2, (2, ((24 : Nat) : Int))), (3, (0, l1))] [(0, v5.1)] v5.2 _ _
          refine jG.blk (st_L_law) 5 (pc1 := 158) (L1 := [(0, (3, ((0 : Nat) : Int))), (1, (2, ((0 : Nat) : Int))), (2, (2, ((24 : Nat) : Int))), (3, (0, l1))]) (st1 := [(0, jadd l1 1), (3, ((0 : Nat) : Int)), (2, ((24 : Nat) : Int)), (0, v5.1)]) (h1 := v5.2) rfl ?_
          obtain ⟨hg, hv⟩ := jgd_some hv
          refine jT.xald (x := 0) (st_L_law) rfl (by decide) rfl hE.1 hg.1 hg.2 (hE.2 _) ?_
          refine jG.blk (st_L_law) 4 (pc1 := 163) (L1 := [(0, (3, ((0 : Nat) : Int))), (1, (2, ((0 : Nat) : Int))), (2, (2, ((24 : Nat) : Int))), (3, (0, l1))]) (st1 := [(0, jadd l1 2), (3, ((0 : Nat) : Int)), (0, jsx E (jadd l1 1).toNat), (2, ((24 : Nat) : Int)), (0, v5.1)]) (h1 := v5.2) rfl ?_
          obtain ⟨hg, hv⟩ := jgd_some hv
          refine jT.xald (x := 0) (st_L_law) rfl (by decide) rfl hE.1 hg.1 hg.2 (hE.2 _) ?_
          obtain ⟨v6, hq, hv⟩ := Option.bind_eq_some_iff.mp hv
          refine jT.cV (M1 := M_M_put) (2, ((24 : Nat) : Int)) [(0, jsx E (jadd l1 1).toNat), (0, jsx E (jadd l1 2).toNat)] [(0, v5.1)] (st_L_law) rfl rfl ok_M_put rfl (Or.inl ⟨rfl, _, _, _, rfl, rfl⟩) (Nat.le_of_ble_eq_true rfl) (Nat.le_of_ble_eq_true rfl) rfl (Nat.le_of_ble_eq_true rfl) (C_M_put hq) ?_
          show jG E _ 167 [(0, (3, ((0 : Nat) : Int))), (1, (2, ((0 : Nat) : Int))), (2, (2, ((24 : Nat) : Int))), (3, (0, l1))] [(0, v6.1), (0, v5.1)] v6.2 _ _
          refine jT.if2 (st_L_law) rfl (tgt := 577) (by decide) (fun hc => ?_) (fun hc => ?_)
          · have hc : v5.1 = v6.1 := hc
            try rw [if_pos hc] at hv
            refine jG.blk (st_L_law) 1 (pc1 := 580) (L1 := [(3, (0, jadd l1 5)), (0, (3, ((0 : Nat) : Int))), (1, (2, ((0 : Nat) : Int))), (2, (2, ((24 : Nat) : Int)))]) (st1 := []) (h1 := v6.2) rfl ?_
            refine jT.goto (st_L_law) rfl (tgt := 18) (by decide) ?_
            refine jG.subp [1, 2, 3, 0] (L1 := [(0, (3, ((0 : Nat) : Int))), (1, (2, ((0 : Nat) : Int))), (2, (2, ((24 : Nat) : Int))), (3, (0, jadd l1 5))]) rfl ?_
            exact ih _ _ _ hv
          · have hc : ¬ (v5.1 = v6.1) := hc
            try rw [if_neg hc] at hv
            refine jG.blk (st_L_law) 1 (pc1 := 171) (L1 := [(0, (3, ((0 : Nat) : Int))), (1, (2, ((0 : Nat) : Int))), (2, (2, ((24 : Nat) : Int))), (3, (0, l1))]) (st1 := [(0, 0)]) (h1 := v6.2) rfl ?_
            cases hv
            exact jT.iret (st_L_law) rfl (Or.inl rfl)
        · try rw [if_neg hn1] at hv
          by_cases hn2 : jand (jsx E l1.toNat) 31 = 2
          · try rw [if_pos hn2] at hv
            refine jT.tswI (st_L_law) rfl (by omega) (by omega) (off := 140) (by rw [hn2]; rfl) (tgt := 172) (by decide) ?_
            refine jG.blk (st_L_law) 5 (pc1 := 177) (L1 := [(0, (3, ((0 : Nat) : Int))), (1, (2, ((0 : Nat) : Int))), (2, (2, ((24 : Nat) : Int))), (3, (0, l1))]) (st1 := [(0, jadd l1 1), (3, ((0 : Nat) : Int)), (2, ((0 : Nat) : Int))]) (h1 := h2) rfl ?_
            obtain ⟨hg, hv⟩ := jgd_some hv
            refine jT.xald (x := 0) (st_L_law) rfl (by decide) rfl hE.1 hg.1 hg.2 (hE.2 _) ?_
            refine jG.blk (st_L_law) 4 (pc1 := 182) (L1 := [(0, (3, ((0 : Nat) : Int))), (1, (2, ((0 : Nat) : Int))), (2, (2, ((24 : Nat) : Int))), (3, (0, l1))]) (st1 := [(0, jadd l1 2), (3, ((0 : Nat) : Int)), (0, jsx E (jadd l1 1).toNat), (2, ((0 : Nat) : Int))]) (h1 := h2) rfl ?_
            obtain ⟨hg, hv⟩ := jgd_some hv
            refine jT.xald (x := 0) (st_L_law) rfl (by decide) rfl hE.1 hg.1 hg.2 (hE.2 _) ?_
            refine jG.blk (st_L_law) 4 (pc1 := 187) (L1 := [(0, (3, ((0 : Nat) : Int))), (1, (2, ((0 : Nat) : Int))), (2, (2, ((24 : Nat) : Int))), (3, (0, l1))]) (st1 := [(0, jadd l1 3), (3, ((0 : Nat) : Int)), (0, jsx E (jadd l1 2).toNat), (0, jsx E (jadd l1 1).toNat), (2, ((0 : Nat) : Int))]) (h1 := h2) rfl ?_
            obtain ⟨hg, hv⟩ := jgd_some hv
            refine jT.xald (x := 0) (st_L_law) rfl (by decide) rfl hE.1 hg.1 hg.2 (hE.2 _) ?_
            refine jG.blk (st_L_law) 4 (pc1 := 192) (L1 := [(0, (3, ((0 : Nat) : Int))), (1, (2, ((0 : Nat) : Int))), (2, (2, ((24 : Nat) : Int))), (3, (0, l1))]) (st1 := [(0, jadd l1 4), (3, ((0 : Nat) : Int)), (0, jsx E (jadd l1 3).toNat), (0, jsx E (jadd l1 2).toNat), (0, jsx E (jadd l1 1).toNat), (2, ((0 : Nat) : Int))]) (h1 := h2) rfl ?_
            obtain ⟨hg, hv⟩ := jgd_some hv
            refine jT.xald (x := 0) (st_L_law) rfl (by decide) rfl hE.1 hg.1 hg.2 (hE.2 _) ?_
            obtain ⟨v7, hq, hv⟩ := Option.bind_eq_some_iff.mp hv
            refine jT.cV (M1 := M_X_set) (2, ((0 : Nat) : Int)) [(0, jsx E (jadd l1 1).toNat), (0, jsx E (jadd l1 2).toNat), (0, jsx E (jadd l1 3).toNat), (0, jsx E (jadd l1 4).toNat)] [] (st_L_law) rfl rfl ok_X_set rfl (Or.inl ⟨rfl, _, _, _, rfl, rfl⟩) (Nat.le_of_ble_eq_true rfl) (Nat.le_of_ble_eq_true rfl) rfl (Nat.le_of_ble_eq_true rfl) (C_X_set hq) ?_
            show jG E _ 196 [(0, (3, ((0 : Nat) : Int))), (1, (2, ((0 : Nat) : Int))), (2, (2, ((24 : Nat) : Int))), (3, (0, l1))] [(0, v7.1)] v7.2 _ _
            refine jG.blk (st_L_law) 5 (pc1 := 201) (L1 := [(0, (3, ((0 : Nat) : Int))), (1, (2, ((0 : Nat) : Int))), (2, (2, ((24 : Nat) : Int))), (3, (0, l1))]) (st1 := [(0, jadd l1 1), (3, ((0 : Nat) : Int)), (2, ((24 : Nat) : Int)), (0, v7.1)]) (h1 := v7.2) rfl ?_
            obtain ⟨hg, hv⟩ := jgd_some hv
            refine jT.xald (x := 0) (st_L_law) rfl (by decide) rfl hE.1 hg.1 hg.2 (hE.2 _) ?_
            refine jG.blk (st_L_law) 4 (pc1 := 206) (L1 := [(0, (3, ((0 : Nat) : Int))), (1, (2, ((0 : Nat) : Int))), (2, (2, ((24 : Nat) : Int))), (3, (0, l1))]) (st1 := [(0, jadd l1 2), (3, ((0 : Nat) : Int)), (0, jsx E (jadd l1 1).toNat), (2, ((24 : Nat) : Int)), (0, v7.1)]) (h1 := v7.2) rfl ?_
            obtain ⟨hg, hv⟩ := jgd_some hv
            refine jT.xald (x := 0) (st_L_law) rfl (by decide) rfl hE.1 hg.1 hg.2 (hE.2 _) ?_
            refine jG.blk (st_L_law) 4 (pc1 := 211) (L1 := [(0, (3, ((0 : Nat) : Int))), (1, (2, ((0 : Nat) : Int))), (2, (2, ((24 : Nat) : Int))), (3, (0, l1))]) (st1 := [(0, jadd l1 3), (3, ((0 : Nat) : Int)), (0, jsx E (jadd l1 2).toNat), (0, jsx E (jadd l1 1).toNat), (2, ((24 : Nat) : Int)), (0, v7.1)]) (h1 := v7.2) rfl ?_
            obtain ⟨hg, hv⟩ := jgd_some hv
            refine jT.xald (x := 0) (st_L_law) rfl (by decide) rfl hE.1 hg.1 hg.2 (hE.2 _) ?_
            refine jG.blk (st_L_law) 4 (pc1 := 216) (L1 := [(0, (3, ((0 : Nat) : Int))), (1, (2, ((0 : Nat) : Int))), (2, (2, ((24 : Nat) : Int))), (3, (0, l1))]) (st1 := [(0, jadd l1 4), (3, ((0 : Nat) : Int)), (0, jsx E (jadd l1 3).toNat), (0, jsx E (jadd l1 2).toNat), (0, jsx E (jadd l1 1).toNat), (2, ((24 : Nat) : Int)), (0, v7.1)]) (h1 := v7.2) rfl ?_
            obtain ⟨hg, hv⟩ := jgd_some hv
            refine jT.xald (x := 0) (st_L_law) rfl (by decide) rfl hE.1 hg.1 hg.2 (hE.2 _) ?_
            obtain ⟨v8, hq, hv⟩ := Option.bind_eq_some_iff.mp hv
            refine jT.cV (M1 := M_M_set) (2, ((24 : Nat) : Int)) [(0, jsx E (jadd l1 1).toNat), (0, jsx E (jadd l1 2).toNat), (0, jsx E (jadd l1 3).toNat), (0, jsx E (jadd l1 4).toNat)] [(0, v7.1)] (st_L_law) rfl rfl ok_M_set rfl (Or.inl ⟨rfl, _, _, _, rfl, rfl⟩) (Nat.le_of_ble_eq_true rfl) (Nat.le_of_ble_eq_true rfl) rfl (Nat.le_of_ble_eq_true rfl) (C_M_set hq) ?_
            show jG E _ 220 [(0, (3, ((0 : Nat) : Int))), (1, (2, ((0 : Nat) : Int))), (2, (2, ((24 : Nat) : Int))), (3, (0, l1))] [(0, v8.1), (0, v7.1)] v8.2 _ _
            refine jT.if2 (st_L_law) rfl (tgt := 577) (by decide) (fun hc => ?_) (fun hc => ?_)
            · have hc : v7.1 = v8.1 := hc
              try rw [if_pos hc] at hv
              refine jG.blk (st_L_law) 1 (pc1 := 580) (L1 := [(3, (0, jadd l1 5)), (0, (3, ((0 : Nat) : Int))), (1, (2, ((0 : Nat) : Int))), (2, (2, ((24 : Nat) : Int)))]) (st1 := []) (h1 := v8.2) rfl ?_
              refine jT.goto (st_L_law) rfl (tgt := 18) (by decide) ?_
              refine jG.subp [1, 2, 3, 0] (L1 := [(0, (3, ((0 : Nat) : Int))), (1, (2, ((0 : Nat) : Int))), (2, (2, ((24 : Nat) : Int))), (3, (0, jadd l1 5))]) rfl ?_
              exact ih _ _ _ hv
            · have hc : ¬ (v7.1 = v8.1) := hc
              try rw [if_neg hc] at hv
              refine jG.blk (st_L_law) 1 (pc1 := 224) (L1 := [(0, (3, ((0 : Nat) : Int))), (1, (2, ((0 : Nat) : Int))), (2, (2, ((24 : Nat) : Int))), (3, (0, l1))]) (st1 := [(0, 0)]) (h1 := v8.2) rfl ?_
              cases hv
              exact jT.iret (st_L_law) rfl (Or.inl rfl)
          · try rw [if_neg hn2] at hv
            by_cases hn3 : jand (jsx E l1.toNat) 31 = 3
            · try rw [if_pos hn3] at hv
              refine jT.tswI (st_L_law) rfl (by omega) (by omega) (off := 193) (by rw [hn3]; rfl) (tgt := 225) (by decide) ?_
              refine jG.blk (st_L_law) 5 (pc1 := 230) (L1 := [(0, (3, ((0 : Nat) : Int))), (1, (2, ((0 : Nat) : Int))), (2, (2, ((24 : Nat) : Int))), (3, (0, l1))]) (st1 := [(0, jadd l1 1), (3, ((0 : Nat) : Int)), (2, ((0 : Nat) : Int))]) (h1 := h2) rfl ?_
              obtain ⟨hg, hv⟩ := jgd_some hv
              refine jT.xald (x := 0) (st_L_law) rfl (by decide) rfl hE.1 hg.1 hg.2 (hE.2 _) ?_
              obtain ⟨v9, hq, hv⟩ := Option.bind_eq_some_iff.mp hv
              refine jT.cV (M1 := M_X_at) (2, ((0 : Nat) : Int)) [(0, jsx E (jadd l1 1).toNat)] [] (st_L_law) rfl rfl ok_X_at rfl (Or.inl ⟨rfl, _, _, _, rfl, rfl⟩) (Nat.le_of_ble_eq_true rfl) (Nat.le_of_ble_eq_true rfl) rfl (Nat.le_of_ble_eq_true rfl) (C_X_at hq) ?_
              show jG E _ 234 [(0, (3, ((0 : Nat) : Int))), (1, (2, ((0 : Nat) : Int))), (2, (2, ((24 : Nat) : Int))), (3, (0, l1))] [(0, v9)] h2 _ _
              refine jG.blk (st_L_law) 5 (pc1 := 239) (L1 := [(0, (3, ((0 : Nat) : Int))), (1, (2, ((0 : Nat) : Int))), (2, (2, ((24 : Nat) : Int))), (3, (0, l1))]) (st1 := [(0, jadd l1 1), (3, ((0 : Nat) : Int)), (2, ((24 : Nat) : Int)), (0, v9)]) (h1 := h2) rfl ?_
              obtain ⟨hg, hv⟩ := jgd_some hv
              refine jT.xald (x := 0) (st_L_law) rfl (by decide) rfl hE.1 hg.1 hg.2 (hE.2 _) ?_
              obtain ⟨v10, hq, hv⟩ := Option.bind_eq_some_iff.mp hv
              refine jT.cV (M1 := M_M_at) (2, ((24 : Nat) : Int)) [(0, jsx E (jadd l1 1).toNat)] [(0, v9)] (st_L_law) rfl rfl ok_M_at rfl (Or.inl ⟨rfl, _, _, _, rfl, rfl⟩) (Nat.le_of_ble_eq_true rfl) (Nat.le_of_ble_eq_true rfl) rfl (Nat.le_of_ble_eq_true rfl) (C_M_at hq) ?_
              show jG E _ 243 [(0, (3, ((0 : Nat) : Int))), (1, (2, ((0 : Nat) : Int))), (2, (2, ((24 : Nat) : Int))), (3, (0, l1))] [(0, v10.1), (0, v9)] v10.2 _ _
              refine jT.if2 (st_L_law) rfl (tgt := 577) (by decide) (fun hc => ?_) (fun hc => ?_)
              · have hc : v9 = v10.1 := hc
                try rw [if_pos hc] at hv
                refine jG.blk (st_L_law) 1 (pc1 := 580) (L1 := [(3, (0, jadd l1 5)), (0, (3, ((0 : Nat) : Int))), (1, (2, ((0 : Nat) : Int))), (2, (2, ((24 : Nat) : Int)))]) (st1 := []) (h1 := v10.2) rfl ?_
                refine jT.goto (st_L_law) rfl (tgt := 18) (by decide) ?_
                refine jG.subp [1, 2, 3, 0] (L1 := [(0, (3, ((0 : Nat) : Int))), (1, (2, ((0 : Nat) : Int))), (2, (2, ((24 : Nat) : Int))), (3, (0, jadd l1 5))]) rfl ?_
                exact ih _ _ _ hv
              · have hc : ¬ (v9 = v10.1) := hc
                try rw [if_neg hc] at hv
                refine jG.blk (st_L_law) 1 (pc1 := 247) (L1 := [(0, (3, ((0 : Nat) : Int))), (1, (2, ((0 : Nat) : Int))), (2, (2, ((24 : Nat) : Int))), (3, (0, l1))]) (st1 := [(0, 0)]) (h1 := v10.2) rfl ?_
                cases hv
                exact jT.iret (st_L_law) rfl (Or.inl rfl)
            · try rw [if_neg hn3] at hv
              by_cases hn4 : jand (jsx E l1.toNat) 31 = 4
              · try rw [if_pos hn4] at hv
                refine jT.tswI (st_L_law) rfl (by omega) (by omega) (off := 216) (by rw [hn4]; rfl) (tgt := 248) (by decide) ?_
                refine jG.blk (st_L_law) 5 (pc1 := 253) (L1 := [(0, (3, ((0 : Nat) : Int))), (1, (2, ((0 : Nat) : Int))), (2, (2, ((24 : Nat) : Int))), (3, (0, l1))]) (st1 := [(0, jadd l1 1), (3, ((0 : Nat) : Int)), (2, ((0 : Nat) : Int))]) (h1 := h2) rfl ?_
                obtain ⟨hg, hv⟩ := jgd_some hv
                refine jT.xald (x := 0) (st_L_law) rfl (by decide) rfl hE.1 hg.1 hg.2 (hE.2 _) ?_
                obtain ⟨v11, hq, hv⟩ := Option.bind_eq_some_iff.mp hv
                refine jT.cV (M1 := M_X_state) (2, ((0 : Nat) : Int)) [(0, jsx E (jadd l1 1).toNat)] [] (st_L_law) rfl rfl ok_X_state rfl (Or.inl ⟨rfl, _, _, _, rfl, rfl⟩) (Nat.le_of_ble_eq_true rfl) (Nat.le_of_ble_eq_true rfl) rfl (Nat.le_of_ble_eq_true rfl) (C_X_state hq) ?_
                show jG E _ 257 [(0, (3, ((0 : Nat) : Int))), (1, (2, ((0 : Nat) : Int))), (2, (2, ((24 : Nat) : Int))), (3, (0, l1))] [(0, v11)] h2 _ _
                refine jG.blk (st_L_law) 5 (pc1 := 262) (L1 := [(0, (3, ((0 : Nat) : Int))), (1, (2, ((0 : Nat) : Int))), (2, (2, ((24 : Nat) : Int))), (3, (0, l1))]) (st1 := [(0, jadd l1 1), (3, ((0 : Nat) : Int)), (2, ((24 : Nat) : Int)), (0, v11)]) (h1 := h2) rfl ?_
                obtain ⟨hg, hv⟩ := jgd_some hv
                refine jT.xald (x := 0) (st_L_law) rfl (by decide) rfl hE.1 hg.1 hg.2 (hE.2 _) ?_
                obtain ⟨v12, hq, hv⟩ := Option.bind_eq_some_iff.mp hv
                refine jT.cV (M1 := M_M_state) (2, ((24 : Nat) : Int)) [(0, jsx E (jadd l1 1).toNat)] [(0, v11)] (st_L_law) rfl rfl ok_M_state rfl (Or.inl ⟨rfl, _, _, _, rfl, rfl⟩) (Nat.le_of_ble_eq_true rfl) (Nat.le_of_ble_eq_true rfl) rfl (Nat.le_of_ble_eq_true rfl) (C_M_state hq) ?_
                show jG E _ 266 [(0, (3, ((0 : Nat) : Int))), (1, (2, ((0 : Nat) : Int))), (2, (2, ((24 : Nat) : Int))), (3, (0, l1))] [(0, v12.1), (0, v11)] v12.2 _ _
                refine jT.if2 (st_L_law) rfl (tgt := 577) (by decide) (fun hc => ?_) (fun hc => ?_)
                · have hc : v11 = v12.1 := hc
                  try rw [if_pos hc] at hv
                  refine jG.blk (st_L_law) 1 (pc1 := 580) (L1 := [(3, (0, jadd l1 5)), (0, (3, ((0 : Nat) : Int))), (1, (2, ((0 : Nat) : Int))), (2, (2, ((24 : Nat) : Int)))]) (st1 := []) (h1 := v12.2) rfl ?_
                  refine jT.goto (st_L_law) rfl (tgt := 18) (by decide) ?_
                  refine jG.subp [1, 2, 3, 0] (L1 := [(0, (3, ((0 : Nat) : Int))), (1, (2, ((0 : Nat) : Int))), (2, (2, ((24 : Nat) : Int))), (3, (0, jadd l1 5))]) rfl ?_
                  exact ih _ _ _ hv
                · have hc : ¬ (v11 = v12.1) := hc
                  try rw [if_neg hc] at hv
                  refine jG.blk (st_L_law) 1 (pc1 := 270) (L1 := [(0, (3, ((0 : Nat) : Int))), (1, (2, ((0 : Nat) : Int))), (2, (2, ((24 : Nat) : Int))), (3, (0, l1))]) (st1 := [(0, 0)]) (h1 := v12.2) rfl ?_
                  cases hv
                  exact jT.iret (st_L_law) rfl (Or.inl rfl)
              · try rw [if_neg hn4] at hv
                by_cases hn5 : jand (jsx E l1.toNat) 31 = 5
                · try rw [if_pos hn5] at hv
                  refine jT.tswI (st_L_law) rfl (by omega) (by omega) (off := 239) (by rw [hn5]; rfl) (tgt := 271) (by decide) ?_
                  refine jG.blk (st_L_law) 1 (pc1 := 272) (L1 := [(0, (3, ((0 : Nat) : Int))), (1, (2, ((0 : Nat) : Int))), (2, (2, ((24 : Nat) : Int))), (3, (0, l1))]) (st1 := [(2, ((0 : Nat) : Int))]) (h1 := h2) rfl ?_
                  obtain ⟨v13, hq, hv⟩ := Option.bind_eq_some_iff.mp hv
                  refine jT.cV (M1 := M_X_moves) (2, ((0 : Nat) : Int)) [] [] (st_L_law) rfl rfl ok_X_moves rfl (Or.inl ⟨rfl, _, _, _, rfl, rfl⟩) (Nat.le_of_ble_eq_true rfl) (Nat.le_of_ble_eq_true rfl) rfl (Nat.le_of_ble_eq_true rfl) (C_X_moves hq) ?_
                  show jG E _ 275 [(0, (3, ((0 : Nat) : Int))), (1, (2, ((0 : Nat) : Int))), (2, (2, ((24 : Nat) : Int))), (3, (0, l1))] [(0, v13.1)] v13.2 _ _
                  refine jG.blk (st_L_law) 1 (pc1 := 276) (L1 := [(0, (3, ((0 : Nat) : Int))), (1, (2, ((0 : Nat) : Int))), (2, (2, ((24 : Nat) : Int))), (3, (0, l1))]) (st1 := [(2, ((24 : Nat) : Int)), (0, v13.1)]) (h1 := v13.2) rfl ?_
                  obtain ⟨v14, hq, hv⟩ := Option.bind_eq_some_iff.mp hv
                  refine jT.cV (M1 := M_M_moves) (2, ((24 : Nat) : Int)) [] [(0, v13.1)] (st_L_law) rfl rfl ok_M_moves rfl (Or.inl ⟨rfl, _, _, _, rfl, rfl⟩) (Nat.le_of_ble_eq_true rfl) (Nat.le_of_ble_eq_true rfl) rfl (Nat.le_of_ble_eq_true rfl) (C_M_moves hq) ?_
                  show jG E _ 279 [(0, (3, ((0 : Nat) : Int))), (1, (2, ((0 : Nat) : Int))), (2, (2, ((24 : Nat) : Int))), (3, (0, l1))] [(0, v14.1), (0, v13.1)] v14.2 _ _
                  refine jT.if2 (st_L_law) rfl (tgt := 577) (by decide) (fun hc => ?_) (fun hc => ?_)
                  · have hc : v13.1 = v14.1 := hc
                    try rw [if_pos hc] at hv
                    refine jG.blk (st_L_law) 1 (pc1 := 580) (L1 := [(3, (0, jadd l1 5)), (0, (3, ((0 : Nat) : Int))), (1, (2, ((0 : Nat) : Int))), (2, (2, ((24 : Nat) : Int)))]) (st1 := []) (h1 := v14.2) rfl ?_
                    refine jT.goto (st_L_law) rfl (tgt := 18) (by decide) ?_
                    refine jG.subp [1, 2, 3, 0] (L1 := [(0, (3, ((0 : Nat) : Int))), (1, (2, ((0 : Nat) : Int))), (2, (2, ((24 : Nat) : Int))), (3, (0, jadd l1 5))]) rfl ?_
                    exact ih _ _ _ hv
                  · have hc : ¬ (v13.1 = v14.1) := hc
                    try rw [if_neg hc] at hv
                    refine jG.blk (st_L_law) 1 (pc1 := 283) (L1 := [(0, (3, ((0 : Nat) : Int))), (1, (2, ((0 : Nat) : Int))), (2, (2, ((24 : Nat) : Int))), (3, (0, l1))]) (st1 := [(0, 0)]) (h1 := v14.2) rfl ?_
                    cases hv
                    exact jT.iret (st_L_law) rfl (Or.inl rfl)
                · try rw [if_neg hn5] at hv
                  by_cases hn6 : jand (jsx E l1.toNat) 31 = 6
                  · try rw [if_pos hn6] at hv
                    refine jT.tswI (st_L_law) rfl (by omega) (by omega) (off := 252) (by rw [hn6]; rfl) (tgt := 284) (by decide) ?_
                    refine jG.blk (st_L_law) 5 (pc1 := 289) (L1 := [(0, (3, ((0 : Nat) : Int))), (1, (2, ((0 : Nat) : Int))), (2, (2, ((24 : Nat) : Int))), (3, (0, l1))]) (st1 := [(0, jadd l1 1), (3, ((0 : Nat) : Int)), (2, ((0 : Nat) : Int))]) (h1 := h2) rfl ?_
                    obtain ⟨hg, hv⟩ := jgd_some hv
                    refine jT.xald (x := 0) (st_L_law) rfl (by decide) rfl hE.1 hg.1 hg.2 (hE.2 _) ?_
                    obtain ⟨v15, hq, hv⟩ := Option.bind_eq_some_iff.mp hv
                    refine jT.cV (M1 := M_X_move) (2, ((0 : Nat) : Int)) [(0, jsx E (jadd l1 1).toNat)] [] (st_L_law) rfl rfl ok_X_move rfl (Or.inl ⟨rfl, _, _, _, rfl, rfl⟩) (Nat.le_of_ble_eq_true rfl) (Nat.le_of_ble_eq_true rfl) rfl (Nat.le_of_ble_eq_true rfl) (C_X_move hq) ?_
                    show jG E _ 293 [(0, (3, ((0 : Nat) : Int))), (1, (2, ((0 : Nat) : Int))), (2, (2, ((24 : Nat) : Int))), (3, (0, l1))] [(0, v15.1)] v15.2 _ _
                    refine jG.blk (st_L_law) 5 (pc1 := 298) (L1 := [(0, (3, ((0 : Nat) : Int))), (1, (2, ((0 : Nat) : Int))), (2, (2, ((24 : Nat) : Int))), (3, (0, l1))]) (st1 := [(0, jadd l1 1), (3, ((0 : Nat) : Int)), (2, ((24 : Nat) : Int)), (0, v15.1)]) (h1 := v15.2) rfl ?_
                    obtain ⟨hg, hv⟩ := jgd_some hv
                    refine jT.xald (x := 0) (st_L_law) rfl (by decide) rfl hE.1 hg.1 hg.2 (hE.2 _) ?_
                    obtain ⟨v16, hq, hv⟩ := Option.bind_eq_some_iff.mp hv
                    refine jT.cV (M1 := M_M_move) (2, ((24 : Nat) : Int)) [(0, jsx E (jadd l1 1).toNat)] [(0, v15.1)] (st_L_law) rfl rfl ok_M_move rfl (Or.inl ⟨rfl, _, _, _, rfl, rfl⟩) (Nat.le_of_ble_eq_true rfl) (Nat.le_of_ble_eq_true rfl) rfl (Nat.le_of_ble_eq_true rfl) (C_M_move hq) ?_
                    show jG E _ 302 [(0, (3, ((0 : Nat) : Int))), (1, (2, ((0 : Nat) : Int))), (2, (2, ((24 : Nat) : Int))), (3, (0, l1))] [(0, v16.1), (0, v15.1)] v16.2 _ _
                    refine jT.if2 (st_L_law) rfl (tgt := 577) (by decide) (fun hc => ?_) (fun hc => ?_)
                    · have hc : v15.1 = v16.1 := hc
                      try rw [if_pos hc] at hv
                      refine jG.blk (st_L_law) 1 (pc1 := 580) (L1 := [(3, (0, jadd l1 5)), (0, (3, ((0 : Nat) : Int))), (1, (2, ((0 : Nat) : Int))), (2, (2, ((24 : Nat) : Int)))]) (st1 := []) (h1 := v16.2) rfl ?_
                      refine jT.goto (st_L_law) rfl (tgt := 18) (by decide) ?_
                      refine jG.subp [1, 2, 3, 0] (L1 := [(0, (3, ((0 : Nat) : Int))), (1, (2, ((0 : Nat) : Int))), (2, (2, ((24 : Nat) : Int))), (3, (0, jadd l1 5))]) rfl ?_
                      exact ih _ _ _ hv
                    · have hc : ¬ (v15.1 = v16.1) := hc
                      try rw [if_neg hc] at hv
                      refine jG.blk (st_L_law) 1 (pc1 := 306) (L1 := [(0, (3, ((0 : Nat) : Int))), (1, (2, ((0 : Nat) : Int))), (2, (2, ((24 : Nat) : Int))), (3, (0, l1))]) (st1 := [(0, 0)]) (h1 := v16.2) rfl ?_
                      cases hv
                      exact jT.iret (st_L_law) rfl (Or.inl rfl)
                  · try rw [if_neg hn6] at hv
                    by_cases hn7 : jand (jsx E l1.toNat) 31 = 7
                    · try rw [if_pos hn7] at hv
                      refine jT.tswI (st_L_law) rfl (by omega) (by omega) (off := 275) (by rw [hn7]; rfl) (tgt := 307) (by decide) ?_
                      refine jG.blk (st_L_law) 5 (pc1 := 312) (L1 := [(0, (3, ((0 : Nat) : Int))), (1, (2, ((0 : Nat) : Int))), (2, (2, ((24 : Nat) : Int))), (3, (0, l1))]) (st1 := [(0, jadd l1 1), (3, ((0 : Nat) : Int)), (2, ((0 : Nat) : Int))]) (h1 := h2) rfl ?_
                      obtain ⟨hg, hv⟩ := jgd_some hv
                      refine jT.xald (x := 0) (st_L_law) rfl (by decide) rfl hE.1 hg.1 hg.2 (hE.2 _) ?_
                      obtain ⟨v17, hq, hv⟩ := Option.bind_eq_some_iff.mp hv
                      refine jT.cV (M1 := M_X_make) (2, ((0 : Nat) : Int)) [(0, jsx E (jadd l1 1).toNat)] [] (st_L_law) rfl rfl ok_X_make rfl (Or.inl ⟨rfl, _, _, _, rfl, rfl⟩) (Nat.le_of_ble_eq_true rfl) (Nat.le_of_ble_eq_true rfl) rfl (Nat.le_of_ble_eq_true rfl) (C_X_make hq) ?_
                      show jG E _ 316 [(0, (3, ((0 : Nat) : Int))), (1, (2, ((0 : Nat) : Int))), (2, (2, ((24 : Nat) : Int))), (3, (0, l1))] [(0, v17.1)] v17.2 _ _
                      refine jG.blk (st_L_law) 5 (pc1 := 321) (L1 := [(0, (3, ((0 : Nat) : Int))), (1, (2, ((0 : Nat) : Int))), (2, (2, ((24 : Nat) : Int))), (3, (0, l1))]) (st1 := [(0, jadd l1 1), (3, ((0 : Nat) : Int)), (2, ((24 : Nat) : Int)), (0, v17.1)]) (h1 := v17.2) rfl ?_
                      obtain ⟨hg, hv⟩ := jgd_some hv
                      refine jT.xald (x := 0) (st_L_law) rfl (by decide) rfl hE.1 hg.1 hg.2 (hE.2 _) ?_
                      obtain ⟨v18, hq, hv⟩ := Option.bind_eq_some_iff.mp hv
                      refine jT.cV (M1 := M_M_make) (2, ((24 : Nat) : Int)) [(0, jsx E (jadd l1 1).toNat)] [(0, v17.1)] (st_L_law) rfl rfl ok_M_make rfl (Or.inl ⟨rfl, _, _, _, rfl, rfl⟩) (Nat.le_of_ble_eq_true rfl) (Nat.le_of_ble_eq_true rfl) rfl (Nat.le_of_ble_eq_true rfl) (C_M_make hq) ?_
                      show jG E _ 325 [(0, (3, ((0 : Nat) : Int))), (1, (2, ((0 : Nat) : Int))), (2, (2, ((24 : Nat) : Int))), (3, (0, l1))] [(0, v18.1), (0, v17.1)] v18.2 _ _
                      refine jT.if2 (st_L_law) rfl (tgt := 577) (by decide) (fun hc => ?_) (fun hc => ?_)
                      · have hc : v17.1 = v18.1 := hc
                        try rw [if_pos hc] at hv
                        refine jG.blk (st_L_law) 1 (pc1 := 580) (L1 := [(3, (0, jadd l1 5)), (0, (3, ((0 : Nat) : Int))), (1, (2, ((0 : Nat) : Int))), (2, (2, ((24 : Nat) : Int)))]) (st1 := []) (h1 := v18.2) rfl ?_
                        refine jT.goto (st_L_law) rfl (tgt := 18) (by decide) ?_
                        refine jG.subp [1, 2, 3, 0] (L1 := [(0, (3, ((0 : Nat) : Int))), (1, (2, ((0 : Nat) : Int))), (2, (2, ((24 : Nat) : Int))), (3, (0, jadd l1 5))]) rfl ?_
                        exact ih _ _ _ hv
                      · have hc : ¬ (v17.1 = v18.1) := hc
                        try rw [if_neg hc] at hv
                        refine jG.blk (st_L_law) 1 (pc1 := 329) (L1 := [(0, (3, ((0 : Nat) : Int))), (1, (2, ((0 : Nat) : Int))), (2, (2, ((24 : Nat) : Int))), (3, (0, l1))]) (st1 := [(0, 0)]) (h1 := v18.2) rfl ?_
                        cases hv
                        exact jT.iret (st_L_law) rfl (Or.inl rfl)
                    · try rw [if_neg hn7] at hv
                      by_cases hn8 : jand (jsx E l1.toNat) 31 = 8
                      · try rw [if_pos hn8] at hv
                        refine jT.tswI (st_L_law) rfl (by omega) (by omega) (off := 298) (by rw [hn8]; rfl) (tgt := 330) (by decide) ?_
                        refine jG.blk (st_L_law) 1 (pc1 := 331) (L1 := [(0, (3, ((0 : Nat) : Int))), (1, (2, ((0 : Nat) : Int))), (2, (2, ((24 : Nat) : Int))), (3, (0, l1))]) (st1 := [(2, ((0 : Nat) : Int))]) (h1 := h2) rfl ?_
                        obtain ⟨v19, hq, hv⟩ := Option.bind_eq_some_iff.mp hv
                        refine jT.cV (M1 := M_X_back) (2, ((0 : Nat) : Int)) [] [] (st_L_law) rfl rfl ok_X_back rfl (Or.inl ⟨rfl, _, _, _, rfl, rfl⟩) (Nat.le_of_ble_eq_true rfl) (Nat.le_of_ble_eq_true rfl) rfl (Nat.le_of_ble_eq_true rfl) (C_X_back hq) ?_
                        show jG E _ 334 [(0, (3, ((0 : Nat) : Int))), (1, (2, ((0 : Nat) : Int))), (2, (2, ((24 : Nat) : Int))), (3, (0, l1))] [(0, v19.1)] v19.2 _ _
                        refine jG.blk (st_L_law) 1 (pc1 := 335) (L1 := [(0, (3, ((0 : Nat) : Int))), (1, (2, ((0 : Nat) : Int))), (2, (2, ((24 : Nat) : Int))), (3, (0, l1))]) (st1 := [(2, ((24 : Nat) : Int)), (0, v19.1)]) (h1 := v19.2) rfl ?_
                        obtain ⟨v20, hq, hv⟩ := Option.bind_eq_some_iff.mp hv
                        refine jT.cV (M1 := M_M_back) (2, ((24 : Nat) : Int)) [] [(0, v19.1)] (st_L_law) rfl rfl ok_M_back rfl (Or.inl ⟨rfl, _, _, _, rfl, rfl⟩) (Nat.le_of_ble_eq_true rfl) (Nat.le_of_ble_eq_true rfl) rfl (Nat.le_of_ble_eq_true rfl) (C_M_back hq) ?_
                        show jG E _ 338 [(0, (3, ((0 : Nat) : Int))), (1, (2, ((0 : Nat) : Int))), (2, (2, ((24 : Nat) : Int))), (3, (0, l1))] [(0, v20.1), (0, v19.1)] v20.2 _ _
                        refine jT.if2 (st_L_law) rfl (tgt := 577) (by decide) (fun hc => ?_) (fun hc => ?_)
                        · have hc : v19.1 = v20.1 := hc
                          try rw [if_pos hc] at hv
                          refine jG.blk (st_L_law) 1 (pc1 := 580) (L1 := [(3, (0, jadd l1 5)), (0, (3, ((0 : Nat) : Int))), (1, (2, ((0 : Nat) : Int))), (2, (2, ((24 : Nat) : Int)))]) (st1 := []) (h1 := v20.2) rfl ?_
                          refine jT.goto (st_L_law) rfl (tgt := 18) (by decide) ?_
                          refine jG.subp [1, 2, 3, 0] (L1 := [(0, (3, ((0 : Nat) : Int))), (1, (2, ((0 : Nat) : Int))), (2, (2, ((24 : Nat) : Int))), (3, (0, jadd l1 5))]) rfl ?_
                          exact ih _ _ _ hv
                        · have hc : ¬ (v19.1 = v20.1) := hc
                          try rw [if_neg hc] at hv
                          refine jG.blk (st_L_law) 1 (pc1 := 342) (L1 := [(0, (3, ((0 : Nat) : Int))), (1, (2, ((0 : Nat) : Int))), (2, (2, ((24 : Nat) : Int))), (3, (0, l1))]) (st1 := [(0, 0)]) (h1 := v20.2) rfl ?_
                          cases hv
                          exact jT.iret (st_L_law) rfl (Or.inl rfl)
                      · try rw [if_neg hn8] at hv
                        by_cases hn9 : jand (jsx E l1.toNat) 31 = 9
                        · try rw [if_pos hn9] at hv
                          refine jT.tswI (st_L_law) rfl (by omega) (by omega) (off := 311) (by rw [hn9]; rfl) (tgt := 343) (by decide) ?_
                          refine jG.blk (st_L_law) 5 (pc1 := 348) (L1 := [(0, (3, ((0 : Nat) : Int))), (1, (2, ((0 : Nat) : Int))), (2, (2, ((24 : Nat) : Int))), (3, (0, l1))]) (st1 := [(0, jadd l1 1), (3, ((0 : Nat) : Int)), (2, ((0 : Nat) : Int))]) (h1 := h2) rfl ?_
                          obtain ⟨hg, hv⟩ := jgd_some hv
                          refine jT.xald (x := 0) (st_L_law) rfl (by decide) rfl hE.1 hg.1 hg.2 (hE.2 _) ?_
                          refine jG.blk (st_L_law) 4 (pc1 := 353) (L1 := [(0, (3, ((0 : Nat) : Int))), (1, (2, ((0 : Nat) : Int))), (2, (2, ((24 : Nat) : Int))), (3, (0, l1))]) (st1 := [(0, jadd l1 2), (3, ((0 : Nat) : Int)), (0, jsx E (jadd l1 1).toNat), (2, ((0 : Nat) : Int))]) (h1 := h2) rfl ?_
                          obtain ⟨hg, hv⟩ := jgd_some hv
                          refine jT.xald (x := 0) (st_L_law) rfl (by decide) rfl hE.1 hg.1 hg.2 (hE.2 _) ?_
                          obtain ⟨v21, hq, hv⟩ := Option.bind_eq_some_iff.mp hv
                          refine jT.cV (M1 := M_X_attackers) (2, ((0 : Nat) : Int)) [(0, jsx E (jadd l1 1).toNat), (0, jsx E (jadd l1 2).toNat)] [] (st_L_law) rfl rfl ok_X_attackers rfl (Or.inl ⟨rfl, _, _, _, rfl, rfl⟩) (Nat.le_of_ble_eq_true rfl) (Nat.le_of_ble_eq_true rfl) rfl (Nat.le_of_ble_eq_true rfl) (C_X_attackers hq) ?_
                          show jG E _ 357 [(0, (3, ((0 : Nat) : Int))), (1, (2, ((0 : Nat) : Int))), (2, (2, ((24 : Nat) : Int))), (3, (0, l1))] [(1, v21)] h2 _ _
                          refine jG.blk (st_L_law) 5 (pc1 := 362) (L1 := [(0, (3, ((0 : Nat) : Int))), (1, (2, ((0 : Nat) : Int))), (2, (2, ((24 : Nat) : Int))), (3, (0, l1))]) (st1 := [(0, jadd l1 1), (3, ((0 : Nat) : Int)), (2, ((24 : Nat) : Int)), (1, v21)]) (h1 := h2) rfl ?_
                          obtain ⟨hg, hv⟩ := jgd_some hv
                          refine jT.xald (x := 0) (st_L_law) rfl (by decide) rfl hE.1 hg.1 hg.2 (hE.2 _) ?_
                          refine jG.blk (st_L_law) 4 (pc1 := 367) (L1 := [(0, (3, ((0 : Nat) : Int))), (1, (2, ((0 : Nat) : Int))), (2, (2, ((24 : Nat) : Int))), (3, (0, l1))]) (st1 := [(0, jadd l1 2), (3, ((0 : Nat) : Int)), (0, jsx E (jadd l1 1).toNat), (2, ((24 : Nat) : Int)), (1, v21)]) (h1 := h2) rfl ?_
                          obtain ⟨hg, hv⟩ := jgd_some hv
                          refine jT.xald (x := 0) (st_L_law) rfl (by decide) rfl hE.1 hg.1 hg.2 (hE.2 _) ?_
                          obtain ⟨v22, hq, hv⟩ := Option.bind_eq_some_iff.mp hv
                          refine jT.cV (M1 := M_M_attackers) (2, ((24 : Nat) : Int)) [(0, jsx E (jadd l1 1).toNat), (0, jsx E (jadd l1 2).toNat)] [(1, v21)] (st_L_law) rfl rfl ok_M_attackers rfl (Or.inl ⟨rfl, _, _, _, rfl, rfl⟩) (Nat.le_of_ble_eq_true rfl) (Nat.le_of_ble_eq_true rfl) rfl (Nat.le_of_ble_eq_true rfl) (C_M_attackers hq) ?_
                          show jG E _ 371 [(0, (3, ((0 : Nat) : Int))), (1, (2, ((0 : Nat) : Int))), (2, (2, ((24 : Nat) : Int))), (3, (0, l1))] [(1, v22.1), (1, v21)] v22.2 _ _
                          refine jG.blk (st_L_law) 1 (pc1 := 372) (L1 := [(0, (3, ((0 : Nat) : Int))), (1, (2, ((0 : Nat) : Int))), (2, (2, ((24 : Nat) : Int))), (3, (0, l1))]) (st1 := [(0, jcmp v21 v22.1)]) (h1 := v22.2) rfl ?_
                          refine jT.if1 (st_L_law) rfl (tgt := 577) (by decide) (fun hc => ?_) (fun hc => ?_)
                          · have hc : jcmp v21 v22.1 = 0 := hc
                            try rw [if_pos hc] at hv
                            refine jG.blk (st_L_law) 1 (pc1 := 580) (L1 := [(3, (0, jadd l1 5)), (0, (3, ((0 : Nat) : Int))), (1, (2, ((0 : Nat) : Int))), (2, (2, ((24 : Nat) : Int)))]) (st1 := []) (h1 := v22.2) rfl ?_
                            refine jT.goto (st_L_law) rfl (tgt := 18) (by decide) ?_
                            refine jG.subp [1, 2, 3, 0] (L1 := [(0, (3, ((0 : Nat) : Int))), (1, (2, ((0 : Nat) : Int))), (2, (2, ((24 : Nat) : Int))), (3, (0, jadd l1 5))]) rfl ?_
                            exact ih _ _ _ hv
                          · have hc : ¬ (jcmp v21 v22.1 = 0) := hc
                            try rw [if_neg hc] at hv
                            refine jG.blk (st_L_law) 1 (pc1 := 376) (L1 := [(0, (3, ((0 : Nat) : Int))), (1, (2, ((0 : Nat) : Int))), (2, (2, ((24 : Nat) : Int))), (3, (0, l1))]) (st1 := [(0, 0)]) (h1 := v22.2) rfl ?_
                            cases hv
                            exact jT.iret (st_L_law) rfl (Or.inl rfl)
                        · try rw [if_neg hn9] at hv
                          by_cases hn10 : jand (jsx E l1.toNat) 31 = 10
                          · try rw [if_pos hn10] at hv
                            refine jT.tswI (st_L_law) rfl (by omega) (by omega) (off := 345) (by rw [hn10]; rfl) (tgt := 377) (by decide) ?_
                            refine jG.blk (st_L_law) 1 (pc1 := 378) (L1 := [(0, (3, ((0 : Nat) : Int))), (1, (2, ((0 : Nat) : Int))), (2, (2, ((24 : Nat) : Int))), (3, (0, l1))]) (st1 := [(2, ((0 : Nat) : Int))]) (h1 := h2) rfl ?_
                            obtain ⟨v23, hq, hv⟩ := Option.bind_eq_some_iff.mp hv
                            refine jT.cV (M1 := M_X_checked) (2, ((0 : Nat) : Int)) [] [] (st_L_law) rfl rfl ok_X_checked rfl (Or.inl ⟨rfl, _, _, _, rfl, rfl⟩) (Nat.le_of_ble_eq_true rfl) (Nat.le_of_ble_eq_true rfl) rfl (Nat.le_of_ble_eq_true rfl) (C_X_checked hq) ?_
                            show jG E _ 381 [(0, (3, ((0 : Nat) : Int))), (1, (2, ((0 : Nat) : Int))), (2, (2, ((24 : Nat) : Int))), (3, (0, l1))] [(0, v23)] h2 _ _
                            refine jG.blk (st_L_law) 1 (pc1 := 382) (L1 := [(0, (3, ((0 : Nat) : Int))), (1, (2, ((0 : Nat) : Int))), (2, (2, ((24 : Nat) : Int))), (3, (0, l1))]) (st1 := [(2, ((24 : Nat) : Int)), (0, v23)]) (h1 := h2) rfl ?_
                            obtain ⟨v24, hq, hv⟩ := Option.bind_eq_some_iff.mp hv
                            refine jT.cV (M1 := M_M_checked) (2, ((24 : Nat) : Int)) [] [(0, v23)] (st_L_law) rfl rfl ok_M_checked rfl (Or.inl ⟨rfl, _, _, _, rfl, rfl⟩) (Nat.le_of_ble_eq_true rfl) (Nat.le_of_ble_eq_true rfl) rfl (Nat.le_of_ble_eq_true rfl) (C_M_checked hq) ?_
                            show jG E _ 385 [(0, (3, ((0 : Nat) : Int))), (1, (2, ((0 : Nat) : Int))), (2, (2, ((24 : Nat) : Int))), (3, (0, l1))] [(0, v24.1), (0, v23)] v24.2 _ _
                            refine jT.if2 (st_L_law) rfl (tgt := 577) (by decide) (fun hc => ?_) (fun hc => ?_)
                            · have hc : v23 = v24.1 := hc
                              try rw [if_pos hc] at hv
                              refine jG.blk (st_L_law) 1 (pc1 := 580) (L1 := [(3, (0, jadd l1 5)), (0, (3, ((0 : Nat) : Int))), (1, (2, ((0 : Nat) : Int))), (2, (2, ((24 : Nat) : Int)))]) (st1 := []) (h1 := v24.2) rfl ?_
                              refine jT.goto (st_L_law) rfl (tgt := 18) (by decide) ?_
                              refine jG.subp [1, 2, 3, 0] (L1 := [(0, (3, ((0 : Nat) : Int))), (1, (2, ((0 : Nat) : Int))), (2, (2, ((24 : Nat) : Int))), (3, (0, jadd l1 5))]) rfl ?_
                              exact ih _ _ _ hv
                            · have hc : ¬ (v23 = v24.1) := hc
                              try rw [if_neg hc] at hv
                              refine jG.blk (st_L_law) 1 (pc1 := 389) (L1 := [(0, (3, ((0 : Nat) : Int))), (1, (2, ((0 : Nat) : Int))), (2, (2, ((24 : Nat) : Int))), (3, (0, l1))]) (st1 := [(0, 0)]) (h1 := v24.2) rfl ?_
                              cases hv
                              exact jT.iret (st_L_law) rfl (Or.inl rfl)
                          · try rw [if_neg hn10] at hv
                            by_cases hn11 : jand (jsx E l1.toNat) 31 = 11
                            · try rw [if_pos hn11] at hv
                              refine jT.tswI (st_L_law) rfl (by omega) (by omega) (off := 358) (by rw [hn11]; rfl) (tgt := 390) (by decide) ?_
                              refine jG.blk (st_L_law) 1 (pc1 := 391) (L1 := [(0, (3, ((0 : Nat) : Int))), (1, (2, ((0 : Nat) : Int))), (2, (2, ((24 : Nat) : Int))), (3, (0, l1))]) (st1 := [(2, ((0 : Nat) : Int))]) (h1 := h2) rfl ?_
                              obtain ⟨v25, hq, hv⟩ := Option.bind_eq_some_iff.mp hv
                              refine jT.cV (M1 := M_X_status) (2, ((0 : Nat) : Int)) [] [] (st_L_law) rfl rfl ok_X_status rfl (Or.inl ⟨rfl, _, _, _, rfl, rfl⟩) (Nat.le_of_ble_eq_true rfl) (Nat.le_of_ble_eq_true rfl) rfl (Nat.le_of_ble_eq_true rfl) (C_X_status hq) ?_
                              show jG E _ 394 [(0, (3, ((0 : Nat) : Int))), (1, (2, ((0 : Nat) : Int))), (2, (2, ((24 : Nat) : Int))), (3, (0, l1))] [(0, v25.1)] v25.2 _ _
                              refine jG.blk (st_L_law) 1 (pc1 := 395) (L1 := [(0, (3, ((0 : Nat) : Int))), (1, (2, ((0 : Nat) : Int))), (2, (2, ((24 : Nat) : Int))), (3, (0, l1))]) (st1 := [(2, ((24 : Nat) : Int)), (0, v25.1)]) (h1 := v25.2) rfl ?_
                              obtain ⟨v26, hq, hv⟩ := Option.bind_eq_some_iff.mp hv
                              refine jT.cV (M1 := M_M_status) (2, ((24 : Nat) : Int)) [] [(0, v25.1)] (st_L_law) rfl rfl ok_M_status rfl (Or.inl ⟨rfl, _, _, _, rfl, rfl⟩) (Nat.le_of_ble_eq_true rfl) (Nat.le_of_ble_eq_true rfl) rfl (Nat.le_of_ble_eq_true rfl) (C_M_status hq) ?_
                              show jG E _ 398 [(0, (3, ((0 : Nat) : Int))), (1, (2, ((0 : Nat) : Int))), (2, (2, ((24 : Nat) : Int))), (3, (0, l1))] [(0, v26.1), (0, v25.1)] v26.2 _ _
                              refine jT.if2 (st_L_law) rfl (tgt := 577) (by decide) (fun hc => ?_) (fun hc => ?_)
                              · have hc : v25.1 = v26.1 := hc
                                try rw [if_pos hc] at hv
                                refine jG.blk (st_L_law) 1 (pc1 := 580) (L1 := [(3, (0, jadd l1 5)), (0, (3, ((0 : Nat) : Int))), (1, (2, ((0 : Nat) : Int))), (2, (2, ((24 : Nat) : Int)))]) (st1 := []) (h1 := v26.2) rfl ?_
                                refine jT.goto (st_L_law) rfl (tgt := 18) (by decide) ?_
                                refine jG.subp [1, 2, 3, 0] (L1 := [(0, (3, ((0 : Nat) : Int))), (1, (2, ((0 : Nat) : Int))), (2, (2, ((24 : Nat) : Int))), (3, (0, jadd l1 5))]) rfl ?_
                                exact ih _ _ _ hv
                              · have hc : ¬ (v25.1 = v26.1) := hc
                                try rw [if_neg hc] at hv
                                refine jG.blk (st_L_law) 1 (pc1 := 402) (L1 := [(0, (3, ((0 : Nat) : Int))), (1, (2, ((0 : Nat) : Int))), (2, (2, ((24 : Nat) : Int))), (3, (0, l1))]) (st1 := [(0, 0)]) (h1 := v26.2) rfl ?_
                                cases hv
                                exact jT.iret (st_L_law) rfl (Or.inl rfl)
                            · try rw [if_neg hn11] at hv
                              by_cases hn12 : jand (jsx E l1.toNat) 31 = 12
                              · try rw [if_pos hn12] at hv
                                refine jT.tswI (st_L_law) rfl (by omega) (by omega) (off := 371) (by rw [hn12]; rfl) (tgt := 403) (by decide) ?_
                                refine jG.blk (st_L_law) 1 (pc1 := 404) (L1 := [(0, (3, ((0 : Nat) : Int))), (1, (2, ((0 : Nat) : Int))), (2, (2, ((24 : Nat) : Int))), (3, (0, l1))]) (st1 := [(2, ((0 : Nat) : Int))]) (h1 := h2) rfl ?_
                                obtain ⟨v27, hq, hv⟩ := Option.bind_eq_some_iff.mp hv
                                refine jT.cV (M1 := M_X_seen) (2, ((0 : Nat) : Int)) [] [] (st_L_law) rfl rfl ok_X_seen rfl (Or.inl ⟨rfl, _, _, _, rfl, rfl⟩) (Nat.le_of_ble_eq_true rfl) (Nat.le_of_ble_eq_true rfl) rfl (Nat.le_of_ble_eq_true rfl) (C_X_seen hq) ?_
                                show jG E _ 407 [(0, (3, ((0 : Nat) : Int))), (1, (2, ((0 : Nat) : Int))), (2, (2, ((24 : Nat) : Int))), (3, (0, l1))] [(0, v27)] h2 _ _
                                refine jG.blk (st_L_law) 1 (pc1 := 408) (L1 := [(0, (3, ((0 : Nat) : Int))), (1, (2, ((0 : Nat) : Int))), (2, (2, ((24 : Nat) : Int))), (3, (0, l1))]) (st1 := [(2, ((24 : Nat) : Int)), (0, v27)]) (h1 := h2) rfl ?_
                                obtain ⟨v28, hq, hv⟩ := Option.bind_eq_some_iff.mp hv
                                refine jT.cV (M1 := M_M_seen) (2, ((24 : Nat) : Int)) [] [(0, v27)] (st_L_law) rfl rfl ok_M_seen rfl (Or.inl ⟨rfl, _, _, _, rfl, rfl⟩) (Nat.le_of_ble_eq_true rfl) (Nat.le_of_ble_eq_true rfl) rfl (Nat.le_of_ble_eq_true rfl) (C_M_seen hq) ?_
                                show jG E _ 411 [(0, (3, ((0 : Nat) : Int))), (1, (2, ((0 : Nat) : Int))), (2, (2, ((24 : Nat) : Int))), (3, (0, l1))] [(0, v28.1), (0, v27)] v28.2 _ _
                                refine jT.if2 (st_L_law) rfl (tgt := 577) (by decide) (fun hc => ?_) (fun hc => ?_)
                                · have hc : v27 = v28.1 := hc
                                  try rw [if_pos hc] at hv
                                  refine jG.blk (st_L_law) 1 (pc1 := 580) (L1 := [(3, (0, jadd l1 5)), (0, (3, ((0 : Nat) : Int))), (1, (2, ((0 : Nat) : Int))), (2, (2, ((24 : Nat) : Int)))]) (st1 := []) (h1 := v28.2) rfl ?_
                                  refine jT.goto (st_L_law) rfl (tgt := 18) (by decide) ?_
                                  refine jG.subp [1, 2, 3, 0] (L1 := [(0, (3, ((0 : Nat) : Int))), (1, (2, ((0 : Nat) : Int))), (2, (2, ((24 : Nat) : Int))), (3, (0, jadd l1 5))]) rfl ?_
                                  exact ih _ _ _ hv
                                · have hc : ¬ (v27 = v28.1) := hc
                                  try rw [if_neg hc] at hv
                                  refine jG.blk (st_L_law) 1 (pc1 := 415) (L1 := [(0, (3, ((0 : Nat) : Int))), (1, (2, ((0 : Nat) : Int))), (2, (2, ((24 : Nat) : Int))), (3, (0, l1))]) (st1 := [(0, 0)]) (h1 := v28.2) rfl ?_
                                  cases hv
                                  exact jT.iret (st_L_law) rfl (Or.inl rfl)
                              · try rw [if_neg hn12] at hv
                                by_cases hn13 : jand (jsx E l1.toNat) 31 = 13
                                · try rw [if_pos hn13] at hv
                                  refine jT.tswI (st_L_law) rfl (by omega) (by omega) (off := 384) (by rw [hn13]; rfl) (tgt := 416) (by decide) ?_
                                  refine jG.blk (st_L_law) 5 (pc1 := 421) (L1 := [(0, (3, ((0 : Nat) : Int))), (1, (2, ((0 : Nat) : Int))), (2, (2, ((24 : Nat) : Int))), (3, (0, l1))]) (st1 := [(0, jadd l1 1), (3, ((0 : Nat) : Int)), (2, ((0 : Nat) : Int))]) (h1 := h2) rfl ?_
                                  obtain ⟨hg, hv⟩ := jgd_some hv
                                  refine jT.xald (x := 0) (st_L_law) rfl (by decide) rfl hE.1 hg.1 hg.2 (hE.2 _) ?_
                                  obtain ⟨v29, hq, hv⟩ := Option.bind_eq_some_iff.mp hv
                                  refine jT.cV (M1 := M_X_lines) (2, ((0 : Nat) : Int)) [(0, jsx E (jadd l1 1).toNat)] [] (st_L_law) rfl rfl ok_X_lines rfl (Or.inl ⟨rfl, _, _, _, rfl, rfl⟩) (Nat.le_of_ble_eq_true rfl) (Nat.le_of_ble_eq_true rfl) rfl (Nat.le_of_ble_eq_true rfl) (C_X_lines hq) ?_
                                  show jG E _ 425 [(0, (3, ((0 : Nat) : Int))), (1, (2, ((0 : Nat) : Int))), (2, (2, ((24 : Nat) : Int))), (3, (0, l1))] [(0, v29.1)] v29.2 _ _
                                  refine jG.blk (st_L_law) 5 (pc1 := 430) (L1 := [(0, (3, ((0 : Nat) : Int))), (1, (2, ((0 : Nat) : Int))), (2, (2, ((24 : Nat) : Int))), (3, (0, l1))]) (st1 := [(0, jadd l1 1), (3, ((0 : Nat) : Int)), (2, ((24 : Nat) : Int)), (0, v29.1)]) (h1 := v29.2) rfl ?_
                                  obtain ⟨hg, hv⟩ := jgd_some hv
                                  refine jT.xald (x := 0) (st_L_law) rfl (by decide) rfl hE.1 hg.1 hg.2 (hE.2 _) ?_
                                  obtain ⟨v30, hq, hv⟩ := Option.bind_eq_some_iff.mp hv
                                  refine jT.cV (M1 := M_M_lines) (2, ((24 : Nat) : Int)) [(0, jsx E (jadd l1 1).toNat)] [(0, v29.1)] (st_L_law) rfl rfl ok_M_lines rfl (Or.inl ⟨rfl, _, _, _, rfl, rfl⟩) (Nat.le_of_ble_eq_true rfl) (Nat.le_of_ble_eq_true rfl) rfl (Nat.le_of_ble_eq_true rfl) (C_M_lines hq) ?_
                                  show jG E _ 434 [(0, (3, ((0 : Nat) : Int))), (1, (2, ((0 : Nat) : Int))), (2, (2, ((24 : Nat) : Int))), (3, (0, l1))] [(0, v30.1), (0, v29.1)] v30.2 _ _
                                  refine jT.if2 (st_L_law) rfl (tgt := 577) (by decide) (fun hc => ?_) (fun hc => ?_)
                                  · have hc : v29.1 = v30.1 := hc
                                    try rw [if_pos hc] at hv
                                    refine jG.blk (st_L_law) 1 (pc1 := 580) (L1 := [(3, (0, jadd l1 5)), (0, (3, ((0 : Nat) : Int))), (1, (2, ((0 : Nat) : Int))), (2, (2, ((24 : Nat) : Int)))]) (st1 := []) (h1 := v30.2) rfl ?_
                                    refine jT.goto (st_L_law) rfl (tgt := 18) (by decide) ?_
                                    refine jG.subp [1, 2, 3, 0] (L1 := [(0, (3, ((0 : Nat) : Int))), (1, (2, ((0 : Nat) : Int))), (2, (2, ((24 : Nat) : Int))), (3, (0, jadd l1 5))]) rfl ?_
                                    exact ih _ _ _ hv
                                  · have hc : ¬ (v29.1 = v30.1) := hc
                                    try rw [if_neg hc] at hv
                                    refine jG.blk (st_L_law) 1 (pc1 := 438) (L1 := [(0, (3, ((0 : Nat) : Int))), (1, (2, ((0 : Nat) : Int))), (2, (2, ((24 : Nat) : Int))), (3, (0, l1))]) (st1 := [(0, 0)]) (h1 := v30.2) rfl ?_
                                    cases hv
                                    exact jT.iret (st_L_law) rfl (Or.inl rfl)
                                · try rw [if_neg hn13] at hv
                                  by_cases hn14 : jand (jsx E l1.toNat) 31 = 14
                                  · try rw [if_pos hn14] at hv
                                    refine jT.tswI (st_L_law) rfl (by omega) (by omega) (off := 407) (by rw [hn14]; rfl) (tgt := 439) (by decide) ?_
                                    refine jG.blk (st_L_law) 1 (pc1 := 440) (L1 := [(0, (3, ((0 : Nat) : Int))), (1, (2, ((0 : Nat) : Int))), (2, (2, ((24 : Nat) : Int))), (3, (0, l1))]) (st1 := [(2, ((0 : Nat) : Int))]) (h1 := h2) rfl ?_
                                    obtain ⟨v31, hq, hv⟩ := Option.bind_eq_some_iff.mp hv
                                    refine jT.cV (M1 := M_X_mates) (2, ((0 : Nat) : Int)) [] [] (st_L_law) rfl rfl ok_X_mates rfl (Or.inl ⟨rfl, _, _, _, rfl, rfl⟩) (Nat.le_of_ble_eq_true rfl) (Nat.le_of_ble_eq_true rfl) rfl (Nat.le_of_ble_eq_true rfl) (C_X_mates hq) ?_
                                    show jG E _ 443 [(0, (3, ((0 : Nat) : Int))), (1, (2, ((0 : Nat) : Int))), (2, (2, ((24 : Nat) : Int))), (3, (0, l1))] [(0, v31.1)] v31.2 _ _
                                    refine jG.blk (st_L_law) 1 (pc1 := 444) (L1 := [(0, (3, ((0 : Nat) : Int))), (1, (2, ((0 : Nat) : Int))), (2, (2, ((24 : Nat) : Int))), (3, (0, l1))]) (st1 := [(2, ((24 : Nat) : Int)), (0, v31.1)]) (h1 := v31.2) rfl ?_
                                    obtain ⟨v32, hq, hv⟩ := Option.bind_eq_some_iff.mp hv
                                    refine jT.cV (M1 := M_M_mates) (2, ((24 : Nat) : Int)) [] [(0, v31.1)] (st_L_law) rfl rfl ok_M_mates rfl (Or.inl ⟨rfl, _, _, _, rfl, rfl⟩) (Nat.le_of_ble_eq_true rfl) (Nat.le_of_ble_eq_true rfl) rfl (Nat.le_of_ble_eq_true rfl) (C_M_mates hq) ?_
                                    show jG E _ 447 [(0, (3, ((0 : Nat) : Int))), (1, (2, ((0 : Nat) : Int))), (2, (2, ((24 : Nat) : Int))), (3, (0, l1))] [(0, v32.1), (0, v31.1)] v32.2 _ _
                                    refine jT.if2 (st_L_law) rfl (tgt := 577) (by decide) (fun hc => ?_) (fun hc => ?_)
                                    · have hc : v31.1 = v32.1 := hc
                                      try rw [if_pos hc] at hv
                                      refine jG.blk (st_L_law) 1 (pc1 := 580) (L1 := [(3, (0, jadd l1 5)), (0, (3, ((0 : Nat) : Int))), (1, (2, ((0 : Nat) : Int))), (2, (2, ((24 : Nat) : Int)))]) (st1 := []) (h1 := v32.2) rfl ?_
                                      refine jT.goto (st_L_law) rfl (tgt := 18) (by decide) ?_
                                      refine jG.subp [1, 2, 3, 0] (L1 := [(0, (3, ((0 : Nat) : Int))), (1, (2, ((0 : Nat) : Int))), (2, (2, ((24 : Nat) : Int))), (3, (0, jadd l1 5))]) rfl ?_
                                      exact ih _ _ _ hv
                                    · have hc : ¬ (v31.1 = v32.1) := hc
                                      try rw [if_neg hc] at hv
                                      refine jG.blk (st_L_law) 1 (pc1 := 451) (L1 := [(0, (3, ((0 : Nat) : Int))), (1, (2, ((0 : Nat) : Int))), (2, (2, ((24 : Nat) : Int))), (3, (0, l1))]) (st1 := [(0, 0)]) (h1 := v32.2) rfl ?_
                                      cases hv
                                      exact jT.iret (st_L_law) rfl (Or.inl rfl)
                                  · try rw [if_neg hn14] at hv
                                    by_cases hn15 : jand (jsx E l1.toNat) 31 = 15
                                    · try rw [if_pos hn15] at hv
                                      refine jT.tswI (st_L_law) rfl (by omega) (by omega) (off := 420) (by rw [hn15]; rfl) (tgt := 452) (by decide) ?_
                                      refine jG.blk (st_L_law) 5 (pc1 := 457) (L1 := [(0, (3, ((0 : Nat) : Int))), (1, (2, ((0 : Nat) : Int))), (2, (2, ((24 : Nat) : Int))), (3, (0, l1))]) (st1 := [(0, jadd l1 1), (3, ((0 : Nat) : Int)), (2, ((0 : Nat) : Int))]) (h1 := h2) rfl ?_
                                      obtain ⟨hg, hv⟩ := jgd_some hv
                                      refine jT.xald (x := 0) (st_L_law) rfl (by decide) rfl hE.1 hg.1 hg.2 (hE.2 _) ?_
                                      refine jG.blk (st_L_law) 7 (pc1 := 466) (L1 := [(0, (3, ((0 : Nat) : Int))), (1, (2, ((0 : Nat) : Int))), (2, (2, ((24 : Nat) : Int))), (3, (0, l1))]) (st1 := [(0, jadd l1 2), (3, ((0 : Nat) : Int)), (1, jlshl (jsx E (jadd l1 1).toNat) 32), (2, ((0 : Nat) : Int))]) (h1 := h2) rfl ?_
                                      obtain ⟨hg, hv⟩ := jgd_some hv
                                      refine jT.xald (x := 0) (st_L_law) rfl (by decide) rfl hE.1 hg.1 hg.2 (hE.2 _) ?_
                                      refine jG.blk (st_L_law) 8 (pc1 := 477) (L1 := [(0, (3, ((0 : Nat) : Int))), (1, (2, ((0 : Nat) : Int))), (2, (2, ((24 : Nat) : Int))), (3, (0, l1))]) (st1 := [(0, jadd l1 3), (3, ((0 : Nat) : Int)), (1, jlor (jlshl (jsx E (jadd l1 1).toNat) 32) (jland (jsx E (jadd l1 2).toNat) 4294967295)), (2, ((0 : Nat) : Int))]) (h1 := h2) rfl ?_
                                      obtain ⟨hg, hv⟩ := jgd_some hv
                                      refine jT.xald (x := 0) (st_L_law) rfl (by decide) rfl hE.1 hg.1 hg.2 (hE.2 _) ?_
                                      obtain ⟨v33, hq, hv⟩ := Option.bind_eq_some_iff.mp hv
                                      refine jT.cV (M1 := M_X_type) (2, ((0 : Nat) : Int)) [(1, jlor (jlshl (jsx E (jadd l1 1).toNat) 32) (jland (jsx E (jadd l1 2).toNat) 4294967295)), (0, jsx E (jadd l1 3).toNat)] [] (st_L_law) rfl rfl ok_X_type rfl (Or.inl ⟨rfl, _, _, _, rfl, rfl⟩) (Nat.le_of_ble_eq_true rfl) (Nat.le_of_ble_eq_true rfl) rfl (Nat.le_of_ble_eq_true rfl) (C_X_type hq) ?_
                                      show jG E _ 481 [(0, (3, ((0 : Nat) : Int))), (1, (2, ((0 : Nat) : Int))), (2, (2, ((24 : Nat) : Int))), (3, (0, l1))] [(0, v33.1)] v33.2 _ _
                                      refine jG.blk (st_L_law) 5 (pc1 := 486) (L1 := [(0, (3, ((0 : Nat) : Int))), (1, (2, ((0 : Nat) : Int))), (2, (2, ((24 : Nat) : Int))), (3, (0, l1))]) (st1 := [(0, jadd l1 1), (3, ((0 : Nat) : Int)), (2, ((24 : Nat) : Int)), (0, v33.1)]) (h1 := v33.2) rfl ?_
                                      obtain ⟨hg, hv⟩ := jgd_some hv
                                      refine jT.xald (x := 0) (st_L_law) rfl (by decide) rfl hE.1 hg.1 hg.2 (hE.2 _) ?_
                                      refine jG.blk (st_L_law) 7 (pc1 := 495) (L1 := [(0, (3, ((0 : Nat) : Int))), (1, (2, ((0 : Nat) : Int))), (2, (2, ((24 : Nat) : Int))), (3, (0, l1))]) (st1 := [(0, jadd l1 2), (3, ((0 : Nat) : Int)), (1, jlshl (jsx E (jadd l1 1).toNat) 32), (2, ((24 : Nat) : Int)), (0, v33.1)]) (h1 := v33.2) rfl ?_
                                      obtain ⟨hg, hv⟩ := jgd_some hv
                                      refine jT.xald (x := 0) (st_L_law) rfl (by decide) rfl hE.1 hg.1 hg.2 (hE.2 _) ?_
                                      refine jG.blk (st_L_law) 8 (pc1 := 506) (L1 := [(0, (3, ((0 : Nat) : Int))), (1, (2, ((0 : Nat) : Int))), (2, (2, ((24 : Nat) : Int))), (3, (0, l1))]) (st1 := [(0, jadd l1 3), (3, ((0 : Nat) : Int)), (1, jlor (jlshl (jsx E (jadd l1 1).toNat) 32) (jland (jsx E (jadd l1 2).toNat) 4294967295)), (2, ((24 : Nat) : Int)), (0, v33.1)]) (h1 := v33.2) rfl ?_
                                      obtain ⟨hg, hv⟩ := jgd_some hv
                                      refine jT.xald (x := 0) (st_L_law) rfl (by decide) rfl hE.1 hg.1 hg.2 (hE.2 _) ?_
                                      obtain ⟨v34, hq, hv⟩ := Option.bind_eq_some_iff.mp hv
                                      refine jT.cV (M1 := M_M_type) (2, ((24 : Nat) : Int)) [(1, jlor (jlshl (jsx E (jadd l1 1).toNat) 32) (jland (jsx E (jadd l1 2).toNat) 4294967295)), (0, jsx E (jadd l1 3).toNat)] [(0, v33.1)] (st_L_law) rfl rfl ok_M_type rfl (Or.inl ⟨rfl, _, _, _, rfl, rfl⟩) (Nat.le_of_ble_eq_true rfl) (Nat.le_of_ble_eq_true rfl) rfl (Nat.le_of_ble_eq_true rfl) (C_M_type hq) ?_
                                      show jG E _ 510 [(0, (3, ((0 : Nat) : Int))), (1, (2, ((0 : Nat) : Int))), (2, (2, ((24 : Nat) : Int))), (3, (0, l1))] [(0, v34.1), (0, v33.1)] v34.2 _ _
                                      refine jT.if2 (st_L_law) rfl (tgt := 577) (by decide) (fun hc => ?_) (fun hc => ?_)
                                      · have hc : v33.1 = v34.1 := hc
                                        try rw [if_pos hc] at hv
                                        refine jG.blk (st_L_law) 1 (pc1 := 580) (L1 := [(3, (0, jadd l1 5)), (0, (3, ((0 : Nat) : Int))), (1, (2, ((0 : Nat) : Int))), (2, (2, ((24 : Nat) : Int)))]) (st1 := []) (h1 := v34.2) rfl ?_
                                        refine jT.goto (st_L_law) rfl (tgt := 18) (by decide) ?_
                                        refine jG.subp [1, 2, 3, 0] (L1 := [(0, (3, ((0 : Nat) : Int))), (1, (2, ((0 : Nat) : Int))), (2, (2, ((24 : Nat) : Int))), (3, (0, jadd l1 5))]) rfl ?_
                                        exact ih _ _ _ hv
                                      · have hc : ¬ (v33.1 = v34.1) := hc
                                        try rw [if_neg hc] at hv
                                        refine jG.blk (st_L_law) 1 (pc1 := 514) (L1 := [(0, (3, ((0 : Nat) : Int))), (1, (2, ((0 : Nat) : Int))), (2, (2, ((24 : Nat) : Int))), (3, (0, l1))]) (st1 := [(0, 0)]) (h1 := v34.2) rfl ?_
                                        cases hv
                                        exact jT.iret (st_L_law) rfl (Or.inl rfl)
                                    · try rw [if_neg hn15] at hv
                                      by_cases hn16 : jand (jsx E l1.toNat) 31 = 16
                                      · try rw [if_pos hn16] at hv
                                        refine jT.tswI (st_L_law) rfl (by omega) (by omega) (off := 483) (by rw [hn16]; rfl) (tgt := 515) (by decide) ?_
                                        refine jG.blk (st_L_law) 1 (pc1 := 516) (L1 := [(0, (3, ((0 : Nat) : Int))), (1, (2, ((0 : Nat) : Int))), (2, (2, ((24 : Nat) : Int))), (3, (0, l1))]) (st1 := [(2, ((0 : Nat) : Int))]) (h1 := h2) rfl ?_
                                        obtain ⟨v35, hq, hv⟩ := Option.bind_eq_some_iff.mp hv
                                        refine jT.cV (M1 := M_X_read) (2, ((0 : Nat) : Int)) [] [] (st_L_law) rfl rfl ok_X_read rfl (Or.inl ⟨rfl, _, _, _, rfl, rfl⟩) (Nat.le_of_ble_eq_true rfl) (Nat.le_of_ble_eq_true rfl) rfl (Nat.le_of_ble_eq_true rfl) (C_X_read hq) ?_
                                        show jG E _ 519 [(0, (3, ((0 : Nat) : Int))), (1, (2, ((0 : Nat) : Int))), (2, (2, ((24 : Nat) : Int))), (3, (0, l1))] [(0, v35.1)] v35.2 _ _
                                        refine jG.blk (st_L_law) 1 (pc1 := 520) (L1 := [(0, (3, ((0 : Nat) : Int))), (1, (2, ((0 : Nat) : Int))), (2, (2, ((24 : Nat) : Int))), (3, (0, l1))]) (st1 := [(2, ((24 : Nat) : Int)), (0, v35.1)]) (h1 := v35.2) rfl ?_
                                        obtain ⟨v36, hq, hv⟩ := Option.bind_eq_some_iff.mp hv
                                        refine jT.cV (M1 := M_M_read) (2, ((24 : Nat) : Int)) [] [(0, v35.1)] (st_L_law) rfl rfl ok_M_read rfl (Or.inl ⟨rfl, _, _, _, rfl, rfl⟩) (Nat.le_of_ble_eq_true rfl) (Nat.le_of_ble_eq_true rfl) rfl (Nat.le_of_ble_eq_true rfl) (C_M_read hq) ?_
                                        show jG E _ 523 [(0, (3, ((0 : Nat) : Int))), (1, (2, ((0 : Nat) : Int))), (2, (2, ((24 : Nat) : Int))), (3, (0, l1))] [(0, v36.1), (0, v35.1)] v36.2 _ _
                                        refine jT.if2 (st_L_law) rfl (tgt := 577) (by decide) (fun hc => ?_) (fun hc => ?_)
                                        · have hc : v35.1 = v36.1 := hc
                                          try rw [if_pos hc] at hv
                                          refine jG.blk (st_L_law) 1 (pc1 := 580) (L1 := [(3, (0, jadd l1 5)), (0, (3, ((0 : Nat) : Int))), (1, (2, ((0 : Nat) : Int))), (2, (2, ((24 : Nat) : Int)))]) (st1 := []) (h1 := v36.2) rfl ?_
                                          refine jT.goto (st_L_law) rfl (tgt := 18) (by decide) ?_
                                          refine jG.subp [1, 2, 3, 0] (L1 := [(0, (3, ((0 : Nat) : Int))), (1, (2, ((0 : Nat) : Int))), (2, (2, ((24 : Nat) : Int))), (3, (0, jadd l1 5))]) rfl ?_
                                          exact ih _ _ _ hv
                                        · have hc : ¬ (v35.1 = v36.1) := hc
                                          try rw [if_neg hc] at hv
                                          refine jG.blk (st_L_law) 1 (pc1 := 527) (L1 := [(0, (3, ((0 : Nat) : Int))), (1, (2, ((0 : Nat) : Int))), (2, (2, ((24 : Nat) : Int))), (3, (0, l1))]) (st1 := [(0, 0)]) (h1 := v36.2) rfl ?_
                                          cases hv
                                          exact jT.iret (st_L_law) rfl (Or.inl rfl)
                                      · try rw [if_neg hn16] at hv
                                        by_cases hn17 : jand (jsx E l1.toNat) 31 = 17
                                        · try rw [if_pos hn17] at hv
                                          refine jT.tswI (st_L_law) rfl (by omega) (by omega) (off := 496) (by rw [hn17]; rfl) (tgt := 528) (by decide) ?_
                                          refine jG.blk (st_L_law) 1 (pc1 := 529) (L1 := [(0, (3, ((0 : Nat) : Int))), (1, (2, ((0 : Nat) : Int))), (2, (2, ((24 : Nat) : Int))), (3, (0, l1))]) (st1 := [(2, ((0 : Nat) : Int))]) (h1 := h2) rfl ?_
                                          obtain ⟨v37, hq, hv⟩ := Option.bind_eq_some_iff.mp hv
                                          refine jT.cV (M1 := M_X_print) (2, ((0 : Nat) : Int)) [] [] (st_L_law) rfl rfl ok_X_print rfl (Or.inl ⟨rfl, _, _, _, rfl, rfl⟩) (Nat.le_of_ble_eq_true rfl) (Nat.le_of_ble_eq_true rfl) rfl (Nat.le_of_ble_eq_true rfl) (C_X_print hq) ?_
                                          show jG E _ 532 [(0, (3, ((0 : Nat) : Int))), (1, (2, ((0 : Nat) : Int))), (2, (2, ((24 : Nat) : Int))), (3, (0, l1))] [(0, v37.1)] v37.2 _ _
                                          refine jG.blk (st_L_law) 1 (pc1 := 533) (L1 := [(0, (3, ((0 : Nat) : Int))), (1, (2, ((0 : Nat) : Int))), (2, (2, ((24 : Nat) : Int))), (3, (0, l1))]) (st1 := [(2, ((24 : Nat) : Int)), (0, v37.1)]) (h1 := v37.2) rfl ?_
                                          obtain ⟨v38, hq, hv⟩ := Option.bind_eq_some_iff.mp hv
                                          refine jT.cV (M1 := M_M_print) (2, ((24 : Nat) : Int)) [] [(0, v37.1)] (st_L_law) rfl rfl ok_M_print rfl (Or.inl ⟨rfl, _, _, _, rfl, rfl⟩) (Nat.le_of_ble_eq_true rfl) (Nat.le_of_ble_eq_true rfl) rfl (Nat.le_of_ble_eq_true rfl) (C_M_print hq) ?_
                                          show jG E _ 536 [(0, (3, ((0 : Nat) : Int))), (1, (2, ((0 : Nat) : Int))), (2, (2, ((24 : Nat) : Int))), (3, (0, l1))] [(0, v38.1), (0, v37.1)] v38.2 _ _
                                          refine jT.if2 (st_L_law) rfl (tgt := 577) (by decide) (fun hc => ?_) (fun hc => ?_)
                                          · have hc : v37.1 = v38.1 := hc
                                            try rw [if_pos hc] at hv
                                            refine jG.blk (st_L_law) 1 (pc1 := 580) (L1 := [(3, (0, jadd l1 5)), (0, (3, ((0 : Nat) : Int))), (1, (2, ((0 : Nat) : Int))), (2, (2, ((24 : Nat) : Int)))]) (st1 := []) (h1 := v38.2) rfl ?_
                                            refine jT.goto (st_L_law) rfl (tgt := 18) (by decide) ?_
                                            refine jG.subp [1, 2, 3, 0] (L1 := [(0, (3, ((0 : Nat) : Int))), (1, (2, ((0 : Nat) : Int))), (2, (2, ((24 : Nat) : Int))), (3, (0, jadd l1 5))]) rfl ?_
                                            exact ih _ _ _ hv
                                          · have hc : ¬ (v37.1 = v38.1) := hc
                                            try rw [if_neg hc] at hv
                                            refine jG.blk (st_L_law) 1 (pc1 := 540) (L1 := [(0, (3, ((0 : Nat) : Int))), (1, (2, ((0 : Nat) : Int))), (2, (2, ((24 : Nat) : Int))), (3, (0, l1))]) (st1 := [(0, 0)]) (h1 := v38.2) rfl ?_
                                            cases hv
                                            exact jT.iret (st_L_law) rfl (Or.inl rfl)
                                        · try rw [if_neg hn17] at hv
                                          by_cases hn18 : jand (jsx E l1.toNat) 31 = 18
                                          · try rw [if_pos hn18] at hv
                                            refine jT.tswI (st_L_law) rfl (by omega) (by omega) (off := 509) (by rw [hn18]; rfl) (tgt := 541) (by decide) ?_
                                            refine jG.blk (st_L_law) 5 (pc1 := 546) (L1 := [(0, (3, ((0 : Nat) : Int))), (1, (2, ((0 : Nat) : Int))), (2, (2, ((24 : Nat) : Int))), (3, (0, l1))]) (st1 := [(0, jadd l1 1), (3, ((0 : Nat) : Int)), (2, ((0 : Nat) : Int))]) (h1 := h2) rfl ?_
                                            obtain ⟨hg, hv⟩ := jgd_some hv
                                            refine jT.xald (x := 0) (st_L_law) rfl (by decide) rfl hE.1 hg.1 hg.2 (hE.2 _) ?_
                                            obtain ⟨v39, hq, hv⟩ := Option.bind_eq_some_iff.mp hv
                                            refine jT.cV (M1 := M_X_character) (2, ((0 : Nat) : Int)) [(0, jsx E (jadd l1 1).toNat)] [] (st_L_law) rfl rfl ok_X_character rfl (Or.inl ⟨rfl, _, _, _, rfl, rfl⟩) (Nat.le_of_ble_eq_true rfl) (Nat.le_of_ble_eq_true rfl) rfl (Nat.le_of_ble_eq_true rfl) (C_X_character hq) ?_
                                            show jG E _ 550 [(0, (3, ((0 : Nat) : Int))), (1, (2, ((0 : Nat) : Int))), (2, (2, ((24 : Nat) : Int))), (3, (0, l1))] [(0, v39)] h2 _ _
                                            refine jG.blk (st_L_law) 5 (pc1 := 555) (L1 := [(0, (3, ((0 : Nat) : Int))), (1, (2, ((0 : Nat) : Int))), (2, (2, ((24 : Nat) : Int))), (3, (0, l1))]) (st1 := [(0, jadd l1 1), (3, ((0 : Nat) : Int)), (2, ((24 : Nat) : Int)), (0, v39)]) (h1 := h2) rfl ?_
                                            obtain ⟨hg, hv⟩ := jgd_some hv
                                            refine jT.xald (x := 0) (st_L_law) rfl (by decide) rfl hE.1 hg.1 hg.2 (hE.2 _) ?_
                                            obtain ⟨v40, hq, hv⟩ := Option.bind_eq_some_iff.mp hv
                                            refine jT.cV (M1 := M_M_character) (2, ((24 : Nat) : Int)) [(0, jsx E (jadd l1 1).toNat)] [(0, v39)] (st_L_law) rfl rfl ok_M_character rfl (Or.inl ⟨rfl, _, _, _, rfl, rfl⟩) (Nat.le_of_ble_eq_true rfl) (Nat.le_of_ble_eq_true rfl) rfl (Nat.le_of_ble_eq_true rfl) (C_M_character hq) ?_
                                            show jG E _ 559 [(0, (3, ((0 : Nat) : Int))), (1, (2, ((0 : Nat) : Int))), (2, (2, ((24 : Nat) : Int))), (3, (0, l1))] [(0, v40.1), (0, v39)] v40.2 _ _
                                            refine jT.if2 (st_L_law) rfl (tgt := 577) (by decide) (fun hc => ?_) (fun hc => ?_)
                                            · have hc : v39 = v40.1 := hc
                                              try rw [if_pos hc] at hv
                                              refine jG.blk (st_L_law) 1 (pc1 := 580) (L1 := [(3, (0, jadd l1 5)), (0, (3, ((0 : Nat) : Int))), (1, (2, ((0 : Nat) : Int))), (2, (2, ((24 : Nat) : Int)))]) (st1 := []) (h1 := v40.2) rfl ?_
                                              refine jT.goto (st_L_law) rfl (tgt := 18) (by decide) ?_
                                              refine jG.subp [1, 2, 3, 0] (L1 := [(0, (3, ((0 : Nat) : Int))), (1, (2, ((0 : Nat) : Int))), (2, (2, ((24 : Nat) : Int))), (3, (0, jadd l1 5))]) rfl ?_
                                              exact ih _ _ _ hv
                                            · have hc : ¬ (v39 = v40.1) := hc
                                              try rw [if_neg hc] at hv
                                              refine jG.blk (st_L_law) 1 (pc1 := 563) (L1 := [(0, (3, ((0 : Nat) : Int))), (1, (2, ((0 : Nat) : Int))), (2, (2, ((24 : Nat) : Int))), (3, (0, l1))]) (st1 := [(0, 0)]) (h1 := v40.2) rfl ?_
                                              cases hv
                                              exact jT.iret (st_L_law) rfl (Or.inl rfl)
                                          · try rw [if_neg hn18] at hv
                                            by_cases hn19 : jand (jsx E l1.toNat) 31 = 19
                                            · try rw [if_pos hn19] at hv
                                              refine jT.tswI (st_L_law) rfl (by omega) (by omega) (off := 532) (by rw [hn19]; rfl) (tgt := 564) (by decide) ?_
                                              refine jG.blk (st_L_law) 1 (pc1 := 565) (L1 := [(0, (3, ((0 : Nat) : Int))), (1, (2, ((0 : Nat) : Int))), (2, (2, ((24 : Nat) : Int))), (3, (0, l1))]) (st1 := [(2, ((0 : Nat) : Int))]) (h1 := h2) rfl ?_
                                              obtain ⟨v41, hq, hv⟩ := Option.bind_eq_some_iff.mp hv
                                              refine jT.cV (M1 := M_X_check) (2, ((0 : Nat) : Int)) [] [] (st_L_law) rfl rfl ok_X_check rfl (Or.inl ⟨rfl, _, _, _, rfl, rfl⟩) (Nat.le_of_ble_eq_true rfl) (Nat.le_of_ble_eq_true rfl) rfl (Nat.le_of_ble_eq_true rfl) (C_X_check hq) ?_
                                              show jG E _ 568 [(0, (3, ((0 : Nat) : Int))), (1, (2, ((0 : Nat) : Int))), (2, (2, ((24 : Nat) : Int))), (3, (0, l1))] [(0, v41.1)] v41.2 _ _
                                              refine jG.blk (st_L_law) 1 (pc1 := 569) (L1 := [(0, (3, ((0 : Nat) : Int))), (1, (2, ((0 : Nat) : Int))), (2, (2, ((24 : Nat) : Int))), (3, (0, l1))]) (st1 := [(2, ((24 : Nat) : Int)), (0, v41.1)]) (h1 := v41.2) rfl ?_
                                              obtain ⟨v42, hq, hv⟩ := Option.bind_eq_some_iff.mp hv
                                              refine jT.cV (M1 := M_M_check) (2, ((24 : Nat) : Int)) [] [(0, v41.1)] (st_L_law) rfl rfl ok_M_check rfl (Or.inl ⟨rfl, _, _, _, rfl, rfl⟩) (Nat.le_of_ble_eq_true rfl) (Nat.le_of_ble_eq_true rfl) rfl (Nat.le_of_ble_eq_true rfl) (C_M_check hq) ?_
                                              show jG E _ 572 [(0, (3, ((0 : Nat) : Int))), (1, (2, ((0 : Nat) : Int))), (2, (2, ((24 : Nat) : Int))), (3, (0, l1))] [(0, v42.1), (0, v41.1)] v42.2 _ _
                                              refine jT.if2 (st_L_law) rfl (tgt := 577) (by decide) (fun hc => ?_) (fun hc => ?_)
                                              · have hc : v41.1 = v42.1 := hc
                                                try rw [if_pos hc] at hv
                                                refine jG.blk (st_L_law) 1 (pc1 := 580) (L1 := [(3, (0, jadd l1 5)), (0, (3, ((0 : Nat) : Int))), (1, (2, ((0 : Nat) : Int))), (2, (2, ((24 : Nat) : Int)))]) (st1 := []) (h1 := v42.2) rfl ?_
                                                refine jT.goto (st_L_law) rfl (tgt := 18) (by decide) ?_
                                                refine jG.subp [1, 2, 3, 0] (L1 := [(0, (3, ((0 : Nat) : Int))), (1, (2, ((0 : Nat) : Int))), (2, (2, ((24 : Nat) : Int))), (3, (0, jadd l1 5))]) rfl ?_
                                                exact ih _ _ _ hv
                                              · have hc : ¬ (v41.1 = v42.1) := hc
                                                try rw [if_neg hc] at hv
                                                refine jG.blk (st_L_law) 1 (pc1 := 576) (L1 := [(0, (3, ((0 : Nat) : Int))), (1, (2, ((0 : Nat) : Int))), (2, (2, ((24 : Nat) : Int))), (3, (0, l1))]) (st1 := [(0, 0)]) (h1 := v42.2) rfl ?_
                                                cases hv
                                                exact jT.iret (st_L_law) rfl (Or.inl rfl)
                                            · try rw [if_neg hn19] at hv
                                              refine jT.tswO (st_L_law) rfl (by omega) (tgt := 577) (by decide) ?_
                                              refine jG.blk (st_L_law) 1 (pc1 := 580) (L1 := [(3, (0, jadd l1 5)), (0, (3, ((0 : Nat) : Int))), (1, (2, ((0 : Nat) : Int))), (2, (2, ((24 : Nat) : Int)))]) (st1 := []) (h1 := h2) rfl ?_
                                              refine jT.goto (st_L_law) rfl (tgt := 18) (by decide) ?_
                                              refine jG.subp [1, 2, 3, 0] (L1 := [(0, (3, ((0 : Nat) : Int))), (1, (2, ((0 : Nat) : Int))), (2, (2, ((24 : Nat) : Int))), (3, (0, jadd l1 5))]) rfl ?_
                                              exact ih _ _ _ hv
set_option maxRecDepth 100000 in
set_option maxHeartbeats 4000000 in
theorem C_L_law (E : jE) (hE : (jsl E : Int) < 2147483648 ∧ ∀ j, ok32 (jsx E j)) {h : jH} {res : Int × jH} (hv : f_L_law E h = some res) : jG E M_L_law 16 [(0, (3, ((0 : Nat) : Int))), (1, (2, ((0 : Nat) : Int))), (2, (2, ((24 : Nat) : Int)))] [] h (some (0, res.1)) res.2 := by
  unfold f_L_law at hv
  refine jG.blk (st_L_law) 2 (pc1 := 18) (L1 := [(3, (0, 0)), (0, (3, ((0 : Nat) : Int))), (1, (2, ((0 : Nat) : Int))), (2, (2, ((24 : Nat) : Int)))]) (st1 := []) (h1 := h) rfl ?_
  refine jG.subp [1, 2, 3, 0] (L1 := [(0, (3, ((0 : Nat) : Int))), (1, (2, ((0 : Nat) : Int))), (2, (2, ((24 : Nat) : Int))), (3, (0, 0))]) rfl ?_
  refine f_L_law_lp18_ok E hE (fun l43 h44 res hv => ?_) 1000 _ _ _ hv
  · refine jG.blk (st_L_law) 1 (pc1 := 584) (L1 := []) (st1 := [(0, 1)]) (h1 := h44) rfl ?_
    cases hv
    exact jT.iret (st_L_law) rfl (Or.inr rfl)
