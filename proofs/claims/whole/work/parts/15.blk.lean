noncomputable def b_M_four_3 (d : Nat) (x1 : Int32) (x2 : Int32) (m : aMem) : Option aMem := eV d kc_M_four (3, [(0, .ref 120), (1, .int x1), (2, .int x2)], []) m
noncomputable def b_M_town_63 (d : Nat) (x1 : Int32) (m : aMem) : Option (Int32 × aMem) := eI d kc_M_town (63, [(0, .ref 120), (1, .int x1)], []) m
noncomputable def b_M_town_111 (d : Nat) (x1 : Int32) (x2 : Int32) (m : aMem) : Option (Int32 × aMem) := eI d kc_M_town (111, [(0, .ref 120), (1, .int x1), (2, .int x2)], []) m
noncomputable def b_M_town_165 (d : Nat) (x1 : Int32) (m : aMem) : Option (Int32 × aMem) := eI d kc_M_town (165, [(0, .ref 120), (1, .int x1)], []) m
noncomputable def b_M_town_186 (d : Nat) (x1 : Int32) (m : aMem) : Option (Int32 × aMem) := eI d kc_M_town (186, [(0, .ref 120), (1, .int x1)], []) m
noncomputable def b_M_town_274 (d : Nat) (x1 : Int32) (m : aMem) : Option (Int32 × aMem) := eI d kc_M_town (274, [(0, .ref 120), (1, .int x1)], []) m
noncomputable def b_M_town_351 (d : Nat) (x1 : Int32) (s1 : Int32) (s2 : Int32) (m : aMem) : Option (Int32 × aMem) := eI d kc_M_town (351, [(0, .ref 120), (1, .int x1)], [.int s2, .int s1, .ref 152]) m
noncomputable def b_M_town_418 (d : Nat) (x1 : Int32) (m : aMem) : Option (Int32 × aMem) := eI d kc_M_town (418, [(0, .ref 120), (1, .int x1)], []) m
noncomputable def b_M_readAll_91 (d : Nat)  (m : aMem) : Option aMem := eV d kc_M_readAll (91, [(0, .ref 120)], []) m
noncomputable def b_M_token_0 (d : Nat)  (m : aMem) : Option aMem := eV d kc_M_token (0, [(0, .ref 120)], []) m
noncomputable def b_M_token_78 (d : Nat) (x2 : Int32) (m : aMem) : Option aMem := eV d kc_M_token (78, [(0, .ref 120), (2, .int x2)], []) m
noncomputable def b_M_token_131 (d : Nat) (x2 : Int32) (s1 : Int32) (m : aMem) : Option aMem := eV d kc_M_token (131, [(0, .ref 120), (2, .int x2)], [.int s1, .ref 120]) m
noncomputable def b_M_token_144 (d : Nat) (x2 : Int32) (m : aMem) : Option aMem := eV d kc_M_token (144, [(0, .ref 120), (2, .int x2)], []) m
noncomputable def b_M_token_203 (d : Nat) (x2 : Int32) (m : aMem) : Option aMem := eV d kc_M_token (203, [(0, .ref 120), (2, .int x2)], [.ref 120]) m
noncomputable def b_M_token_208 (d : Nat) (x2 : Int32) (s1 : Int32) (m : aMem) : Option aMem := eV d kc_M_token (208, [(0, .ref 120), (2, .int x2)], [.int s1, .ref 120]) m
noncomputable def b_M_token_229 (d : Nat) (x2 : Int32) (s1 : Int32) (m : aMem) : Option aMem := eV d kc_M_token (229, [(0, .ref 120), (2, .int x2)], [.int s1, .ref 120]) m
noncomputable def b_M_token_232 (d : Nat) (x2 : Int32) (m : aMem) : Option aMem := eV d kc_M_token (232, [(0, .ref 120), (2, .int x2)], []) m
noncomputable def b_M_readLine_25 (d : Nat)  (m : aMem) : Option aMem := eV d kc_M_readLine (25, [(0, .ref 120)], []) m
noncomputable def b_M_readLine_51 (d : Nat)  (m : aMem) : Option aMem := eV d kc_M_readLine (51, [(0, .ref 120)], []) m
noncomputable def b_M_readLine_76 (d : Nat)  (m : aMem) : Option aMem := eV d kc_M_readLine (76, [(0, .ref 120)], []) m
noncomputable def b_M_readLine_120 (d : Nat)  (m : aMem) : Option aMem := eV d kc_M_readLine (120, [(0, .ref 120)], []) m
noncomputable def b_M_readLine_147 (d : Nat)  (m : aMem) : Option aMem := eV d kc_M_readLine (147, [(0, .ref 120)], []) m
noncomputable def b_M_readLine_200 (d : Nat)  (m : aMem) : Option aMem := eV d kc_M_readLine (200, [(0, .ref 120)], []) m
noncomputable def b_M_readLine_240 (d : Nat)  (m : aMem) : Option aMem := eV d kc_M_readLine (240, [(0, .ref 120)], []) m
noncomputable def b_M_readLine_245 (d : Nat)  (m : aMem) : Option aMem := eV d kc_M_readLine (245, [(0, .ref 120)], []) m
noncomputable def b_M_readLine_266 (d : Nat)  (m : aMem) : Option aMem := eV d kc_M_readLine (266, [(0, .ref 120)], []) m
noncomputable def b_M_newName_33 (d : Nat) (x1 : Int32) (x2 : Int32) (m : aMem) : Option aMem := eV d kc_M_newName (33, [(0, .ref 120), (1, .int x1), (2, .int x2)], []) m
noncomputable def b_M_find_5 (d : Nat) (x1 : Int32) (x2 : Int32) (x3 : Int32) (x4 : Int32) (m : aMem) : Option (Int32 × aMem) := eI d kc_M_find (5, [(0, .ref 120), (1, .int x1), (2, .int x2), (3, .int x3), (4, .int x4)], []) m
noncomputable def b_M_toldNumber_41 (d : Nat)  (m : aMem) : Option (Int32 × aMem) := eI d kc_M_toldNumber (41, [(0, .ref 120)], []) m
noncomputable def b_M_toldNumber_46 (d : Nat)  (m : aMem) : Option (Int32 × aMem) := eI d kc_M_toldNumber (46, [(0, .ref 120)], []) m
noncomputable def b_M_readKite_47 (d : Nat) (x1 : Int32) (m : aMem) : Option aMem := eV d kc_M_readKite (47, [(0, .ref 120), (1, .int x1)], []) m
noncomputable def b_M_readKite_134 (d : Nat) (x1 : Int32) (m : aMem) : Option aMem := eV d kc_M_readKite (134, [(0, .ref 120), (1, .int x1)], []) m
noncomputable def b_M_readKite_135 (d : Nat) (x1 : Int32) (s0 : Int32) (m : aMem) : Option aMem := eV d kc_M_readKite (135, [(0, .ref 120), (1, .int x1)], [.int s0]) m
noncomputable def b_M_readKite_151 (d : Nat) (x2 : Int32) (s1 : Int32) (s2 : Int32) (m : aMem) : Option aMem := eV d kc_M_readKite (151, [(0, .ref 120), (2, .int x2)], [.int s2, .int s1, .ref 143]) m
noncomputable def b_M_readKite_160 (d : Nat)  (m : aMem) : Option aMem := eV d kc_M_readKite (160, [(0, .ref 120)], []) m
noncomputable def b_M_oldName_38 (d : Nat) (x1 : Int32) (x2 : Int32) (m : aMem) : Option (Int32 × aMem) := eI d kc_M_oldName (38, [(0, .ref 120), (1, .int x1), (2, .int x2)], []) m
noncomputable def b_M_readHolds_26 (d : Nat) (x1 : Int32) (m : aMem) : Option aMem := eV d kc_M_readHolds (26, [(0, .ref 120), (1, .int x1)], []) m
noncomputable def b_M_readHolds_58 (d : Nat) (x1 : Int32) (x2 : Int32) (m : aMem) : Option aMem := eV d kc_M_readHolds (58, [(0, .ref 120), (1, .int x1), (2, .int x2)], []) m
theorem ft_M_feed_0 : aFetch kc_M_feed 0 = some (0, .aload_n 0, 1, [], [], [], []) := rfl
theorem ft_M_feed_1 : aFetch kc_M_feed 1 = some (1, .getfield 187, 3, [10, 1, 0, 0], [], [], []) := rfl
theorem ft_M_feed_4 : aFetch kc_M_feed 4 = some (4, .bipush 20, 2, [], [.int 20], [], []) := rfl
theorem ft_M_feed_6 : aFetch kc_M_feed 6 = some (6, .iadd, 1, [], [], [], []) := rfl
theorem ft_M_feed_7 : aFetch kc_M_feed 7 = some (7, .sipush 1600, 3, [], [.int 1600], [], []) := rfl
theorem ft_M_feed_10 : aFetch kc_M_feed 10 = some (10, .if_icmp .le 5, 3, [], [], [], [(15, [])]) := rfl
theorem ft_M_feed_13 : aFetch kc_M_feed 13 = some (13, .iconst (-1), 1, [], [.int (-1)], [], []) := rfl
theorem ft_M_feed_14 : aFetch kc_M_feed 14 = some (14, .ireturn, 1, [0], [], [], []) := rfl
theorem ft_M_feed_15 : aFetch kc_M_feed 15 = some (15, .aload_n 0, 1, [], [], [], []) := rfl
theorem ft_M_feed_16 : aFetch kc_M_feed 16 = some (16, .iload_n 1, 1, [], [], [], []) := rfl
theorem ft_M_feed_17 : aFetch kc_M_feed 17 = some (17, .invokevirtual 190, 3, [156, 2, 0, 1, 10, 3], [], [], []) := rfl
theorem ft_M_feed_20 : aFetch kc_M_feed 20 = some (20, .aload_n 0, 1, [], [], [], []) := rfl
theorem ft_M_feed_21 : aFetch kc_M_feed 21 = some (21, .iload_n 2, 1, [], [], [], []) := rfl
theorem ft_M_feed_22 : aFetch kc_M_feed 22 = some (22, .invokevirtual 190, 3, [156, 2, 0, 1, 10, 3], [], [], []) := rfl
theorem ft_M_feed_25 : aFetch kc_M_feed 25 = some (25, .aload_n 0, 1, [], [], [], []) := rfl
theorem ft_M_feed_26 : aFetch kc_M_feed 26 = some (26, .iload_n 3, 1, [], [], [], []) := rfl
theorem ft_M_feed_27 : aFetch kc_M_feed 27 = some (27, .invokevirtual 190, 3, [156, 2, 0, 1, 10, 3], [], [], []) := rfl
theorem ft_M_feed_30 : aFetch kc_M_feed 30 = some (30, .aload_n 0, 1, [], [], [], []) := rfl
theorem ft_M_feed_31 : aFetch kc_M_feed 31 = some (31, .iload 4, 2, [], [], [], []) := rfl
theorem ft_M_feed_33 : aFetch kc_M_feed 33 = some (33, .invokevirtual 190, 3, [156, 2, 0, 1, 10, 3], [], [], []) := rfl
theorem ft_M_feed_36 : aFetch kc_M_feed 36 = some (36, .aload_n 0, 1, [], [], [], []) := rfl
theorem ft_M_feed_37 : aFetch kc_M_feed 37 = some (37, .iload 5, 2, [], [], [], []) := rfl
theorem ft_M_feed_39 : aFetch kc_M_feed 39 = some (39, .invokevirtual 190, 3, [156, 2, 0, 1, 10, 3], [], [], []) := rfl
theorem ft_M_feed_42 : aFetch kc_M_feed 42 = some (42, .aload_n 0, 1, [], [], [], []) := rfl
theorem ft_M_feed_43 : aFetch kc_M_feed 43 = some (43, .getfield 187, 3, [10, 1, 0, 0], [], [], []) := rfl
theorem ft_M_feed_46 : aFetch kc_M_feed 46 = some (46, .ireturn, 1, [0], [], [], []) := rfl
set_option maxHeartbeats 4000000 in
set_option maxRecDepth 100000 in
theorem q_M_feed (d : Nat) (x1 : Int32) (x2 : Int32) (x3 : Int32) (x4 : Int32) (x5 : Int32) (m : aMem) : f_M_feed (d + 1) x1 x2 x3 x4 x5 m = (if (m.1 120 1) + 20 ≤ 1600 then ((f_M_four d x1 m).bind fun q1 => ((f_M_four d x2 q1).bind fun q2 => ((f_M_four d x3 q2).bind fun q3 => ((f_M_four d x4 q3).bind fun q4 => ((f_M_four d x5 q4).bind fun q5 => (some (q5.1 120 1, q5))))))) else (some ((-1), m))) := (show f_M_feed (d + 1) x1 x2 x3 x4 x5 m = eI d kc_M_feed (0, [(0, .ref 120), (1, .int x1), (2, .int x2), (3, .int x3), (4, .int x4), (5, .int x5)], []) m from rfl).trans ((g1I ft_M_feed_0 (fr' := (1, [(0, .ref 120), (1, .int x1), (2, .int x2), (3, .int x3), (4, .int x4), (5, .int x5)], [.ref 120])) (m' := m) rfl).trans ((g1I ft_M_feed_1 (fr' := (4, [(0, .ref 120), (1, .int x1), (2, .int x2), (3, .int x3), (4, .int x4), (5, .int x5)], [.int (m.1 120 1)])) (m' := m) rfl).trans ((g1I ft_M_feed_4 (fr' := (6, [(0, .ref 120), (1, .int x1), (2, .int x2), (3, .int x3), (4, .int x4), (5, .int x5)], [.int 20, .int (m.1 120 1)])) (m' := m) rfl).trans ((g1I ft_M_feed_6 (fr' := (7, [(0, .ref 120), (1, .int x1), (2, .int x2), (3, .int x3), (4, .int x4), (5, .int x5)], [.int ((m.1 120 1) + 20)])) (m' := m) rfl).trans ((g1I ft_M_feed_7 (fr' := (10, [(0, .ref 120), (1, .int x1), (2, .int x2), (3, .int x3), (4, .int x4), (5, .int x5)], [.int 1600, .int ((m.1 120 1) + 20)])) (m' := m) rfl).trans ((b1I ft_M_feed_10 (p := (m.1 120 1) + 20 ≤ 1600) (f1 := (15, [(0, .ref 120), (1, .int x1), (2, .int x2), (3, .int x3), (4, .int x4), (5, .int x5)], [])) (f2 := (13, [(0, .ref 120), (1, .int x1), (2, .int x2), (3, .int x3), (4, .int x4), (5, .int x5)], [])) rfl).trans (ite2 ((g1I ft_M_feed_15 (fr' := (16, [(0, .ref 120), (1, .int x1), (2, .int x2), (3, .int x3), (4, .int x4), (5, .int x5)], [.ref 120])) (m' := m) rfl).trans ((g1I ft_M_feed_16 (fr' := (17, [(0, .ref 120), (1, .int x1), (2, .int x2), (3, .int x3), (4, .int x4), (5, .int x5)], [.int x1, .ref 120])) (m' := m) rfl).trans ((cVI ft_M_feed_17 (as := [.ref 120, .int x1]) (pc' := 20) (ls' := [(0, .ref 120), (1, .int x1), (2, .int x2), (3, .int x3), (4, .int x4), (5, .int x5)]) (st' := []) rfl).trans (bnd2 fun q1 => ((g1I ft_M_feed_20 (fr' := (21, [(0, .ref 120), (1, .int x1), (2, .int x2), (3, .int x3), (4, .int x4), (5, .int x5)], [.ref 120])) (m' := q1) rfl).trans ((g1I ft_M_feed_21 (fr' := (22, [(0, .ref 120), (1, .int x1), (2, .int x2), (3, .int x3), (4, .int x4), (5, .int x5)], [.int x2, .ref 120])) (m' := q1) rfl).trans ((cVI ft_M_feed_22 (as := [.ref 120, .int x2]) (pc' := 25) (ls' := [(0, .ref 120), (1, .int x1), (2, .int x2), (3, .int x3), (4, .int x4), (5, .int x5)]) (st' := []) rfl).trans (bnd2 fun q2 => ((g1I ft_M_feed_25 (fr' := (26, [(0, .ref 120), (1, .int x1), (2, .int x2), (3, .int x3), (4, .int x4), (5, .int x5)], [.ref 120])) (m' := q2) rfl).trans ((g1I ft_M_feed_26 (fr' := (27, [(0, .ref 120), (1, .int x1), (2, .int x2), (3, .int x3), (4, .int x4), (5, .int x5)], [.int x3, .ref 120])) (m' := q2) rfl).trans ((cVI ft_M_feed_27 (as := [.ref 120, .int x3]) (pc' := 30) (ls' := [(0, .ref 120), (1, .int x1), (2, .int x2), (3, .int x3), (4, .int x4), (5, .int x5)]) (st' := []) rfl).trans (bnd2 fun q3 => ((g1I ft_M_feed_30 (fr' := (31, [(0, .ref 120), (1, .int x1), (2, .int x2), (3, .int x3), (4, .int x4), (5, .int x5)], [.ref 120])) (m' := q3) rfl).trans ((g1I ft_M_feed_31 (fr' := (33, [(0, .ref 120), (1, .int x1), (2, .int x2), (3, .int x3), (4, .int x4), (5, .int x5)], [.int x4, .ref 120])) (m' := q3) rfl).trans ((cVI ft_M_feed_33 (as := [.ref 120, .int x4]) (pc' := 36) (ls' := [(0, .ref 120), (1, .int x1), (2, .int x2), (3, .int x3), (4, .int x4), (5, .int x5)]) (st' := []) rfl).trans (bnd2 fun q4 => ((g1I ft_M_feed_36 (fr' := (37, [(0, .ref 120), (1, .int x1), (2, .int x2), (3, .int x3), (4, .int x4), (5, .int x5)], [.ref 120])) (m' := q4) rfl).trans ((g1I ft_M_feed_37 (fr' := (39, [(0, .ref 120), (1, .int x1), (2, .int x2), (3, .int x3), (4, .int x4), (5, .int x5)], [.int x5, .ref 120])) (m' := q4) rfl).trans ((cVI ft_M_feed_39 (as := [.ref 120, .int x5]) (pc' := 42) (ls' := [(0, .ref 120), (1, .int x1), (2, .int x2), (3, .int x3), (4, .int x4), (5, .int x5)]) (st' := []) rfl).trans (bnd2 fun q5 => ((g1I ft_M_feed_42 (fr' := (43, [(0, .ref 120), (1, .int x1), (2, .int x2), (3, .int x3), (4, .int x4), (5, .int x5)], [.ref 120])) (m' := q5) rfl).trans ((g1I ft_M_feed_43 (fr' := (46, [(0, .ref 120), (1, .int x1), (2, .int x2), (3, .int x3), (4, .int x4), (5, .int x5)], [.int (q5.1 120 1)])) (m' := q5) rfl).trans (r1I ft_M_feed_46 rfl))))))))))))))))))))))) ((g1I ft_M_feed_13 (fr' := (14, [(0, .ref 120), (1, .int x1), (2, .int x2), (3, .int x3), (4, .int x4), (5, .int x5)], [.int (-1)])) (m' := m) rfl).trans (r1I ft_M_feed_14 rfl)))))))))
theorem ft_M_four_0 : aFetch kc_M_four 0 = some (0, .bipush 24, 2, [], [.int 24], [], []) := rfl
theorem ft_M_four_2 : aFetch kc_M_four 2 = some (2, .istore_n 2, 1, [], [], [0, 1, 2], []) := rfl
theorem ft_M_four_3 : aFetch kc_M_four 3 = some (3, .iload_n 2, 1, [], [], [], []) := rfl
theorem ft_M_four_4 : aFetch kc_M_four 4 = some (4, .ifCond .lt 35, 3, [], [], [], [(39, [])]) := rfl
theorem ft_M_four_7 : aFetch kc_M_four 7 = some (7, .aload_n 0, 1, [], [], [], []) := rfl
theorem ft_M_four_8 : aFetch kc_M_four 8 = some (8, .getfield 7, 3, [10, 0, 3, 1], [], [], []) := rfl
theorem ft_M_four_11 : aFetch kc_M_four 11 = some (11, .aload_n 0, 1, [], [], [], []) := rfl
theorem ft_M_four_12 : aFetch kc_M_four 12 = some (12, .getfield 187, 3, [10, 1, 0, 0], [], [], []) := rfl
theorem ft_M_four_15 : aFetch kc_M_four 15 = some (15, .iload_n 1, 1, [], [], [], []) := rfl
theorem ft_M_four_16 : aFetch kc_M_four 16 = some (16, .iload_n 2, 1, [], [], [], []) := rfl
theorem ft_M_four_17 : aFetch kc_M_four 17 = some (17, .ishr, 1, [], [], [], []) := rfl
theorem ft_M_four_18 : aFetch kc_M_four 18 = some (18, .sipush 255, 3, [], [.int 255], [], []) := rfl
theorem ft_M_four_21 : aFetch kc_M_four 21 = some (21, .iand, 1, [], [], [], []) := rfl
theorem ft_M_four_22 : aFetch kc_M_four 22 = some (22, .iastore, 1, [], [], [], []) := rfl
theorem ft_M_four_23 : aFetch kc_M_four 23 = some (23, .aload_n 0, 1, [], [], [], []) := rfl
theorem ft_M_four_24 : aFetch kc_M_four 24 = some (24, .dup, 1, [], [], [], []) := rfl
theorem ft_M_four_25 : aFetch kc_M_four 25 = some (25, .getfield 187, 3, [10, 1, 0, 0], [], [], []) := rfl
theorem ft_M_four_28 : aFetch kc_M_four 28 = some (28, .iconst 1, 1, [], [.int 1], [], []) := rfl
theorem ft_M_four_29 : aFetch kc_M_four 29 = some (29, .iadd, 1, [], [], [], []) := rfl
theorem ft_M_four_30 : aFetch kc_M_four 30 = some (30, .putfield 187, 3, [10, 1, 0, 0], [], [], []) := rfl
theorem ft_M_four_33 : aFetch kc_M_four 33 = some (33, .iinc 2 (-8), 3, [], [.int (-8)], [], []) := rfl
theorem ft_M_four_36 : aFetch kc_M_four 36 = some (36, .goto (-33), 3, [], [], [], [(3, [0, 1, 2])]) := rfl
theorem ft_M_four_39 : aFetch kc_M_four 39 = some (39, .return_, 1, [], [], [], []) := rfl
set_option maxHeartbeats 4000000 in
set_option maxRecDepth 100000 in
theorem q_M_four (d : Nat) (x1 : Int32) (m : aMem) : f_M_four (d + 1) x1 m = (b_M_four_3 d x1 24 m) := (show f_M_four (d + 1) x1 m = eV d kc_M_four (0, [(0, .ref 120), (1, .int x1)], []) m from rfl).trans ((g1V ft_M_four_0 (fr' := (2, [(0, .ref 120), (1, .int x1)], [.int 24])) (m' := m) rfl).trans (g1V ft_M_four_2 (fr' := (3, [(0, .ref 120), (1, .int x1), (2, .int 24)], [])) (m' := m) rfl))
set_option maxHeartbeats 4000000 in
set_option maxRecDepth 100000 in
theorem q_M_four_3 (d : Nat) (x1 : Int32) (x2 : Int32) (m : aMem) : b_M_four_3 d x1 x2 m = (if x2 < 0 then (some m) else (grd (inb (m.1 120 1) 1600) (b_M_four_3 d x1 (x2 + (-8)) (aUI (aUI m 121 ((m.1 120 1 : Int32).toNatClampNeg) ((x1 >>> (x2 &&& 31)) &&& 255)) 120 1 ((m.1 120 1) + 1))))) := ((g1V ft_M_four_3 (fr' := (4, [(0, .ref 120), (1, .int x1), (2, .int x2)], [.int x2])) (m' := m) rfl).trans ((b1V ft_M_four_4 (p := x2 < 0) (f1 := (39, [(0, .ref 120), (1, .int x1), (2, .int x2)], [])) (f2 := (7, [(0, .ref 120), (1, .int x1), (2, .int x2)], [])) rfl).trans (ite2 (r1V ft_M_four_39 rfl) ((g1V ft_M_four_7 (fr' := (8, [(0, .ref 120), (1, .int x1), (2, .int x2)], [.ref 120])) (m' := m) rfl).trans ((g1V ft_M_four_8 (fr' := (11, [(0, .ref 120), (1, .int x1), (2, .int x2)], [.ref 121])) (m' := m) rfl).trans ((g1V ft_M_four_11 (fr' := (12, [(0, .ref 120), (1, .int x1), (2, .int x2)], [.ref 120, .ref 121])) (m' := m) rfl).trans ((g1V ft_M_four_12 (fr' := (15, [(0, .ref 120), (1, .int x1), (2, .int x2)], [.int (m.1 120 1), .ref 121])) (m' := m) rfl).trans ((g1V ft_M_four_15 (fr' := (16, [(0, .ref 120), (1, .int x1), (2, .int x2)], [.int x1, .int (m.1 120 1), .ref 121])) (m' := m) rfl).trans ((g1V ft_M_four_16 (fr' := (17, [(0, .ref 120), (1, .int x1), (2, .int x2)], [.int x2, .int x1, .int (m.1 120 1), .ref 121])) (m' := m) rfl).trans ((g1V ft_M_four_17 (fr' := (18, [(0, .ref 120), (1, .int x1), (2, .int x2)], [.int (x1 >>> (x2 &&& 31)), .int (m.1 120 1), .ref 121])) (m' := m) rfl).trans ((g1V ft_M_four_18 (fr' := (21, [(0, .ref 120), (1, .int x1), (2, .int x2)], [.int 255, .int (x1 >>> (x2 &&& 31)), .int (m.1 120 1), .ref 121])) (m' := m) rfl).trans ((g1V ft_M_four_21 (fr' := (22, [(0, .ref 120), (1, .int x1), (2, .int x2)], [.int ((x1 >>> (x2 &&& 31)) &&& 255), .int (m.1 120 1), .ref 121])) (m' := m) rfl).trans ((g1Vg ft_M_four_22 (g := inb (m.1 120 1) 1600) (fr' := (23, [(0, .ref 120), (1, .int x1), (2, .int x2)], [])) (m' := (aUI m 121 ((m.1 120 1 : Int32).toNatClampNeg) ((x1 >>> (x2 &&& 31)) &&& 255))) (st_is rfl)).trans (grd2 ((g1V ft_M_four_23 (fr' := (24, [(0, .ref 120), (1, .int x1), (2, .int x2)], [.ref 120])) (m' := (aUI m 121 ((m.1 120 1 : Int32).toNatClampNeg) ((x1 >>> (x2 &&& 31)) &&& 255))) rfl).trans ((g1V ft_M_four_24 (fr' := (25, [(0, .ref 120), (1, .int x1), (2, .int x2)], [.ref 120, .ref 120])) (m' := (aUI m 121 ((m.1 120 1 : Int32).toNatClampNeg) ((x1 >>> (x2 &&& 31)) &&& 255))) rfl).trans ((g1V ft_M_four_25 (fr' := (28, [(0, .ref 120), (1, .int x1), (2, .int x2)], [.int (m.1 120 1), .ref 120])) (m' := (aUI m 121 ((m.1 120 1 : Int32).toNatClampNeg) ((x1 >>> (x2 &&& 31)) &&& 255))) rfl).trans ((g1V ft_M_four_28 (fr' := (29, [(0, .ref 120), (1, .int x1), (2, .int x2)], [.int 1, .int (m.1 120 1), .ref 120])) (m' := (aUI m 121 ((m.1 120 1 : Int32).toNatClampNeg) ((x1 >>> (x2 &&& 31)) &&& 255))) rfl).trans ((g1V ft_M_four_29 (fr' := (30, [(0, .ref 120), (1, .int x1), (2, .int x2)], [.int ((m.1 120 1) + 1), .ref 120])) (m' := (aUI m 121 ((m.1 120 1 : Int32).toNatClampNeg) ((x1 >>> (x2 &&& 31)) &&& 255))) rfl).trans ((g1V ft_M_four_30 (fr' := (33, [(0, .ref 120), (1, .int x1), (2, .int x2)], [])) (m' := (aUI (aUI m 121 ((m.1 120 1 : Int32).toNatClampNeg) ((x1 >>> (x2 &&& 31)) &&& 255)) 120 1 ((m.1 120 1) + 1))) rfl).trans ((g1V ft_M_four_33 (fr' := (36, [(2, .int (x2 + (-8))), (0, .ref 120), (1, .int x1)], [])) (m' := (aUI (aUI m 121 ((m.1 120 1 : Int32).toNatClampNeg) ((x1 >>> (x2 &&& 31)) &&& 255)) 120 1 ((m.1 120 1) + 1))) rfl).trans (g1V ft_M_four_36 (fr' := (3, [(0, .ref 120), (1, .int x1), (2, .int (x2 + (-8)))], [])) (m' := (aUI (aUI m 121 ((m.1 120 1 : Int32).toNatClampNeg) ((x1 >>> (x2 &&& 31)) &&& 255)) 120 1 ((m.1 120 1) + 1))) rfl))))))))))))))))))))))
theorem ft_M_end_0 : aFetch kc_M_end 0 = some (0, .iload_n 1, 1, [], [], [], []) := rfl
theorem ft_M_end_1 : aFetch kc_M_end 1 = some (1, .ifCond .lt 11, 3, [], [], [], [(12, [])]) := rfl
theorem ft_M_end_4 : aFetch kc_M_end 4 = some (4, .iload_n 1, 1, [], [], [], []) := rfl
theorem ft_M_end_5 : aFetch kc_M_end 5 = some (5, .aload_n 0, 1, [], [], [], []) := rfl
theorem ft_M_end_6 : aFetch kc_M_end 6 = some (6, .getfield 187, 3, [10, 1, 0, 0], [], [], []) := rfl
theorem ft_M_end_9 : aFetch kc_M_end 9 = some (9, .if_icmp .le 5, 3, [], [], [], [(14, [])]) := rfl
theorem ft_M_end_12 : aFetch kc_M_end 12 = some (12, .iconst (-1), 1, [], [.int (-1)], [], []) := rfl
theorem ft_M_end_13 : aFetch kc_M_end 13 = some (13, .ireturn, 1, [0], [], [], []) := rfl
theorem ft_M_end_14 : aFetch kc_M_end 14 = some (14, .aload_n 0, 1, [], [], [], []) := rfl
theorem ft_M_end_15 : aFetch kc_M_end 15 = some (15, .iload_n 1, 1, [], [], [], []) := rfl
theorem ft_M_end_16 : aFetch kc_M_end 16 = some (16, .putfield 187, 3, [10, 1, 0, 0], [], [], []) := rfl
theorem ft_M_end_19 : aFetch kc_M_end 19 = some (19, .iload_n 1, 1, [], [], [], []) := rfl
theorem ft_M_end_20 : aFetch kc_M_end 20 = some (20, .ireturn, 1, [0], [], [], []) := rfl
set_option maxHeartbeats 4000000 in
set_option maxRecDepth 100000 in
theorem q_M_end (d : Nat) (x1 : Int32) (m : aMem) : f_M_end (d + 1) x1 m = (if x1 < 0 then (some ((-1), m)) else (if x1 ≤ m.1 120 1 then (some (x1, (aUI m 120 1 x1))) else (some ((-1), m)))) := (show f_M_end (d + 1) x1 m = eI d kc_M_end (0, [(0, .ref 120), (1, .int x1)], []) m from rfl).trans ((g1I ft_M_end_0 (fr' := (1, [(0, .ref 120), (1, .int x1)], [.int x1])) (m' := m) rfl).trans ((b1I ft_M_end_1 (p := x1 < 0) (f1 := (12, [(0, .ref 120), (1, .int x1)], [])) (f2 := (4, [(0, .ref 120), (1, .int x1)], [])) rfl).trans (ite2 ((g1I ft_M_end_12 (fr' := (13, [(0, .ref 120), (1, .int x1)], [.int (-1)])) (m' := m) rfl).trans (r1I ft_M_end_13 rfl)) ((g1I ft_M_end_4 (fr' := (5, [(0, .ref 120), (1, .int x1)], [.int x1])) (m' := m) rfl).trans ((g1I ft_M_end_5 (fr' := (6, [(0, .ref 120), (1, .int x1)], [.ref 120, .int x1])) (m' := m) rfl).trans ((g1I ft_M_end_6 (fr' := (9, [(0, .ref 120), (1, .int x1)], [.int (m.1 120 1), .int x1])) (m' := m) rfl).trans ((b1I ft_M_end_9 (p := x1 ≤ m.1 120 1) (f1 := (14, [(0, .ref 120), (1, .int x1)], [])) (f2 := (12, [(0, .ref 120), (1, .int x1)], [])) rfl).trans (ite2 ((g1I ft_M_end_14 (fr' := (15, [(0, .ref 120), (1, .int x1)], [.ref 120])) (m' := m) rfl).trans ((g1I ft_M_end_15 (fr' := (16, [(0, .ref 120), (1, .int x1)], [.int x1, .ref 120])) (m' := m) rfl).trans ((g1I ft_M_end_16 (fr' := (19, [(0, .ref 120), (1, .int x1)], [])) (m' := (aUI m 120 1 x1)) rfl).trans ((g1I ft_M_end_19 (fr' := (20, [(0, .ref 120), (1, .int x1)], [.int x1])) (m' := (aUI m 120 1 x1)) rfl).trans (r1I ft_M_end_20 rfl))))) ((g1I ft_M_end_12 (fr' := (13, [(0, .ref 120), (1, .int x1)], [.int (-1)])) (m' := m) rfl).trans (r1I ft_M_end_13 rfl))))))))))
set_option maxRecDepth 100000 in
theorem ft_M_town_0 : aFetch kc_M_town 0 = some (0, .aload_n 0, 1, [], [], [], []) := rfl
set_option maxRecDepth 100000 in
theorem ft_M_town_1 : aFetch kc_M_town 1 = some (1, .invokevirtual 426, 3, [159, 1, 0, 1, 10, 1], [], [], []) := rfl
set_option maxRecDepth 100000 in
theorem ft_M_town_4 : aFetch kc_M_town 4 = some (4, .aload_n 0, 1, [], [], [], []) := rfl
set_option maxRecDepth 100000 in
theorem ft_M_town_5 : aFetch kc_M_town 5 = some (5, .getfield 227, 3, [10, 2, 0, 0], [], [], []) := rfl
set_option maxRecDepth 100000 in
theorem ft_M_town_8 : aFetch kc_M_town 8 = some (8, .ifCond .le 5, 3, [], [], [], [(13, [])]) := rfl
set_option maxRecDepth 100000 in
theorem ft_M_town_11 : aFetch kc_M_town 11 = some (11, .iconst (-1), 1, [], [.int (-1)], [], []) := rfl
set_option maxRecDepth 100000 in
theorem ft_M_town_12 : aFetch kc_M_town 12 = some (12, .ireturn, 1, [0], [], [], []) := rfl
set_option maxRecDepth 100000 in
theorem ft_M_town_13 : aFetch kc_M_town 13 = some (13, .aload_n 0, 1, [], [], [], []) := rfl
set_option maxRecDepth 100000 in
theorem ft_M_town_14 : aFetch kc_M_town 14 = some (14, .aload_n 0, 1, [], [], [], []) := rfl
set_option maxRecDepth 100000 in
theorem ft_M_town_15 : aFetch kc_M_town 15 = some (15, .getfield 373, 3, [10, 46, 0, 0], [], [], []) := rfl
set_option maxRecDepth 100000 in
theorem ft_M_town_18 : aFetch kc_M_town 18 = some (18, .putfield 429, 3, [10, 52, 0, 0], [], [], []) := rfl
set_option maxRecDepth 100000 in
theorem ft_M_town_21 : aFetch kc_M_town 21 = some (21, .aload_n 0, 1, [], [], [], []) := rfl
set_option maxRecDepth 100000 in
theorem ft_M_town_22 : aFetch kc_M_town 22 = some (22, .aload_n 0, 1, [], [], [], []) := rfl
set_option maxRecDepth 100000 in
theorem ft_M_town_23 : aFetch kc_M_town 23 = some (23, .getfield 379, 3, [10, 47, 0, 0], [], [], []) := rfl
set_option maxRecDepth 100000 in
theorem ft_M_town_26 : aFetch kc_M_town 26 = some (26, .putfield 432, 3, [10, 53, 0, 0], [], [], []) := rfl
set_option maxRecDepth 100000 in
theorem ft_M_town_29 : aFetch kc_M_town 29 = some (29, .aload_n 0, 1, [], [], [], []) := rfl
set_option maxRecDepth 100000 in
theorem ft_M_town_30 : aFetch kc_M_town 30 = some (30, .aload_n 0, 1, [], [], [], []) := rfl
set_option maxRecDepth 100000 in
theorem ft_M_town_31 : aFetch kc_M_town 31 = some (31, .getfield 389, 3, [10, 48, 0, 0], [], [], []) := rfl
set_option maxRecDepth 100000 in
theorem ft_M_town_34 : aFetch kc_M_town 34 = some (34, .putfield 435, 3, [10, 54, 0, 0], [], [], []) := rfl
set_option maxRecDepth 100000 in
theorem ft_M_town_37 : aFetch kc_M_town 37 = some (37, .aload_n 0, 1, [], [], [], []) := rfl
set_option maxRecDepth 100000 in
theorem ft_M_town_38 : aFetch kc_M_town 38 = some (38, .aload_n 0, 1, [], [], [], []) := rfl
set_option maxRecDepth 100000 in
theorem ft_M_town_39 : aFetch kc_M_town 39 = some (39, .getfield 411, 3, [10, 49, 0, 0], [], [], []) := rfl
set_option maxRecDepth 100000 in
theorem ft_M_town_42 : aFetch kc_M_town 42 = some (42, .putfield 438, 3, [10, 55, 0, 0], [], [], []) := rfl
set_option maxRecDepth 100000 in
theorem ft_M_town_45 : aFetch kc_M_town 45 = some (45, .aload_n 0, 1, [], [], [], []) := rfl
set_option maxRecDepth 100000 in
theorem ft_M_town_46 : aFetch kc_M_town 46 = some (46, .aload_n 0, 1, [], [], [], []) := rfl
set_option maxRecDepth 100000 in
theorem ft_M_town_47 : aFetch kc_M_town 47 = some (47, .getfield 414, 3, [10, 50, 0, 0], [], [], []) := rfl
set_option maxRecDepth 100000 in
theorem ft_M_town_50 : aFetch kc_M_town 50 = some (50, .putfield 109, 3, [10, 56, 0, 0], [], [], []) := rfl
set_option maxRecDepth 100000 in
theorem ft_M_town_53 : aFetch kc_M_town 53 = some (53, .aload_n 0, 1, [], [], [], []) := rfl
set_option maxRecDepth 100000 in
theorem ft_M_town_54 : aFetch kc_M_town 54 = some (54, .aload_n 0, 1, [], [], [], []) := rfl
set_option maxRecDepth 100000 in
theorem ft_M_town_55 : aFetch kc_M_town 55 = some (55, .getfield 328, 3, [10, 23, 0, 0], [], [], []) := rfl
set_option maxRecDepth 100000 in
theorem ft_M_town_58 : aFetch kc_M_town 58 = some (58, .putfield 441, 3, [10, 24, 0, 0], [], [], []) := rfl
set_option maxRecDepth 100000 in
theorem ft_M_town_61 : aFetch kc_M_town 61 = some (61, .iconst 0, 1, [], [.int 0], [], []) := rfl
set_option maxRecDepth 100000 in
theorem ft_M_town_62 : aFetch kc_M_town 62 = some (62, .istore_n 1, 1, [], [], [0, 1], []) := rfl
set_option maxRecDepth 100000 in
theorem ft_M_town_63 : aFetch kc_M_town 63 = some (63, .iload_n 1, 1, [], [], [], []) := rfl
set_option maxRecDepth 100000 in
theorem ft_M_town_64 : aFetch kc_M_town 64 = some (64, .iconst 2, 1, [], [.int 2], [], []) := rfl
set_option maxRecDepth 100000 in
theorem ft_M_town_65 : aFetch kc_M_town 65 = some (65, .if_icmp .ge 98, 3, [], [], [], [(163, [])]) := rfl
set_option maxRecDepth 100000 in
theorem ft_M_town_68 : aFetch kc_M_town 68 = some (68, .aload_n 0, 1, [], [], [], []) := rfl
set_option maxRecDepth 100000 in
theorem ft_M_town_69 : aFetch kc_M_town 69 = some (69, .getfield 49, 3, [10, 20, 3, 1], [], [], []) := rfl
set_option maxRecDepth 100000 in
theorem ft_M_town_72 : aFetch kc_M_town 72 = some (72, .iload_n 1, 1, [], [], [], []) := rfl
set_option maxRecDepth 100000 in
theorem ft_M_town_73 : aFetch kc_M_town 73 = some (73, .aload_n 0, 1, [], [], [], []) := rfl
set_option maxRecDepth 100000 in
theorem ft_M_town_74 : aFetch kc_M_town 74 = some (74, .getfield 45, 3, [10, 19, 3, 1], [], [], []) := rfl
set_option maxRecDepth 100000 in
theorem ft_M_town_77 : aFetch kc_M_town 77 = some (77, .iload_n 1, 1, [], [], [], []) := rfl
set_option maxRecDepth 100000 in
theorem ft_M_town_78 : aFetch kc_M_town 78 = some (78, .baload, 1, [3], [], [], []) := rfl
set_option maxRecDepth 100000 in
theorem ft_M_town_79 : aFetch kc_M_town 79 = some (79, .bastore, 1, [3], [], [], []) := rfl
set_option maxRecDepth 100000 in
theorem ft_M_town_80 : aFetch kc_M_town 80 = some (80, .aload_n 0, 1, [], [], [], []) := rfl
set_option maxRecDepth 100000 in
theorem ft_M_town_81 : aFetch kc_M_town 81 = some (81, .getfield 36, 3, [10, 16, 3, 1], [], [], []) := rfl
set_option maxRecDepth 100000 in
theorem ft_M_town_84 : aFetch kc_M_town 84 = some (84, .iload_n 1, 1, [], [], [], []) := rfl
set_option maxRecDepth 100000 in
theorem ft_M_town_85 : aFetch kc_M_town 85 = some (85, .aload_n 0, 1, [], [], [], []) := rfl
set_option maxRecDepth 100000 in
theorem ft_M_town_86 : aFetch kc_M_town 86 = some (86, .getfield 49, 3, [10, 20, 3, 1], [], [], []) := rfl
set_option maxRecDepth 100000 in
theorem ft_M_town_89 : aFetch kc_M_town 89 = some (89, .iload_n 1, 1, [], [], [], []) := rfl
set_option maxRecDepth 100000 in
theorem ft_M_town_90 : aFetch kc_M_town 90 = some (90, .baload, 1, [3], [], [], []) := rfl
set_option maxRecDepth 100000 in
theorem ft_M_town_91 : aFetch kc_M_town 91 = some (91, .ifCond .eq 12, 3, [], [], [], [(103, [])]) := rfl
set_option maxRecDepth 100000 in
theorem ft_M_town_94 : aFetch kc_M_town 94 = some (94, .aload_n 0, 1, [], [], [], []) := rfl
set_option maxRecDepth 100000 in
theorem ft_M_town_95 : aFetch kc_M_town 95 = some (95, .getfield 27, 3, [10, 13, 3, 1], [], [], []) := rfl
set_option maxRecDepth 100000 in
theorem ft_M_town_98 : aFetch kc_M_town 98 = some (98, .iload_n 1, 1, [], [], [], []) := rfl
set_option maxRecDepth 100000 in
theorem ft_M_town_99 : aFetch kc_M_town 99 = some (99, .iaload, 1, [1], [], [], []) := rfl
set_option maxRecDepth 100000 in
theorem ft_M_town_100 : aFetch kc_M_town 100 = some (100, .goto 4, 3, [], [], [], [(104, [])]) := rfl
set_option maxRecDepth 100000 in
theorem ft_M_town_103 : aFetch kc_M_town 103 = some (103, .iconst 0, 1, [], [.int 0], [], []) := rfl
set_option maxRecDepth 100000 in
theorem ft_M_town_104 : aFetch kc_M_town 104 = some (104, .iastore, 1, [], [], [], []) := rfl
set_option maxRecDepth 100000 in
theorem ft_M_town_105 : aFetch kc_M_town 105 = some (105, .sipush 320, 3, [], [.int 320], [], []) := rfl
set_option maxRecDepth 100000 in
theorem ft_M_town_108 : aFetch kc_M_town 108 = some (108, .iload_n 1, 1, [], [], [], []) := rfl
set_option maxRecDepth 100000 in
theorem ft_M_town_109 : aFetch kc_M_town 109 = some (109, .imul, 1, [], [], [], []) := rfl
set_option maxRecDepth 100000 in
theorem ft_M_town_110 : aFetch kc_M_town 110 = some (110, .istore_n 2, 1, [], [], [0, 1, 2], []) := rfl
set_option maxRecDepth 100000 in
theorem ft_M_town_111 : aFetch kc_M_town 111 = some (111, .iload_n 2, 1, [], [], [], []) := rfl
set_option maxRecDepth 100000 in
theorem ft_M_town_112 : aFetch kc_M_town 112 = some (112, .sipush 320, 3, [], [.int 320], [], []) := rfl
set_option maxRecDepth 100000 in
theorem ft_M_town_115 : aFetch kc_M_town 115 = some (115, .iload_n 1, 1, [], [], [], []) := rfl
set_option maxRecDepth 100000 in
theorem ft_M_town_116 : aFetch kc_M_town 116 = some (116, .imul, 1, [], [], [], []) := rfl
set_option maxRecDepth 100000 in
theorem ft_M_town_117 : aFetch kc_M_town 117 = some (117, .aload_n 0, 1, [], [], [], []) := rfl
set_option maxRecDepth 100000 in
theorem ft_M_town_118 : aFetch kc_M_town 118 = some (118, .getfield 36, 3, [10, 16, 3, 1], [], [], []) := rfl
set_option maxRecDepth 100000 in
theorem ft_M_town_121 : aFetch kc_M_town 121 = some (121, .iload_n 1, 1, [], [], [], []) := rfl
set_option maxRecDepth 100000 in
theorem ft_M_town_122 : aFetch kc_M_town 122 = some (122, .iaload, 1, [1], [], [], []) := rfl
set_option maxRecDepth 100000 in
theorem ft_M_town_123 : aFetch kc_M_town 123 = some (123, .iadd, 1, [], [], [], []) := rfl
set_option maxRecDepth 100000 in
theorem ft_M_town_124 : aFetch kc_M_town 124 = some (124, .if_icmp .ge 33, 3, [], [], [], [(157, [])]) := rfl
set_option maxRecDepth 100000 in
theorem ft_M_town_127 : aFetch kc_M_town 127 = some (127, .aload_n 0, 1, [], [], [], []) := rfl
set_option maxRecDepth 100000 in
theorem ft_M_town_128 : aFetch kc_M_town 128 = some (128, .getfield 30, 3, [10, 14, 3, 1], [], [], []) := rfl
set_option maxRecDepth 100000 in
theorem ft_M_town_131 : aFetch kc_M_town 131 = some (131, .iload_n 2, 1, [], [], [], []) := rfl
set_option maxRecDepth 100000 in
theorem ft_M_town_132 : aFetch kc_M_town 132 = some (132, .aload_n 0, 1, [], [], [], []) := rfl
set_option maxRecDepth 100000 in
theorem ft_M_town_133 : aFetch kc_M_town 133 = some (133, .getfield 21, 3, [10, 11, 3, 1], [], [], []) := rfl
set_option maxRecDepth 100000 in
theorem ft_M_town_136 : aFetch kc_M_town 136 = some (136, .iload_n 2, 1, [], [], [], []) := rfl
set_option maxRecDepth 100000 in
theorem ft_M_town_137 : aFetch kc_M_town 137 = some (137, .iaload, 1, [1], [], [], []) := rfl
set_option maxRecDepth 100000 in
theorem ft_M_town_138 : aFetch kc_M_town 138 = some (138, .iastore, 1, [], [], [], []) := rfl
set_option maxRecDepth 100000 in
theorem ft_M_town_139 : aFetch kc_M_town 139 = some (139, .aload_n 0, 1, [], [], [], []) := rfl
set_option maxRecDepth 100000 in
theorem ft_M_town_140 : aFetch kc_M_town 140 = some (140, .getfield 33, 3, [10, 15, 3, 1], [], [], []) := rfl
set_option maxRecDepth 100000 in
theorem ft_M_town_143 : aFetch kc_M_town 143 = some (143, .iload_n 2, 1, [], [], [], []) := rfl
set_option maxRecDepth 100000 in
theorem ft_M_town_144 : aFetch kc_M_town 144 = some (144, .aload_n 0, 1, [], [], [], []) := rfl
set_option maxRecDepth 100000 in
theorem ft_M_town_145 : aFetch kc_M_town 145 = some (145, .getfield 24, 3, [10, 12, 3, 1], [], [], []) := rfl
set_option maxRecDepth 100000 in
theorem ft_M_town_148 : aFetch kc_M_town 148 = some (148, .iload_n 2, 1, [], [], [], []) := rfl
set_option maxRecDepth 100000 in
theorem ft_M_town_149 : aFetch kc_M_town 149 = some (149, .iaload, 1, [1], [], [], []) := rfl
set_option maxRecDepth 100000 in
theorem ft_M_town_150 : aFetch kc_M_town 150 = some (150, .iastore, 1, [], [], [], []) := rfl
set_option maxRecDepth 100000 in
theorem ft_M_town_151 : aFetch kc_M_town 151 = some (151, .iinc 2 1, 3, [], [.int 1], [], []) := rfl
set_option maxRecDepth 100000 in
theorem ft_M_town_154 : aFetch kc_M_town 154 = some (154, .goto (-43), 3, [], [], [], [(111, [0, 1, 2])]) := rfl
set_option maxRecDepth 100000 in
theorem ft_M_town_157 : aFetch kc_M_town 157 = some (157, .iinc 1 1, 3, [], [.int 1], [], []) := rfl
set_option maxRecDepth 100000 in
theorem ft_M_town_160 : aFetch kc_M_town 160 = some (160, .goto (-97), 3, [], [], [], [(63, [0, 1])]) := rfl
set_option maxRecDepth 100000 in
theorem ft_M_town_163 : aFetch kc_M_town 163 = some (163, .iconst 0, 1, [], [.int 0], [], []) := rfl
set_option maxRecDepth 100000 in
theorem ft_M_town_164 : aFetch kc_M_town 164 = some (164, .istore_n 1, 1, [], [], [0, 1], []) := rfl
set_option maxRecDepth 100000 in
theorem ft_M_town_165 : aFetch kc_M_town 165 = some (165, .iload_n 1, 1, [], [], [], []) := rfl
set_option maxRecDepth 100000 in
theorem ft_M_town_166 : aFetch kc_M_town 166 = some (166, .bipush 43, 2, [], [.int 43], [], []) := rfl
set_option maxRecDepth 100000 in
theorem ft_M_town_168 : aFetch kc_M_town 168 = some (168, .if_icmp .ge 16, 3, [], [], [], [(184, [])]) := rfl
set_option maxRecDepth 100000 in
theorem ft_M_town_171 : aFetch kc_M_town 171 = some (171, .aload_n 0, 1, [], [], [], []) := rfl
set_option maxRecDepth 100000 in
theorem ft_M_town_172 : aFetch kc_M_town 172 = some (172, .getfield 112, 3, [10, 59, 3, 1], [], [], []) := rfl
set_option maxRecDepth 100000 in
theorem ft_M_town_175 : aFetch kc_M_town 175 = some (175, .iload_n 1, 1, [], [], [], []) := rfl
set_option maxRecDepth 100000 in
theorem ft_M_town_176 : aFetch kc_M_town 176 = some (176, .iconst 0, 1, [], [.int 0], [], []) := rfl
set_option maxRecDepth 100000 in
theorem ft_M_town_177 : aFetch kc_M_town 177 = some (177, .iastore, 1, [], [], [], []) := rfl
set_option maxRecDepth 100000 in
theorem ft_M_town_178 : aFetch kc_M_town 178 = some (178, .iinc 1 1, 3, [], [.int 1], [], []) := rfl
set_option maxRecDepth 100000 in
theorem ft_M_town_181 : aFetch kc_M_town 181 = some (181, .goto (-16), 3, [], [], [], [(165, [0, 1])]) := rfl
set_option maxRecDepth 100000 in
theorem ft_M_town_184 : aFetch kc_M_town 184 = some (184, .iconst 0, 1, [], [.int 0], [], []) := rfl
set_option maxRecDepth 100000 in
theorem ft_M_town_185 : aFetch kc_M_town 185 = some (185, .istore_n 1, 1, [], [], [0, 1], []) := rfl
set_option maxRecDepth 100000 in
theorem ft_M_town_186 : aFetch kc_M_town 186 = some (186, .iload_n 1, 1, [], [], [], []) := rfl
set_option maxRecDepth 100000 in
theorem ft_M_town_187 : aFetch kc_M_town 187 = some (187, .iconst 4, 1, [], [.int 4], [], []) := rfl
set_option maxRecDepth 100000 in
theorem ft_M_town_188 : aFetch kc_M_town 188 = some (188, .if_icmp .ge 84, 3, [], [], [], [(272, [])]) := rfl
set_option maxRecDepth 100000 in
theorem ft_M_town_191 : aFetch kc_M_town 191 = some (191, .aload_n 0, 1, [], [], [], []) := rfl
set_option maxRecDepth 100000 in
theorem ft_M_town_192 : aFetch kc_M_town 192 = some (192, .getfield 61, 3, [10, 30, 3, 1], [], [], []) := rfl
set_option maxRecDepth 100000 in
theorem ft_M_town_195 : aFetch kc_M_town 195 = some (195, .iload_n 1, 1, [], [], [], []) := rfl
set_option maxRecDepth 100000 in
theorem ft_M_town_196 : aFetch kc_M_town 196 = some (196, .aload_n 0, 1, [], [], [], []) := rfl
set_option maxRecDepth 100000 in
theorem ft_M_town_197 : aFetch kc_M_town 197 = some (197, .getfield 55, 3, [10, 28, 3, 1], [], [], []) := rfl
set_option maxRecDepth 100000 in
theorem ft_M_town_200 : aFetch kc_M_town 200 = some (200, .iload_n 1, 1, [], [], [], []) := rfl
set_option maxRecDepth 100000 in
theorem ft_M_town_201 : aFetch kc_M_town 201 = some (201, .iaload, 1, [1], [], [], []) := rfl
set_option maxRecDepth 100000 in
theorem ft_M_town_202 : aFetch kc_M_town 202 = some (202, .iastore, 1, [], [], [], []) := rfl
set_option maxRecDepth 100000 in
theorem ft_M_town_203 : aFetch kc_M_town 203 = some (203, .aload_n 0, 1, [], [], [], []) := rfl
set_option maxRecDepth 100000 in
theorem ft_M_town_204 : aFetch kc_M_town 204 = some (204, .getfield 64, 3, [10, 31, 3, 1], [], [], []) := rfl
set_option maxRecDepth 100000 in
theorem ft_M_town_207 : aFetch kc_M_town 207 = some (207, .iload_n 1, 1, [], [], [], []) := rfl
set_option maxRecDepth 100000 in
theorem ft_M_town_208 : aFetch kc_M_town 208 = some (208, .aload_n 0, 1, [], [], [], []) := rfl
set_option maxRecDepth 100000 in
theorem ft_M_town_209 : aFetch kc_M_town 209 = some (209, .getfield 58, 3, [10, 29, 3, 1], [], [], []) := rfl
set_option maxRecDepth 100000 in
theorem ft_M_town_212 : aFetch kc_M_town 212 = some (212, .iload_n 1, 1, [], [], [], []) := rfl
set_option maxRecDepth 100000 in
theorem ft_M_town_213 : aFetch kc_M_town 213 = some (213, .iaload, 1, [1], [], [], []) := rfl
set_option maxRecDepth 100000 in
theorem ft_M_town_214 : aFetch kc_M_town 214 = some (214, .iastore, 1, [], [], [], []) := rfl
set_option maxRecDepth 100000 in
theorem ft_M_town_215 : aFetch kc_M_town 215 = some (215, .aload_n 0, 1, [], [], [], []) := rfl
set_option maxRecDepth 100000 in
theorem ft_M_town_216 : aFetch kc_M_town 216 = some (216, .getfield 103, 3, [10, 44, 3, 1], [], [], []) := rfl
set_option maxRecDepth 100000 in
theorem ft_M_town_219 : aFetch kc_M_town 219 = some (219, .iload_n 1, 1, [], [], [], []) := rfl
set_option maxRecDepth 100000 in
theorem ft_M_town_220 : aFetch kc_M_town 220 = some (220, .aload_n 0, 1, [], [], [], []) := rfl
set_option maxRecDepth 100000 in
theorem ft_M_town_221 : aFetch kc_M_town 221 = some (221, .getfield 97, 3, [10, 42, 3, 1], [], [], []) := rfl
set_option maxRecDepth 100000 in
theorem ft_M_town_224 : aFetch kc_M_town 224 = some (224, .iload_n 1, 1, [], [], [], []) := rfl
set_option maxRecDepth 100000 in
theorem ft_M_town_225 : aFetch kc_M_town 225 = some (225, .iaload, 1, [1], [], [], []) := rfl
set_option maxRecDepth 100000 in
theorem ft_M_town_226 : aFetch kc_M_town 226 = some (226, .iastore, 1, [], [], [], []) := rfl
set_option maxRecDepth 100000 in
theorem ft_M_town_227 : aFetch kc_M_town 227 = some (227, .aload_n 0, 1, [], [], [], []) := rfl
set_option maxRecDepth 100000 in
theorem ft_M_town_228 : aFetch kc_M_town 228 = some (228, .getfield 106, 3, [10, 45, 3, 1], [], [], []) := rfl
set_option maxRecDepth 100000 in
theorem ft_M_town_231 : aFetch kc_M_town 231 = some (231, .iload_n 1, 1, [], [], [], []) := rfl
set_option maxRecDepth 100000 in
theorem ft_M_town_232 : aFetch kc_M_town 232 = some (232, .aload_n 0, 1, [], [], [], []) := rfl
set_option maxRecDepth 100000 in
theorem ft_M_town_233 : aFetch kc_M_town 233 = some (233, .getfield 100, 3, [10, 43, 3, 1], [], [], []) := rfl
set_option maxRecDepth 100000 in
theorem ft_M_town_236 : aFetch kc_M_town 236 = some (236, .iload_n 1, 1, [], [], [], []) := rfl
set_option maxRecDepth 100000 in
theorem ft_M_town_237 : aFetch kc_M_town 237 = some (237, .iaload, 1, [1], [], [], []) := rfl
set_option maxRecDepth 100000 in
theorem ft_M_town_238 : aFetch kc_M_town 238 = some (238, .iastore, 1, [], [], [], []) := rfl
set_option maxRecDepth 100000 in
theorem ft_M_town_239 : aFetch kc_M_town 239 = some (239, .aload_n 0, 1, [], [], [], []) := rfl
set_option maxRecDepth 100000 in
theorem ft_M_town_240 : aFetch kc_M_town 240 = some (240, .getfield 112, 3, [10, 59, 3, 1], [], [], []) := rfl
set_option maxRecDepth 100000 in
theorem ft_M_town_243 : aFetch kc_M_town 243 = some (243, .bipush 32, 2, [], [.int 32], [], []) := rfl
set_option maxRecDepth 100000 in
theorem ft_M_town_245 : aFetch kc_M_town 245 = some (245, .iload_n 1, 1, [], [], [], []) := rfl
set_option maxRecDepth 100000 in
theorem ft_M_town_246 : aFetch kc_M_town 246 = some (246, .iadd, 1, [], [], [], []) := rfl
set_option maxRecDepth 100000 in
theorem ft_M_town_247 : aFetch kc_M_town 247 = some (247, .iload_n 1, 1, [], [], [], []) := rfl
set_option maxRecDepth 100000 in
theorem ft_M_town_248 : aFetch kc_M_town 248 = some (248, .aload_n 0, 1, [], [], [], []) := rfl
set_option maxRecDepth 100000 in
theorem ft_M_town_249 : aFetch kc_M_town 249 = some (249, .getfield 435, 3, [10, 54, 0, 0], [], [], []) := rfl
set_option maxRecDepth 100000 in
theorem ft_M_town_252 : aFetch kc_M_town 252 = some (252, .if_icmp .ge 12, 3, [], [], [], [(264, [])]) := rfl
set_option maxRecDepth 100000 in
theorem ft_M_town_255 : aFetch kc_M_town 255 = some (255, .aload_n 0, 1, [], [], [], []) := rfl
set_option maxRecDepth 100000 in
theorem ft_M_town_256 : aFetch kc_M_town 256 = some (256, .getfield 100, 3, [10, 43, 3, 1], [], [], []) := rfl
set_option maxRecDepth 100000 in
theorem ft_M_town_259 : aFetch kc_M_town 259 = some (259, .iload_n 1, 1, [], [], [], []) := rfl
set_option maxRecDepth 100000 in
theorem ft_M_town_260 : aFetch kc_M_town 260 = some (260, .iaload, 1, [1], [], [], []) := rfl
set_option maxRecDepth 100000 in
theorem ft_M_town_261 : aFetch kc_M_town 261 = some (261, .goto 4, 3, [], [], [], [(265, [])]) := rfl
set_option maxRecDepth 100000 in
theorem ft_M_town_264 : aFetch kc_M_town 264 = some (264, .iconst 0, 1, [], [.int 0], [], []) := rfl
set_option maxRecDepth 100000 in
theorem ft_M_town_265 : aFetch kc_M_town 265 = some (265, .iastore, 1, [], [], [], []) := rfl
set_option maxRecDepth 100000 in
theorem ft_M_town_266 : aFetch kc_M_town 266 = some (266, .iinc 1 1, 3, [], [.int 1], [], []) := rfl
set_option maxRecDepth 100000 in
theorem ft_M_town_269 : aFetch kc_M_town 269 = some (269, .goto (-83), 3, [], [], [], [(186, [0, 1])]) := rfl
set_option maxRecDepth 100000 in
theorem ft_M_town_272 : aFetch kc_M_town 272 = some (272, .iconst 0, 1, [], [.int 0], [], []) := rfl
set_option maxRecDepth 100000 in
theorem ft_M_town_273 : aFetch kc_M_town 273 = some (273, .istore_n 1, 1, [], [], [0, 1], []) := rfl
set_option maxRecDepth 100000 in
theorem ft_M_town_274 : aFetch kc_M_town 274 = some (274, .iload_n 1, 1, [], [], [], []) := rfl
set_option maxRecDepth 100000 in
theorem ft_M_town_275 : aFetch kc_M_town 275 = some (275, .bipush 8, 2, [], [.int 8], [], []) := rfl
set_option maxRecDepth 100000 in
theorem ft_M_town_277 : aFetch kc_M_town 277 = some (277, .if_icmp .ge 108, 3, [], [], [], [(385, [])]) := rfl
set_option maxRecDepth 100000 in
theorem ft_M_town_280 : aFetch kc_M_town 280 = some (280, .aload_n 0, 1, [], [], [], []) := rfl
set_option maxRecDepth 100000 in
theorem ft_M_town_281 : aFetch kc_M_town 281 = some (281, .getfield 85, 3, [10, 38, 3, 1], [], [], []) := rfl
set_option maxRecDepth 100000 in
theorem ft_M_town_284 : aFetch kc_M_town 284 = some (284, .iload_n 1, 1, [], [], [], []) := rfl
set_option maxRecDepth 100000 in
theorem ft_M_town_285 : aFetch kc_M_town 285 = some (285, .aload_n 0, 1, [], [], [], []) := rfl
set_option maxRecDepth 100000 in
theorem ft_M_town_286 : aFetch kc_M_town 286 = some (286, .getfield 67, 3, [10, 32, 3, 1], [], [], []) := rfl
set_option maxRecDepth 100000 in
theorem ft_M_town_289 : aFetch kc_M_town 289 = some (289, .iload_n 1, 1, [], [], [], []) := rfl
set_option maxRecDepth 100000 in
theorem ft_M_town_290 : aFetch kc_M_town 290 = some (290, .iaload, 1, [1], [], [], []) := rfl
set_option maxRecDepth 100000 in
theorem ft_M_town_291 : aFetch kc_M_town 291 = some (291, .iastore, 1, [], [], [], []) := rfl
set_option maxRecDepth 100000 in
theorem ft_M_town_292 : aFetch kc_M_town 292 = some (292, .aload_n 0, 1, [], [], [], []) := rfl
set_option maxRecDepth 100000 in
theorem ft_M_town_293 : aFetch kc_M_town 293 = some (293, .getfield 88, 3, [10, 39, 3, 1], [], [], []) := rfl
set_option maxRecDepth 100000 in
theorem ft_M_town_296 : aFetch kc_M_town 296 = some (296, .iload_n 1, 1, [], [], [], []) := rfl
set_option maxRecDepth 100000 in
theorem ft_M_town_297 : aFetch kc_M_town 297 = some (297, .aload_n 0, 1, [], [], [], []) := rfl
set_option maxRecDepth 100000 in
theorem ft_M_town_298 : aFetch kc_M_town 298 = some (298, .getfield 70, 3, [10, 33, 3, 1], [], [], []) := rfl
set_option maxRecDepth 100000 in
theorem ft_M_town_301 : aFetch kc_M_town 301 = some (301, .iload_n 1, 1, [], [], [], []) := rfl
set_option maxRecDepth 100000 in
theorem ft_M_town_302 : aFetch kc_M_town 302 = some (302, .iaload, 1, [1], [], [], []) := rfl
set_option maxRecDepth 100000 in
theorem ft_M_town_303 : aFetch kc_M_town 303 = some (303, .iastore, 1, [], [], [], []) := rfl
set_option maxRecDepth 100000 in
theorem ft_M_town_304 : aFetch kc_M_town 304 = some (304, .aload_n 0, 1, [], [], [], []) := rfl
set_option maxRecDepth 100000 in
theorem ft_M_town_305 : aFetch kc_M_town 305 = some (305, .getfield 91, 3, [10, 40, 3, 1], [], [], []) := rfl
set_option maxRecDepth 100000 in
theorem ft_M_town_308 : aFetch kc_M_town 308 = some (308, .iload_n 1, 1, [], [], [], []) := rfl
set_option maxRecDepth 100000 in
theorem ft_M_town_309 : aFetch kc_M_town 309 = some (309, .aload_n 0, 1, [], [], [], []) := rfl
set_option maxRecDepth 100000 in
theorem ft_M_town_310 : aFetch kc_M_town 310 = some (310, .getfield 73, 3, [10, 34, 3, 1], [], [], []) := rfl
set_option maxRecDepth 100000 in
theorem ft_M_town_313 : aFetch kc_M_town 313 = some (313, .iload_n 1, 1, [], [], [], []) := rfl
set_option maxRecDepth 100000 in
theorem ft_M_town_314 : aFetch kc_M_town 314 = some (314, .iaload, 1, [1], [], [], []) := rfl
set_option maxRecDepth 100000 in
theorem ft_M_town_315 : aFetch kc_M_town 315 = some (315, .iastore, 1, [], [], [], []) := rfl
set_option maxRecDepth 100000 in
theorem ft_M_town_316 : aFetch kc_M_town 316 = some (316, .aload_n 0, 1, [], [], [], []) := rfl
set_option maxRecDepth 100000 in
theorem ft_M_town_317 : aFetch kc_M_town 317 = some (317, .getfield 94, 3, [10, 41, 3, 1], [], [], []) := rfl
set_option maxRecDepth 100000 in
theorem ft_M_town_320 : aFetch kc_M_town 320 = some (320, .iload_n 1, 1, [], [], [], []) := rfl
set_option maxRecDepth 100000 in
theorem ft_M_town_321 : aFetch kc_M_town 321 = some (321, .aload_n 0, 1, [], [], [], []) := rfl
set_option maxRecDepth 100000 in
theorem ft_M_town_322 : aFetch kc_M_town 322 = some (322, .getfield 76, 3, [10, 35, 3, 1], [], [], []) := rfl
set_option maxRecDepth 100000 in
theorem ft_M_town_325 : aFetch kc_M_town 325 = some (325, .iload_n 1, 1, [], [], [], []) := rfl
set_option maxRecDepth 100000 in
theorem ft_M_town_326 : aFetch kc_M_town 326 = some (326, .iaload, 1, [1], [], [], []) := rfl
set_option maxRecDepth 100000 in
theorem ft_M_town_327 : aFetch kc_M_town 327 = some (327, .iastore, 1, [], [], [], []) := rfl
set_option maxRecDepth 100000 in
theorem ft_M_town_328 : aFetch kc_M_town 328 = some (328, .aload_n 0, 1, [], [], [], []) := rfl
set_option maxRecDepth 100000 in
theorem ft_M_town_329 : aFetch kc_M_town 329 = some (329, .getfield 112, 3, [10, 59, 3, 1], [], [], []) := rfl
set_option maxRecDepth 100000 in
theorem ft_M_town_332 : aFetch kc_M_town 332 = some (332, .iload_n 1, 1, [], [], [], []) := rfl
set_option maxRecDepth 100000 in
theorem ft_M_town_333 : aFetch kc_M_town 333 = some (333, .iload_n 1, 1, [], [], [], []) := rfl
set_option maxRecDepth 100000 in
theorem ft_M_town_334 : aFetch kc_M_town 334 = some (334, .aload_n 0, 1, [], [], [], []) := rfl
set_option maxRecDepth 100000 in
theorem ft_M_town_335 : aFetch kc_M_town 335 = some (335, .getfield 432, 3, [10, 53, 0, 0], [], [], []) := rfl
set_option maxRecDepth 100000 in
theorem ft_M_town_338 : aFetch kc_M_town 338 = some (338, .if_icmp .ge 12, 3, [], [], [], [(350, [])]) := rfl
set_option maxRecDepth 100000 in
theorem ft_M_town_341 : aFetch kc_M_town 341 = some (341, .aload_n 0, 1, [], [], [], []) := rfl
set_option maxRecDepth 100000 in
theorem ft_M_town_342 : aFetch kc_M_town 342 = some (342, .getfield 79, 3, [10, 36, 3, 1], [], [], []) := rfl
set_option maxRecDepth 100000 in
theorem ft_M_town_345 : aFetch kc_M_town 345 = some (345, .iload_n 1, 1, [], [], [], []) := rfl
set_option maxRecDepth 100000 in
theorem ft_M_town_346 : aFetch kc_M_town 346 = some (346, .iaload, 1, [1], [], [], []) := rfl
set_option maxRecDepth 100000 in
theorem ft_M_town_347 : aFetch kc_M_town 347 = some (347, .goto 4, 3, [], [], [], [(351, [0, 1])]) := rfl
set_option maxRecDepth 100000 in
theorem ft_M_town_350 : aFetch kc_M_town 350 = some (350, .iconst 0, 1, [], [.int 0], [0, 1], []) := rfl
set_option maxRecDepth 100000 in
theorem ft_M_town_351 : aFetch kc_M_town 351 = some (351, .iastore, 1, [], [], [], []) := rfl
set_option maxRecDepth 100000 in
theorem ft_M_town_352 : aFetch kc_M_town 352 = some (352, .aload_n 0, 1, [], [], [], []) := rfl
set_option maxRecDepth 100000 in
theorem ft_M_town_353 : aFetch kc_M_town 353 = some (353, .getfield 112, 3, [10, 59, 3, 1], [], [], []) := rfl
set_option maxRecDepth 100000 in
theorem ft_M_town_356 : aFetch kc_M_town 356 = some (356, .bipush 8, 2, [], [.int 8], [], []) := rfl
set_option maxRecDepth 100000 in
theorem ft_M_town_358 : aFetch kc_M_town 358 = some (358, .iload_n 1, 1, [], [], [], []) := rfl
set_option maxRecDepth 100000 in
theorem ft_M_town_359 : aFetch kc_M_town 359 = some (359, .iadd, 1, [], [], [], []) := rfl
set_option maxRecDepth 100000 in
theorem ft_M_town_360 : aFetch kc_M_town 360 = some (360, .iload_n 1, 1, [], [], [], []) := rfl
set_option maxRecDepth 100000 in
theorem ft_M_town_361 : aFetch kc_M_town 361 = some (361, .aload_n 0, 1, [], [], [], []) := rfl
set_option maxRecDepth 100000 in
theorem ft_M_town_362 : aFetch kc_M_town 362 = some (362, .getfield 432, 3, [10, 53, 0, 0], [], [], []) := rfl
set_option maxRecDepth 100000 in
theorem ft_M_town_365 : aFetch kc_M_town 365 = some (365, .if_icmp .ge 12, 3, [], [], [], [(377, [])]) := rfl
set_option maxRecDepth 100000 in
theorem ft_M_town_368 : aFetch kc_M_town 368 = some (368, .aload_n 0, 1, [], [], [], []) := rfl
set_option maxRecDepth 100000 in
theorem ft_M_town_369 : aFetch kc_M_town 369 = some (369, .getfield 82, 3, [10, 37, 3, 1], [], [], []) := rfl
set_option maxRecDepth 100000 in
theorem ft_M_town_372 : aFetch kc_M_town 372 = some (372, .iload_n 1, 1, [], [], [], []) := rfl
set_option maxRecDepth 100000 in
theorem ft_M_town_373 : aFetch kc_M_town 373 = some (373, .iaload, 1, [1], [], [], []) := rfl
set_option maxRecDepth 100000 in
theorem ft_M_town_374 : aFetch kc_M_town 374 = some (374, .goto 4, 3, [], [], [], [(378, [])]) := rfl
set_option maxRecDepth 100000 in
theorem ft_M_town_377 : aFetch kc_M_town 377 = some (377, .iconst (-1), 1, [], [.int (-1)], [], []) := rfl
set_option maxRecDepth 100000 in
theorem ft_M_town_378 : aFetch kc_M_town 378 = some (378, .iastore, 1, [], [], [], []) := rfl
set_option maxRecDepth 100000 in
theorem ft_M_town_379 : aFetch kc_M_town 379 = some (379, .iinc 1 1, 3, [], [.int 1], [], []) := rfl
set_option maxRecDepth 100000 in
theorem ft_M_town_382 : aFetch kc_M_town 382 = some (382, .goto (-108), 3, [], [], [], [(274, [0, 1])]) := rfl
set_option maxRecDepth 100000 in
theorem ft_M_town_385 : aFetch kc_M_town 385 = some (385, .aload_n 0, 1, [], [], [], []) := rfl
set_option maxRecDepth 100000 in
theorem ft_M_town_386 : aFetch kc_M_town 386 = some (386, .getfield 112, 3, [10, 59, 3, 1], [], [], []) := rfl
set_option maxRecDepth 100000 in
theorem ft_M_town_389 : aFetch kc_M_town 389 = some (389, .bipush 42, 2, [], [.int 42], [], []) := rfl
set_option maxRecDepth 100000 in
theorem ft_M_town_391 : aFetch kc_M_town 391 = some (391, .aload_n 0, 1, [], [], [], []) := rfl
set_option maxRecDepth 100000 in
theorem ft_M_town_392 : aFetch kc_M_town 392 = some (392, .getfield 420, 3, [10, 51, 0, 0], [], [], []) := rfl
set_option maxRecDepth 100000 in
theorem ft_M_town_395 : aFetch kc_M_town 395 = some (395, .iastore, 1, [], [], [], []) := rfl
set_option maxRecDepth 100000 in
theorem ft_M_town_396 : aFetch kc_M_town 396 = some (396, .aload_n 0, 1, [], [], [], []) := rfl
set_option maxRecDepth 100000 in
theorem ft_M_town_397 : aFetch kc_M_town 397 = some (397, .iconst 0, 1, [], [.int 0], [], []) := rfl
set_option maxRecDepth 100000 in
theorem ft_M_town_398 : aFetch kc_M_town 398 = some (398, .putfield 444, 3, [10, 72, 0, 0], [], [], []) := rfl
set_option maxRecDepth 100000 in
theorem ft_M_town_401 : aFetch kc_M_town 401 = some (401, .aload_n 0, 1, [], [], [], []) := rfl
set_option maxRecDepth 100000 in
theorem ft_M_town_402 : aFetch kc_M_town 402 = some (402, .iconst 0, 1, [], [.int 0], [], []) := rfl
set_option maxRecDepth 100000 in
theorem ft_M_town_403 : aFetch kc_M_town 403 = some (403, .putfield 447, 3, [10, 73, 0, 0], [], [], []) := rfl
set_option maxRecDepth 100000 in
theorem ft_M_town_406 : aFetch kc_M_town 406 = some (406, .aload_n 0, 1, [], [], [], []) := rfl
set_option maxRecDepth 100000 in
theorem ft_M_town_407 : aFetch kc_M_town 407 = some (407, .iconst 0, 1, [], [.int 0], [], []) := rfl
set_option maxRecDepth 100000 in
theorem ft_M_town_408 : aFetch kc_M_town 408 = some (408, .putfield 450, 3, [10, 83, 0, 0], [], [], []) := rfl
set_option maxRecDepth 100000 in
theorem ft_M_town_411 : aFetch kc_M_town 411 = some (411, .aload_n 0, 1, [], [], [], []) := rfl
set_option maxRecDepth 100000 in
theorem ft_M_town_412 : aFetch kc_M_town 412 = some (412, .iconst 0, 1, [], [.int 0], [], []) := rfl
set_option maxRecDepth 100000 in
theorem ft_M_town_413 : aFetch kc_M_town 413 = some (413, .putfield 453, 3, [10, 78, 0, 0], [], [], []) := rfl
set_option maxRecDepth 100000 in
theorem ft_M_town_416 : aFetch kc_M_town 416 = some (416, .iconst 0, 1, [], [.int 0], [], []) := rfl
set_option maxRecDepth 100000 in
theorem ft_M_town_417 : aFetch kc_M_town 417 = some (417, .istore_n 1, 1, [], [], [0, 1], []) := rfl
set_option maxRecDepth 100000 in
theorem ft_M_town_418 : aFetch kc_M_town 418 = some (418, .iload_n 1, 1, [], [], [], []) := rfl
set_option maxRecDepth 100000 in
theorem ft_M_town_419 : aFetch kc_M_town 419 = some (419, .iconst 3, 1, [], [.int 3], [], []) := rfl
set_option maxRecDepth 100000 in
theorem ft_M_town_420 : aFetch kc_M_town 420 = some (420, .if_icmp .ge 16, 3, [], [], [], [(436, [])]) := rfl
set_option maxRecDepth 100000 in
theorem ft_M_town_423 : aFetch kc_M_town 423 = some (423, .aload_n 0, 1, [], [], [], []) := rfl
set_option maxRecDepth 100000 in
theorem ft_M_town_424 : aFetch kc_M_town 424 = some (424, .getfield 181, 3, [10, 87, 3, 1], [], [], []) := rfl
set_option maxRecDepth 100000 in
theorem ft_M_town_427 : aFetch kc_M_town 427 = some (427, .iload_n 1, 1, [], [], [], []) := rfl
set_option maxRecDepth 100000 in
theorem ft_M_town_428 : aFetch kc_M_town 428 = some (428, .iconst 0, 1, [], [.int 0], [], []) := rfl
set_option maxRecDepth 100000 in
theorem ft_M_town_429 : aFetch kc_M_town 429 = some (429, .bastore, 1, [3], [], [], []) := rfl
set_option maxRecDepth 100000 in
theorem ft_M_town_430 : aFetch kc_M_town 430 = some (430, .iinc 1 1, 3, [], [.int 1], [], []) := rfl
set_option maxRecDepth 100000 in
theorem ft_M_town_433 : aFetch kc_M_town 433 = some (433, .goto (-15), 3, [], [], [], [(418, [0, 1])]) := rfl
set_option maxRecDepth 100000 in
theorem ft_M_town_436 : aFetch kc_M_town 436 = some (436, .aload_n 0, 1, [], [], [], []) := rfl
set_option maxRecDepth 100000 in
theorem ft_M_town_437 : aFetch kc_M_town 437 = some (437, .getfield 432, 3, [10, 53, 0, 0], [], [], []) := rfl
set_option maxRecDepth 100000 in
theorem ft_M_town_440 : aFetch kc_M_town 440 = some (440, .ireturn, 1, [0], [], [], []) := rfl
set_option maxHeartbeats 4000000 in
set_option maxRecDepth 100000 in
theorem q_M_town (d : Nat)  (m : aMem) : f_M_town (d + 1)  m = ((f_M_readAll d m).bind fun q1 => (if q1.1 120 2 ≤ 0 then (b_M_town_63 d 0 (aUI (aUI (aUI (aUI (aUI (aUI q1 120 52 (q1.1 120 46)) 120 53 (q1.1 120 47)) 120 54 (q1.1 120 48)) 120 55 (q1.1 120 49)) 120 56 (q1.1 120 50)) 120 24 (q1.1 120 23))) else (some ((-1), q1)))) := (show f_M_town (d + 1)  m = eI d kc_M_town (0, [(0, .ref 120)], []) m from rfl).trans ((g1I ft_M_town_0 (fr' := (1, [(0, .ref 120)], [.ref 120])) (m' := m) rfl).trans ((cVI ft_M_town_1 (as := [.ref 120]) (pc' := 4) (ls' := [(0, .ref 120)]) (st' := []) rfl).trans (bnd2 fun q1 => ((g1I ft_M_town_4 (fr' := (5, [(0, .ref 120)], [.ref 120])) (m' := q1) rfl).trans ((g1I ft_M_town_5 (fr' := (8, [(0, .ref 120)], [.int (q1.1 120 2)])) (m' := q1) rfl).trans ((b1I ft_M_town_8 (p := q1.1 120 2 ≤ 0) (f1 := (13, [(0, .ref 120)], [])) (f2 := (11, [(0, .ref 120)], [])) rfl).trans (ite2 ((g1I ft_M_town_13 (fr' := (14, [(0, .ref 120)], [.ref 120])) (m' := q1) rfl).trans ((g1I ft_M_town_14 (fr' := (15, [(0, .ref 120)], [.ref 120, .ref 120])) (m' := q1) rfl).trans ((g1I ft_M_town_15 (fr' := (18, [(0, .ref 120)], [.int (q1.1 120 46), .ref 120])) (m' := q1) rfl).trans ((g1I ft_M_town_18 (fr' := (21, [(0, .ref 120)], [])) (m' := (aUI q1 120 52 (q1.1 120 46))) rfl).trans ((g1I ft_M_town_21 (fr' := (22, [(0, .ref 120)], [.ref 120])) (m' := (aUI q1 120 52 (q1.1 120 46))) rfl).trans ((g1I ft_M_town_22 (fr' := (23, [(0, .ref 120)], [.ref 120, .ref 120])) (m' := (aUI q1 120 52 (q1.1 120 46))) rfl).trans ((g1I ft_M_town_23 (fr' := (26, [(0, .ref 120)], [.int (q1.1 120 47), .ref 120])) (m' := (aUI q1 120 52 (q1.1 120 46))) rfl).trans ((g1I ft_M_town_26 (fr' := (29, [(0, .ref 120)], [])) (m' := (aUI (aUI q1 120 52 (q1.1 120 46)) 120 53 (q1.1 120 47))) rfl).trans ((g1I ft_M_town_29 (fr' := (30, [(0, .ref 120)], [.ref 120])) (m' := (aUI (aUI q1 120 52 (q1.1 120 46)) 120 53 (q1.1 120 47))) rfl).trans ((g1I ft_M_town_30 (fr' := (31, [(0, .ref 120)], [.ref 120, .ref 120])) (m' := (aUI (aUI q1 120 52 (q1.1 120 46)) 120 53 (q1.1 120 47))) rfl).trans ((g1I ft_M_town_31 (fr' := (34, [(0, .ref 120)], [.int (q1.1 120 48), .ref 120])) (m' := (aUI (aUI q1 120 52 (q1.1 120 46)) 120 53 (q1.1 120 47))) rfl).trans ((g1I ft_M_town_34 (fr' := (37, [(0, .ref 120)], [])) (m' := (aUI (aUI (aUI q1 120 52 (q1.1 120 46)) 120 53 (q1.1 120 47)) 120 54 (q1.1 120 48))) rfl).trans ((g1I ft_M_town_37 (fr' := (38, [(0, .ref 120)], [.ref 120])) (m' := (aUI (aUI (aUI q1 120 52 (q1.1 120 46)) 120 53 (q1.1 120 47)) 120 54 (q1.1 120 48))) rfl).trans ((g1I ft_M_town_38 (fr' := (39, [(0, .ref 120)], [.ref 120, .ref 120])) (m' := (aUI (aUI (aUI q1 120 52 (q1.1 120 46)) 120 53 (q1.1 120 47)) 120 54 (q1.1 120 48))) rfl).trans ((g1I ft_M_town_39 (fr' := (42, [(0, .ref 120)], [.int (q1.1 120 49), .ref 120])) (m' := (aUI (aUI (aUI q1 120 52 (q1.1 120 46)) 120 53 (q1.1 120 47)) 120 54 (q1.1 120 48))) rfl).trans ((g1I ft_M_town_42 (fr' := (45, [(0, .ref 120)], [])) (m' := (aUI (aUI (aUI (aUI q1 120 52 (q1.1 120 46)) 120 53 (q1.1 120 47)) 120 54 (q1.1 120 48)) 120 55 (q1.1 120 49))) rfl).trans ((g1I ft_M_town_45 (fr' := (46, [(0, .ref 120)], [.ref 120])) (m' := (aUI (aUI (aUI (aUI q1 120 52 (q1.1 120 46)) 120 53 (q1.1 120 47)) 120 54 (q1.1 120 48)) 120 55 (q1.1 120 49))) rfl).trans ((g1I ft_M_town_46 (fr' := (47, [(0, .ref 120)], [.ref 120, .ref 120])) (m' := (aUI (aUI (aUI (aUI q1 120 52 (q1.1 120 46)) 120 53 (q1.1 120 47)) 120 54 (q1.1 120 48)) 120 55 (q1.1 120 49))) rfl).trans ((g1I ft_M_town_47 (fr' := (50, [(0, .ref 120)], [.int (q1.1 120 50), .ref 120])) (m' := (aUI (aUI (aUI (aUI q1 120 52 (q1.1 120 46)) 120 53 (q1.1 120 47)) 120 54 (q1.1 120 48)) 120 55 (q1.1 120 49))) rfl).trans ((g1I ft_M_town_50 (fr' := (53, [(0, .ref 120)], [])) (m' := (aUI (aUI (aUI (aUI (aUI q1 120 52 (q1.1 120 46)) 120 53 (q1.1 120 47)) 120 54 (q1.1 120 48)) 120 55 (q1.1 120 49)) 120 56 (q1.1 120 50))) rfl).trans ((g1I ft_M_town_53 (fr' := (54, [(0, .ref 120)], [.ref 120])) (m' := (aUI (aUI (aUI (aUI (aUI q1 120 52 (q1.1 120 46)) 120 53 (q1.1 120 47)) 120 54 (q1.1 120 48)) 120 55 (q1.1 120 49)) 120 56 (q1.1 120 50))) rfl).trans ((g1I ft_M_town_54 (fr' := (55, [(0, .ref 120)], [.ref 120, .ref 120])) (m' := (aUI (aUI (aUI (aUI (aUI q1 120 52 (q1.1 120 46)) 120 53 (q1.1 120 47)) 120 54 (q1.1 120 48)) 120 55 (q1.1 120 49)) 120 56 (q1.1 120 50))) rfl).trans ((g1I ft_M_town_55 (fr' := (58, [(0, .ref 120)], [.int (q1.1 120 23), .ref 120])) (m' := (aUI (aUI (aUI (aUI (aUI q1 120 52 (q1.1 120 46)) 120 53 (q1.1 120 47)) 120 54 (q1.1 120 48)) 120 55 (q1.1 120 49)) 120 56 (q1.1 120 50))) rfl).trans ((g1I ft_M_town_58 (fr' := (61, [(0, .ref 120)], [])) (m' := (aUI (aUI (aUI (aUI (aUI (aUI q1 120 52 (q1.1 120 46)) 120 53 (q1.1 120 47)) 120 54 (q1.1 120 48)) 120 55 (q1.1 120 49)) 120 56 (q1.1 120 50)) 120 24 (q1.1 120 23))) rfl).trans ((g1I ft_M_town_61 (fr' := (62, [(0, .ref 120)], [.int 0])) (m' := (aUI (aUI (aUI (aUI (aUI (aUI q1 120 52 (q1.1 120 46)) 120 53 (q1.1 120 47)) 120 54 (q1.1 120 48)) 120 55 (q1.1 120 49)) 120 56 (q1.1 120 50)) 120 24 (q1.1 120 23))) rfl).trans (g1I ft_M_town_62 (fr' := (63, [(0, .ref 120), (1, .int 0)], [])) (m' := (aUI (aUI (aUI (aUI (aUI (aUI q1 120 52 (q1.1 120 46)) 120 53 (q1.1 120 47)) 120 54 (q1.1 120 48)) 120 55 (q1.1 120 49)) 120 56 (q1.1 120 50)) 120 24 (q1.1 120 23))) rfl)))))))))))))))))))))))))) ((g1I ft_M_town_11 (fr' := (12, [(0, .ref 120)], [.int (-1)])) (m' := q1) rfl).trans (r1I ft_M_town_12 rfl)))))))))
set_option maxHeartbeats 4000000 in
set_option maxRecDepth 100000 in
theorem q_M_town_63 (d : Nat) (x1 : Int32) (m : aMem) : b_M_town_63 d x1 m = (if 2 ≤ x1 then (b_M_town_165 d 0 m) else (grd (inb x1 2) (grd (inb x1 2 && isB (m.1 131 x1.toNatClampNeg)) (grd (inb x1 2) (if (aUI m 132 x1.toNatClampNeg (m.1 131 x1.toNatClampNeg)).1 132 x1.toNatClampNeg = 0 then (grd (inb x1 2) (b_M_town_111 d x1 (320 * x1) (aUI (aUI m 132 x1.toNatClampNeg (m.1 131 x1.toNatClampNeg)) 128 x1.toNatClampNeg 0))) else (grd (inb x1 2) (grd (inb x1 2) (b_M_town_111 d x1 (320 * x1) (aUI (aUI m 132 x1.toNatClampNeg (m.1 131 x1.toNatClampNeg)) 128 x1.toNatClampNeg (m.1 125 x1.toNatClampNeg)))))))))) := ((g1I ft_M_town_63 (fr' := (64, [(0, .ref 120), (1, .int x1)], [.int x1])) (m' := m) rfl).trans ((g1I ft_M_town_64 (fr' := (65, [(0, .ref 120), (1, .int x1)], [.int 2, .int x1])) (m' := m) rfl).trans ((b1I ft_M_town_65 (p := 2 ≤ x1) (f1 := (163, [(0, .ref 120), (1, .int x1)], [])) (f2 := (68, [(0, .ref 120), (1, .int x1)], [])) rfl).trans (ite2 ((g1I ft_M_town_163 (fr' := (164, [(0, .ref 120), (1, .int x1)], [.int 0])) (m' := m) rfl).trans (g1I ft_M_town_164 (fr' := (165, [(0, .ref 120), (1, .int 0)], [])) (m' := m) rfl)) ((g1I ft_M_town_68 (fr' := (69, [(0, .ref 120), (1, .int x1)], [.ref 120])) (m' := m) rfl).trans ((g1I ft_M_town_69 (fr' := (72, [(0, .ref 120), (1, .int x1)], [.ref 132])) (m' := m) rfl).trans ((g1I ft_M_town_72 (fr' := (73, [(0, .ref 120), (1, .int x1)], [.int x1, .ref 132])) (m' := m) rfl).trans ((g1I ft_M_town_73 (fr' := (74, [(0, .ref 120), (1, .int x1)], [.ref 120, .int x1, .ref 132])) (m' := m) rfl).trans ((g1I ft_M_town_74 (fr' := (77, [(0, .ref 120), (1, .int x1)], [.ref 131, .int x1, .ref 132])) (m' := m) rfl).trans ((g1I ft_M_town_77 (fr' := (78, [(0, .ref 120), (1, .int x1)], [.int x1, .ref 131, .int x1, .ref 132])) (m' := m) rfl).trans ((g1Ig ft_M_town_78 (g := inb x1 2) (fr' := (79, [(0, .ref 120), (1, .int x1)], [.int (m.1 131 x1.toNatClampNeg), .int x1, .ref 132])) (m' := m) rfl).trans (grd2 ((g1Ig ft_M_town_79 (g := inb x1 2 && isB (m.1 131 x1.toNatClampNeg)) (fr' := (80, [(0, .ref 120), (1, .int x1)], [])) (m' := (aUI m 132 x1.toNatClampNeg (m.1 131 x1.toNatClampNeg))) rfl).trans (grd2 ((g1I ft_M_town_80 (fr' := (81, [(0, .ref 120), (1, .int x1)], [.ref 120])) (m' := (aUI m 132 x1.toNatClampNeg (m.1 131 x1.toNatClampNeg))) rfl).trans ((g1I ft_M_town_81 (fr' := (84, [(0, .ref 120), (1, .int x1)], [.ref 128])) (m' := (aUI m 132 x1.toNatClampNeg (m.1 131 x1.toNatClampNeg))) rfl).trans ((g1I ft_M_town_84 (fr' := (85, [(0, .ref 120), (1, .int x1)], [.int x1, .ref 128])) (m' := (aUI m 132 x1.toNatClampNeg (m.1 131 x1.toNatClampNeg))) rfl).trans ((g1I ft_M_town_85 (fr' := (86, [(0, .ref 120), (1, .int x1)], [.ref 120, .int x1, .ref 128])) (m' := (aUI m 132 x1.toNatClampNeg (m.1 131 x1.toNatClampNeg))) rfl).trans ((g1I ft_M_town_86 (fr' := (89, [(0, .ref 120), (1, .int x1)], [.ref 132, .int x1, .ref 128])) (m' := (aUI m 132 x1.toNatClampNeg (m.1 131 x1.toNatClampNeg))) rfl).trans ((g1I ft_M_town_89 (fr' := (90, [(0, .ref 120), (1, .int x1)], [.int x1, .ref 132, .int x1, .ref 128])) (m' := (aUI m 132 x1.toNatClampNeg (m.1 131 x1.toNatClampNeg))) rfl).trans ((g1Ig ft_M_town_90 (g := inb x1 2) (fr' := (91, [(0, .ref 120), (1, .int x1)], [.int ((aUI m 132 x1.toNatClampNeg (m.1 131 x1.toNatClampNeg)).1 132 x1.toNatClampNeg), .int x1, .ref 128])) (m' := (aUI m 132 x1.toNatClampNeg (m.1 131 x1.toNatClampNeg))) rfl).trans (grd2 ((b1I ft_M_town_91 (p := (aUI m 132 x1.toNatClampNeg (m.1 131 x1.toNatClampNeg)).1 132 x1.toNatClampNeg = 0) (f1 := (103, [(0, .ref 120), (1, .int x1)], [.int x1, .ref 128])) (f2 := (94, [(0, .ref 120), (1, .int x1)], [.int x1, .ref 128])) rfl).trans (ite2 ((g1I ft_M_town_103 (fr' := (104, [(0, .ref 120), (1, .int x1)], [.int 0, .int x1, .ref 128])) (m' := (aUI m 132 x1.toNatClampNeg (m.1 131 x1.toNatClampNeg))) rfl).trans ((g1Ig ft_M_town_104 (g := inb x1 2) (fr' := (105, [(0, .ref 120), (1, .int x1)], [])) (m' := (aUI (aUI m 132 x1.toNatClampNeg (m.1 131 x1.toNatClampNeg)) 128 x1.toNatClampNeg 0)) (st_is rfl)).trans (grd2 ((g1I ft_M_town_105 (fr' := (108, [(0, .ref 120), (1, .int x1)], [.int 320])) (m' := (aUI (aUI m 132 x1.toNatClampNeg (m.1 131 x1.toNatClampNeg)) 128 x1.toNatClampNeg 0)) rfl).trans ((g1I ft_M_town_108 (fr' := (109, [(0, .ref 120), (1, .int x1)], [.int x1, .int 320])) (m' := (aUI (aUI m 132 x1.toNatClampNeg (m.1 131 x1.toNatClampNeg)) 128 x1.toNatClampNeg 0)) rfl).trans ((g1I ft_M_town_109 (fr' := (110, [(0, .ref 120), (1, .int x1)], [.int (320 * x1)])) (m' := (aUI (aUI m 132 x1.toNatClampNeg (m.1 131 x1.toNatClampNeg)) 128 x1.toNatClampNeg 0)) rfl).trans (g1I ft_M_town_110 (fr' := (111, [(0, .ref 120), (1, .int x1), (2, .int (320 * x1))], [])) (m' := (aUI (aUI m 132 x1.toNatClampNeg (m.1 131 x1.toNatClampNeg)) 128 x1.toNatClampNeg 0)) rfl))))))) ((g1I ft_M_town_94 (fr' := (95, [(0, .ref 120), (1, .int x1)], [.ref 120, .int x1, .ref 128])) (m' := (aUI m 132 x1.toNatClampNeg (m.1 131 x1.toNatClampNeg))) rfl).trans ((g1I ft_M_town_95 (fr' := (98, [(0, .ref 120), (1, .int x1)], [.ref 125, .int x1, .ref 128])) (m' := (aUI m 132 x1.toNatClampNeg (m.1 131 x1.toNatClampNeg))) rfl).trans ((g1I ft_M_town_98 (fr' := (99, [(0, .ref 120), (1, .int x1)], [.int x1, .ref 125, .int x1, .ref 128])) (m' := (aUI m 132 x1.toNatClampNeg (m.1 131 x1.toNatClampNeg))) rfl).trans ((g1Ig ft_M_town_99 (g := inb x1 2) (fr' := (100, [(0, .ref 120), (1, .int x1)], [.int (m.1 125 x1.toNatClampNeg), .int x1, .ref 128])) (m' := (aUI m 132 x1.toNatClampNeg (m.1 131 x1.toNatClampNeg))) (st_ia rfl)).trans (grd2 ((g1I ft_M_town_100 (fr' := (104, [(0, .ref 120), (1, .int x1)], [.int (m.1 125 x1.toNatClampNeg), .int x1, .ref 128])) (m' := (aUI m 132 x1.toNatClampNeg (m.1 131 x1.toNatClampNeg))) rfl).trans ((g1Ig ft_M_town_104 (g := inb x1 2) (fr' := (105, [(0, .ref 120), (1, .int x1)], [])) (m' := (aUI (aUI m 132 x1.toNatClampNeg (m.1 131 x1.toNatClampNeg)) 128 x1.toNatClampNeg (m.1 125 x1.toNatClampNeg))) (st_is rfl)).trans (grd2 ((g1I ft_M_town_105 (fr' := (108, [(0, .ref 120), (1, .int x1)], [.int 320])) (m' := (aUI (aUI m 132 x1.toNatClampNeg (m.1 131 x1.toNatClampNeg)) 128 x1.toNatClampNeg (m.1 125 x1.toNatClampNeg))) rfl).trans ((g1I ft_M_town_108 (fr' := (109, [(0, .ref 120), (1, .int x1)], [.int x1, .int 320])) (m' := (aUI (aUI m 132 x1.toNatClampNeg (m.1 131 x1.toNatClampNeg)) 128 x1.toNatClampNeg (m.1 125 x1.toNatClampNeg))) rfl).trans ((g1I ft_M_town_109 (fr' := (110, [(0, .ref 120), (1, .int x1)], [.int (320 * x1)])) (m' := (aUI (aUI m 132 x1.toNatClampNeg (m.1 131 x1.toNatClampNeg)) 128 x1.toNatClampNeg (m.1 125 x1.toNatClampNeg))) rfl).trans (g1I ft_M_town_110 (fr' := (111, [(0, .ref 120), (1, .int x1), (2, .int (320 * x1))], [])) (m' := (aUI (aUI m 132 x1.toNatClampNeg (m.1 131 x1.toNatClampNeg)) 128 x1.toNatClampNeg (m.1 125 x1.toNatClampNeg))) rfl))))))))))))))))))))))))))))))))))))
set_option maxHeartbeats 4000000 in
set_option maxRecDepth 100000 in
theorem q_M_town_111 (d : Nat) (x1 : Int32) (x2 : Int32) (m : aMem) : b_M_town_111 d x1 x2 m = (grd (inb x1 2) (if (320 * x1) + (m.1 128 x1.toNatClampNeg) ≤ x2 then (b_M_town_63 d (x1 + 1) m) else (grd (inb x2 640) (grd (inb x2 640) (grd (inb x2 640) (grd (inb x2 640) (b_M_town_111 d x1 (x2 + 1) (aUI (aUI m 126 x2.toNatClampNeg (m.1 123 x2.toNatClampNeg)) 127 x2.toNatClampNeg (m.1 124 x2.toNatClampNeg))))))))) := ((g1I ft_M_town_111 (fr' := (112, [(0, .ref 120), (1, .int x1), (2, .int x2)], [.int x2])) (m' := m) rfl).trans ((g1I ft_M_town_112 (fr' := (115, [(0, .ref 120), (1, .int x1), (2, .int x2)], [.int 320, .int x2])) (m' := m) rfl).trans ((g1I ft_M_town_115 (fr' := (116, [(0, .ref 120), (1, .int x1), (2, .int x2)], [.int x1, .int 320, .int x2])) (m' := m) rfl).trans ((g1I ft_M_town_116 (fr' := (117, [(0, .ref 120), (1, .int x1), (2, .int x2)], [.int (320 * x1), .int x2])) (m' := m) rfl).trans ((g1I ft_M_town_117 (fr' := (118, [(0, .ref 120), (1, .int x1), (2, .int x2)], [.ref 120, .int (320 * x1), .int x2])) (m' := m) rfl).trans ((g1I ft_M_town_118 (fr' := (121, [(0, .ref 120), (1, .int x1), (2, .int x2)], [.ref 128, .int (320 * x1), .int x2])) (m' := m) rfl).trans ((g1I ft_M_town_121 (fr' := (122, [(0, .ref 120), (1, .int x1), (2, .int x2)], [.int x1, .ref 128, .int (320 * x1), .int x2])) (m' := m) rfl).trans ((g1Ig ft_M_town_122 (g := inb x1 2) (fr' := (123, [(0, .ref 120), (1, .int x1), (2, .int x2)], [.int (m.1 128 x1.toNatClampNeg), .int (320 * x1), .int x2])) (m' := m) (st_ia rfl)).trans (grd2 ((g1I ft_M_town_123 (fr' := (124, [(0, .ref 120), (1, .int x1), (2, .int x2)], [.int ((320 * x1) + (m.1 128 x1.toNatClampNeg)), .int x2])) (m' := m) rfl).trans ((b1I ft_M_town_124 (p := (320 * x1) + (m.1 128 x1.toNatClampNeg) ≤ x2) (f1 := (157, [(0, .ref 120), (1, .int x1), (2, .int x2)], [])) (f2 := (127, [(0, .ref 120), (1, .int x1), (2, .int x2)], [])) rfl).trans (ite2 ((g1I ft_M_town_157 (fr' := (160, [(1, .int (x1 + 1)), (0, .ref 120), (2, .int x2)], [])) (m' := m) rfl).trans (g1I ft_M_town_160 (fr' := (63, [(0, .ref 120), (1, .int (x1 + 1))], [])) (m' := m) rfl)) ((g1I ft_M_town_127 (fr' := (128, [(0, .ref 120), (1, .int x1), (2, .int x2)], [.ref 120])) (m' := m) rfl).trans ((g1I ft_M_town_128 (fr' := (131, [(0, .ref 120), (1, .int x1), (2, .int x2)], [.ref 126])) (m' := m) rfl).trans ((g1I ft_M_town_131 (fr' := (132, [(0, .ref 120), (1, .int x1), (2, .int x2)], [.int x2, .ref 126])) (m' := m) rfl).trans ((g1I ft_M_town_132 (fr' := (133, [(0, .ref 120), (1, .int x1), (2, .int x2)], [.ref 120, .int x2, .ref 126])) (m' := m) rfl).trans ((g1I ft_M_town_133 (fr' := (136, [(0, .ref 120), (1, .int x1), (2, .int x2)], [.ref 123, .int x2, .ref 126])) (m' := m) rfl).trans ((g1I ft_M_town_136 (fr' := (137, [(0, .ref 120), (1, .int x1), (2, .int x2)], [.int x2, .ref 123, .int x2, .ref 126])) (m' := m) rfl).trans ((g1Ig ft_M_town_137 (g := inb x2 640) (fr' := (138, [(0, .ref 120), (1, .int x1), (2, .int x2)], [.int (m.1 123 x2.toNatClampNeg), .int x2, .ref 126])) (m' := m) (st_ia rfl)).trans (grd2 ((g1Ig ft_M_town_138 (g := inb x2 640) (fr' := (139, [(0, .ref 120), (1, .int x1), (2, .int x2)], [])) (m' := (aUI m 126 x2.toNatClampNeg (m.1 123 x2.toNatClampNeg))) (st_is rfl)).trans (grd2 ((g1I ft_M_town_139 (fr' := (140, [(0, .ref 120), (1, .int x1), (2, .int x2)], [.ref 120])) (m' := (aUI m 126 x2.toNatClampNeg (m.1 123 x2.toNatClampNeg))) rfl).trans ((g1I ft_M_town_140 (fr' := (143, [(0, .ref 120), (1, .int x1), (2, .int x2)], [.ref 127])) (m' := (aUI m 126 x2.toNatClampNeg (m.1 123 x2.toNatClampNeg))) rfl).trans ((g1I ft_M_town_143 (fr' := (144, [(0, .ref 120), (1, .int x1), (2, .int x2)], [.int x2, .ref 127])) (m' := (aUI m 126 x2.toNatClampNeg (m.1 123 x2.toNatClampNeg))) rfl).trans ((g1I ft_M_town_144 (fr' := (145, [(0, .ref 120), (1, .int x1), (2, .int x2)], [.ref 120, .int x2, .ref 127])) (m' := (aUI m 126 x2.toNatClampNeg (m.1 123 x2.toNatClampNeg))) rfl).trans ((g1I ft_M_town_145 (fr' := (148, [(0, .ref 120), (1, .int x1), (2, .int x2)], [.ref 124, .int x2, .ref 127])) (m' := (aUI m 126 x2.toNatClampNeg (m.1 123 x2.toNatClampNeg))) rfl).trans ((g1I ft_M_town_148 (fr' := (149, [(0, .ref 120), (1, .int x1), (2, .int x2)], [.int x2, .ref 124, .int x2, .ref 127])) (m' := (aUI m 126 x2.toNatClampNeg (m.1 123 x2.toNatClampNeg))) rfl).trans ((g1Ig ft_M_town_149 (g := inb x2 640) (fr' := (150, [(0, .ref 120), (1, .int x1), (2, .int x2)], [.int (m.1 124 x2.toNatClampNeg), .int x2, .ref 127])) (m' := (aUI m 126 x2.toNatClampNeg (m.1 123 x2.toNatClampNeg))) (st_ia rfl)).trans (grd2 ((g1Ig ft_M_town_150 (g := inb x2 640) (fr' := (151, [(0, .ref 120), (1, .int x1), (2, .int x2)], [])) (m' := (aUI (aUI m 126 x2.toNatClampNeg (m.1 123 x2.toNatClampNeg)) 127 x2.toNatClampNeg (m.1 124 x2.toNatClampNeg))) (st_is rfl)).trans (grd2 ((g1I ft_M_town_151 (fr' := (154, [(2, .int (x2 + 1)), (0, .ref 120), (1, .int x1)], [])) (m' := (aUI (aUI m 126 x2.toNatClampNeg (m.1 123 x2.toNatClampNeg)) 127 x2.toNatClampNeg (m.1 124 x2.toNatClampNeg))) rfl).trans (g1I ft_M_town_154 (fr' := (111, [(0, .ref 120), (1, .int x1), (2, .int (x2 + 1))], [])) (m' := (aUI (aUI m 126 x2.toNatClampNeg (m.1 123 x2.toNatClampNeg)) 127 x2.toNatClampNeg (m.1 124 x2.toNatClampNeg))) rfl))))))))))))))))))))))))))))))))))
set_option maxHeartbeats 4000000 in
set_option maxRecDepth 100000 in
theorem q_M_town_165 (d : Nat) (x1 : Int32) (m : aMem) : b_M_town_165 d x1 m = (if 43 ≤ x1 then (b_M_town_186 d 0 m) else (grd (inb x1 43) (b_M_town_165 d (x1 + 1) (aUI m 152 x1.toNatClampNeg 0)))) := ((g1I ft_M_town_165 (fr' := (166, [(0, .ref 120), (1, .int x1)], [.int x1])) (m' := m) rfl).trans ((g1I ft_M_town_166 (fr' := (168, [(0, .ref 120), (1, .int x1)], [.int 43, .int x1])) (m' := m) rfl).trans ((b1I ft_M_town_168 (p := 43 ≤ x1) (f1 := (184, [(0, .ref 120), (1, .int x1)], [])) (f2 := (171, [(0, .ref 120), (1, .int x1)], [])) rfl).trans (ite2 ((g1I ft_M_town_184 (fr' := (185, [(0, .ref 120), (1, .int x1)], [.int 0])) (m' := m) rfl).trans (g1I ft_M_town_185 (fr' := (186, [(0, .ref 120), (1, .int 0)], [])) (m' := m) rfl)) ((g1I ft_M_town_171 (fr' := (172, [(0, .ref 120), (1, .int x1)], [.ref 120])) (m' := m) rfl).trans ((g1I ft_M_town_172 (fr' := (175, [(0, .ref 120), (1, .int x1)], [.ref 152])) (m' := m) rfl).trans ((g1I ft_M_town_175 (fr' := (176, [(0, .ref 120), (1, .int x1)], [.int x1, .ref 152])) (m' := m) rfl).trans ((g1I ft_M_town_176 (fr' := (177, [(0, .ref 120), (1, .int x1)], [.int 0, .int x1, .ref 152])) (m' := m) rfl).trans ((g1Ig ft_M_town_177 (g := inb x1 43) (fr' := (178, [(0, .ref 120), (1, .int x1)], [])) (m' := (aUI m 152 x1.toNatClampNeg 0)) (st_is rfl)).trans (grd2 ((g1I ft_M_town_178 (fr' := (181, [(1, .int (x1 + 1)), (0, .ref 120)], [])) (m' := (aUI m 152 x1.toNatClampNeg 0)) rfl).trans (g1I ft_M_town_181 (fr' := (165, [(0, .ref 120), (1, .int (x1 + 1))], [])) (m' := (aUI m 152 x1.toNatClampNeg 0)) rfl))))))))))))
set_option maxHeartbeats 4000000 in
set_option maxRecDepth 100000 in
theorem q_M_town_186 (d : Nat) (x1 : Int32) (m : aMem) : b_M_town_186 d x1 m = (if 4 ≤ x1 then (b_M_town_274 d 0 m) else (grd (inb x1 4) (grd (inb x1 4) (grd (inb x1 4) (grd (inb x1 4) (grd (inb x1 4) (grd (inb x1 4) (grd (inb x1 4) (grd (inb x1 4) (if m.1 120 54 ≤ x1 then (grd (inb (32 + x1) 43) (b_M_town_186 d (x1 + 1) (aUI (aUI (aUI (aUI (aUI m 136 x1.toNatClampNeg (m.1 134 x1.toNatClampNeg)) 137 x1.toNatClampNeg (m.1 135 x1.toNatClampNeg)) 150 x1.toNatClampNeg (m.1 148 x1.toNatClampNeg)) 151 x1.toNatClampNeg (m.1 149 x1.toNatClampNeg)) 152 ((32 + x1 : Int32).toNatClampNeg) 0))) else (grd (inb x1 4) (grd (inb (32 + x1) 43) (b_M_town_186 d (x1 + 1) (aUI (aUI (aUI (aUI (aUI m 136 x1.toNatClampNeg (m.1 134 x1.toNatClampNeg)) 137 x1.toNatClampNeg (m.1 135 x1.toNatClampNeg)) 150 x1.toNatClampNeg (m.1 148 x1.toNatClampNeg)) 151 x1.toNatClampNeg (m.1 149 x1.toNatClampNeg)) 152 ((32 + x1 : Int32).toNatClampNeg) (m.1 149 x1.toNatClampNeg))))))))))))))) := ((g1I ft_M_town_186 (fr' := (187, [(0, .ref 120), (1, .int x1)], [.int x1])) (m' := m) rfl).trans ((g1I ft_M_town_187 (fr' := (188, [(0, .ref 120), (1, .int x1)], [.int 4, .int x1])) (m' := m) rfl).trans ((b1I ft_M_town_188 (p := 4 ≤ x1) (f1 := (272, [(0, .ref 120), (1, .int x1)], [])) (f2 := (191, [(0, .ref 120), (1, .int x1)], [])) rfl).trans (ite2 ((g1I ft_M_town_272 (fr' := (273, [(0, .ref 120), (1, .int x1)], [.int 0])) (m' := m) rfl).trans (g1I ft_M_town_273 (fr' := (274, [(0, .ref 120), (1, .int 0)], [])) (m' := m) rfl)) ((g1I ft_M_town_191 (fr' := (192, [(0, .ref 120), (1, .int x1)], [.ref 120])) (m' := m) rfl).trans ((g1I ft_M_town_192 (fr' := (195, [(0, .ref 120), (1, .int x1)], [.ref 136])) (m' := m) rfl).trans ((g1I ft_M_town_195 (fr' := (196, [(0, .ref 120), (1, .int x1)], [.int x1, .ref 136])) (m' := m) rfl).trans ((g1I ft_M_town_196 (fr' := (197, [(0, .ref 120), (1, .int x1)], [.ref 120, .int x1, .ref 136])) (m' := m) rfl).trans ((g1I ft_M_town_197 (fr' := (200, [(0, .ref 120), (1, .int x1)], [.ref 134, .int x1, .ref 136])) (m' := m) rfl).trans ((g1I ft_M_town_200 (fr' := (201, [(0, .ref 120), (1, .int x1)], [.int x1, .ref 134, .int x1, .ref 136])) (m' := m) rfl).trans ((g1Ig ft_M_town_201 (g := inb x1 4) (fr' := (202, [(0, .ref 120), (1, .int x1)], [.int (m.1 134 x1.toNatClampNeg), .int x1, .ref 136])) (m' := m) (st_ia rfl)).trans (grd2 ((g1Ig ft_M_town_202 (g := inb x1 4) (fr' := (203, [(0, .ref 120), (1, .int x1)], [])) (m' := (aUI m 136 x1.toNatClampNeg (m.1 134 x1.toNatClampNeg))) (st_is rfl)).trans (grd2 ((g1I ft_M_town_203 (fr' := (204, [(0, .ref 120), (1, .int x1)], [.ref 120])) (m' := (aUI m 136 x1.toNatClampNeg (m.1 134 x1.toNatClampNeg))) rfl).trans ((g1I ft_M_town_204 (fr' := (207, [(0, .ref 120), (1, .int x1)], [.ref 137])) (m' := (aUI m 136 x1.toNatClampNeg (m.1 134 x1.toNatClampNeg))) rfl).trans ((g1I ft_M_town_207 (fr' := (208, [(0, .ref 120), (1, .int x1)], [.int x1, .ref 137])) (m' := (aUI m 136 x1.toNatClampNeg (m.1 134 x1.toNatClampNeg))) rfl).trans ((g1I ft_M_town_208 (fr' := (209, [(0, .ref 120), (1, .int x1)], [.ref 120, .int x1, .ref 137])) (m' := (aUI m 136 x1.toNatClampNeg (m.1 134 x1.toNatClampNeg))) rfl).trans ((g1I ft_M_town_209 (fr' := (212, [(0, .ref 120), (1, .int x1)], [.ref 135, .int x1, .ref 137])) (m' := (aUI m 136 x1.toNatClampNeg (m.1 134 x1.toNatClampNeg))) rfl).trans ((g1I ft_M_town_212 (fr' := (213, [(0, .ref 120), (1, .int x1)], [.int x1, .ref 135, .int x1, .ref 137])) (m' := (aUI m 136 x1.toNatClampNeg (m.1 134 x1.toNatClampNeg))) rfl).trans ((g1Ig ft_M_town_213 (g := inb x1 4) (fr' := (214, [(0, .ref 120), (1, .int x1)], [.int (m.1 135 x1.toNatClampNeg), .int x1, .ref 137])) (m' := (aUI m 136 x1.toNatClampNeg (m.1 134 x1.toNatClampNeg))) (st_ia rfl)).trans (grd2 ((g1Ig ft_M_town_214 (g := inb x1 4) (fr' := (215, [(0, .ref 120), (1, .int x1)], [])) (m' := (aUI (aUI m 136 x1.toNatClampNeg (m.1 134 x1.toNatClampNeg)) 137 x1.toNatClampNeg (m.1 135 x1.toNatClampNeg))) (st_is rfl)).trans (grd2 ((g1I ft_M_town_215 (fr' := (216, [(0, .ref 120), (1, .int x1)], [.ref 120])) (m' := (aUI (aUI m 136 x1.toNatClampNeg (m.1 134 x1.toNatClampNeg)) 137 x1.toNatClampNeg (m.1 135 x1.toNatClampNeg))) rfl).trans ((g1I ft_M_town_216 (fr' := (219, [(0, .ref 120), (1, .int x1)], [.ref 150])) (m' := (aUI (aUI m 136 x1.toNatClampNeg (m.1 134 x1.toNatClampNeg)) 137 x1.toNatClampNeg (m.1 135 x1.toNatClampNeg))) rfl).trans ((g1I ft_M_town_219 (fr' := (220, [(0, .ref 120), (1, .int x1)], [.int x1, .ref 150])) (m' := (aUI (aUI m 136 x1.toNatClampNeg (m.1 134 x1.toNatClampNeg)) 137 x1.toNatClampNeg (m.1 135 x1.toNatClampNeg))) rfl).trans ((g1I ft_M_town_220 (fr' := (221, [(0, .ref 120), (1, .int x1)], [.ref 120, .int x1, .ref 150])) (m' := (aUI (aUI m 136 x1.toNatClampNeg (m.1 134 x1.toNatClampNeg)) 137 x1.toNatClampNeg (m.1 135 x1.toNatClampNeg))) rfl).trans ((g1I ft_M_town_221 (fr' := (224, [(0, .ref 120), (1, .int x1)], [.ref 148, .int x1, .ref 150])) (m' := (aUI (aUI m 136 x1.toNatClampNeg (m.1 134 x1.toNatClampNeg)) 137 x1.toNatClampNeg (m.1 135 x1.toNatClampNeg))) rfl).trans ((g1I ft_M_town_224 (fr' := (225, [(0, .ref 120), (1, .int x1)], [.int x1, .ref 148, .int x1, .ref 150])) (m' := (aUI (aUI m 136 x1.toNatClampNeg (m.1 134 x1.toNatClampNeg)) 137 x1.toNatClampNeg (m.1 135 x1.toNatClampNeg))) rfl).trans ((g1Ig ft_M_town_225 (g := inb x1 4) (fr' := (226, [(0, .ref 120), (1, .int x1)], [.int (m.1 148 x1.toNatClampNeg), .int x1, .ref 150])) (m' := (aUI (aUI m 136 x1.toNatClampNeg (m.1 134 x1.toNatClampNeg)) 137 x1.toNatClampNeg (m.1 135 x1.toNatClampNeg))) (st_ia rfl)).trans (grd2 ((g1Ig ft_M_town_226 (g := inb x1 4) (fr' := (227, [(0, .ref 120), (1, .int x1)], [])) (m' := (aUI (aUI (aUI m 136 x1.toNatClampNeg (m.1 134 x1.toNatClampNeg)) 137 x1.toNatClampNeg (m.1 135 x1.toNatClampNeg)) 150 x1.toNatClampNeg (m.1 148 x1.toNatClampNeg))) (st_is rfl)).trans (grd2 ((g1I ft_M_town_227 (fr' := (228, [(0, .ref 120), (1, .int x1)], [.ref 120])) (m' := (aUI (aUI (aUI m 136 x1.toNatClampNeg (m.1 134 x1.toNatClampNeg)) 137 x1.toNatClampNeg (m.1 135 x1.toNatClampNeg)) 150 x1.toNatClampNeg (m.1 148 x1.toNatClampNeg))) rfl).trans ((g1I ft_M_town_228 (fr' := (231, [(0, .ref 120), (1, .int x1)], [.ref 151])) (m' := (aUI (aUI (aUI m 136 x1.toNatClampNeg (m.1 134 x1.toNatClampNeg)) 137 x1.toNatClampNeg (m.1 135 x1.toNatClampNeg)) 150 x1.toNatClampNeg (m.1 148 x1.toNatClampNeg))) rfl).trans ((g1I ft_M_town_231 (fr' := (232, [(0, .ref 120), (1, .int x1)], [.int x1, .ref 151])) (m' := (aUI (aUI (aUI m 136 x1.toNatClampNeg (m.1 134 x1.toNatClampNeg)) 137 x1.toNatClampNeg (m.1 135 x1.toNatClampNeg)) 150 x1.toNatClampNeg (m.1 148 x1.toNatClampNeg))) rfl).trans ((g1I ft_M_town_232 (fr' := (233, [(0, .ref 120), (1, .int x1)], [.ref 120, .int x1, .ref 151])) (m' := (aUI (aUI (aUI m 136 x1.toNatClampNeg (m.1 134 x1.toNatClampNeg)) 137 x1.toNatClampNeg (m.1 135 x1.toNatClampNeg)) 150 x1.toNatClampNeg (m.1 148 x1.toNatClampNeg))) rfl).trans ((g1I ft_M_town_233 (fr' := (236, [(0, .ref 120), (1, .int x1)], [.ref 149, .int x1, .ref 151])) (m' := (aUI (aUI (aUI m 136 x1.toNatClampNeg (m.1 134 x1.toNatClampNeg)) 137 x1.toNatClampNeg (m.1 135 x1.toNatClampNeg)) 150 x1.toNatClampNeg (m.1 148 x1.toNatClampNeg))) rfl).trans ((g1I ft_M_town_236 (fr' := (237, [(0, .ref 120), (1, .int x1)], [.int x1, .ref 149, .int x1, .ref 151])) (m' := (aUI (aUI (aUI m 136 x1.toNatClampNeg (m.1 134 x1.toNatClampNeg)) 137 x1.toNatClampNeg (m.1 135 x1.toNatClampNeg)) 150 x1.toNatClampNeg (m.1 148 x1.toNatClampNeg))) rfl).trans ((g1Ig ft_M_town_237 (g := inb x1 4) (fr' := (238, [(0, .ref 120), (1, .int x1)], [.int (m.1 149 x1.toNatClampNeg), .int x1, .ref 151])) (m' := (aUI (aUI (aUI m 136 x1.toNatClampNeg (m.1 134 x1.toNatClampNeg)) 137 x1.toNatClampNeg (m.1 135 x1.toNatClampNeg)) 150 x1.toNatClampNeg (m.1 148 x1.toNatClampNeg))) (st_ia rfl)).trans (grd2 ((g1Ig ft_M_town_238 (g := inb x1 4) (fr' := (239, [(0, .ref 120), (1, .int x1)], [])) (m' := (aUI (aUI (aUI (aUI m 136 x1.toNatClampNeg (m.1 134 x1.toNatClampNeg)) 137 x1.toNatClampNeg (m.1 135 x1.toNatClampNeg)) 150 x1.toNatClampNeg (m.1 148 x1.toNatClampNeg)) 151 x1.toNatClampNeg (m.1 149 x1.toNatClampNeg))) (st_is rfl)).trans (grd2 ((g1I ft_M_town_239 (fr' := (240, [(0, .ref 120), (1, .int x1)], [.ref 120])) (m' := (aUI (aUI (aUI (aUI m 136 x1.toNatClampNeg (m.1 134 x1.toNatClampNeg)) 137 x1.toNatClampNeg (m.1 135 x1.toNatClampNeg)) 150 x1.toNatClampNeg (m.1 148 x1.toNatClampNeg)) 151 x1.toNatClampNeg (m.1 149 x1.toNatClampNeg))) rfl).trans ((g1I ft_M_town_240 (fr' := (243, [(0, .ref 120), (1, .int x1)], [.ref 152])) (m' := (aUI (aUI (aUI (aUI m 136 x1.toNatClampNeg (m.1 134 x1.toNatClampNeg)) 137 x1.toNatClampNeg (m.1 135 x1.toNatClampNeg)) 150 x1.toNatClampNeg (m.1 148 x1.toNatClampNeg)) 151 x1.toNatClampNeg (m.1 149 x1.toNatClampNeg))) rfl).trans ((g1I ft_M_town_243 (fr' := (245, [(0, .ref 120), (1, .int x1)], [.int 32, .ref 152])) (m' := (aUI (aUI (aUI (aUI m 136 x1.toNatClampNeg (m.1 134 x1.toNatClampNeg)) 137 x1.toNatClampNeg (m.1 135 x1.toNatClampNeg)) 150 x1.toNatClampNeg (m.1 148 x1.toNatClampNeg)) 151 x1.toNatClampNeg (m.1 149 x1.toNatClampNeg))) rfl).trans ((g1I ft_M_town_245 (fr' := (246, [(0, .ref 120), (1, .int x1)], [.int x1, .int 32, .ref 152])) (m' := (aUI (aUI (aUI (aUI m 136 x1.toNatClampNeg (m.1 134 x1.toNatClampNeg)) 137 x1.toNatClampNeg (m.1 135 x1.toNatClampNeg)) 150 x1.toNatClampNeg (m.1 148 x1.toNatClampNeg)) 151 x1.toNatClampNeg (m.1 149 x1.toNatClampNeg))) rfl).trans ((g1I ft_M_town_246 (fr' := (247, [(0, .ref 120), (1, .int x1)], [.int (32 + x1), .ref 152])) (m' := (aUI (aUI (aUI (aUI m 136 x1.toNatClampNeg (m.1 134 x1.toNatClampNeg)) 137 x1.toNatClampNeg (m.1 135 x1.toNatClampNeg)) 150 x1.toNatClampNeg (m.1 148 x1.toNatClampNeg)) 151 x1.toNatClampNeg (m.1 149 x1.toNatClampNeg))) rfl).trans ((g1I ft_M_town_247 (fr' := (248, [(0, .ref 120), (1, .int x1)], [.int x1, .int (32 + x1), .ref 152])) (m' := (aUI (aUI (aUI (aUI m 136 x1.toNatClampNeg (m.1 134 x1.toNatClampNeg)) 137 x1.toNatClampNeg (m.1 135 x1.toNatClampNeg)) 150 x1.toNatClampNeg (m.1 148 x1.toNatClampNeg)) 151 x1.toNatClampNeg (m.1 149 x1.toNatClampNeg))) rfl).trans ((g1I ft_M_town_248 (fr' := (249, [(0, .ref 120), (1, .int x1)], [.ref 120, .int x1, .int (32 + x1), .ref 152])) (m' := (aUI (aUI (aUI (aUI m 136 x1.toNatClampNeg (m.1 134 x1.toNatClampNeg)) 137 x1.toNatClampNeg (m.1 135 x1.toNatClampNeg)) 150 x1.toNatClampNeg (m.1 148 x1.toNatClampNeg)) 151 x1.toNatClampNeg (m.1 149 x1.toNatClampNeg))) rfl).trans ((g1I ft_M_town_249 (fr' := (252, [(0, .ref 120), (1, .int x1)], [.int (m.1 120 54), .int x1, .int (32 + x1), .ref 152])) (m' := (aUI (aUI (aUI (aUI m 136 x1.toNatClampNeg (m.1 134 x1.toNatClampNeg)) 137 x1.toNatClampNeg (m.1 135 x1.toNatClampNeg)) 150 x1.toNatClampNeg (m.1 148 x1.toNatClampNeg)) 151 x1.toNatClampNeg (m.1 149 x1.toNatClampNeg))) rfl).trans ((b1I ft_M_town_252 (p := m.1 120 54 ≤ x1) (f1 := (264, [(0, .ref 120), (1, .int x1)], [.int (32 + x1), .ref 152])) (f2 := (255, [(0, .ref 120), (1, .int x1)], [.int (32 + x1), .ref 152])) rfl).trans (ite2 ((g1I ft_M_town_264 (fr' := (265, [(0, .ref 120), (1, .int x1)], [.int 0, .int (32 + x1), .ref 152])) (m' := (aUI (aUI (aUI (aUI m 136 x1.toNatClampNeg (m.1 134 x1.toNatClampNeg)) 137 x1.toNatClampNeg (m.1 135 x1.toNatClampNeg)) 150 x1.toNatClampNeg (m.1 148 x1.toNatClampNeg)) 151 x1.toNatClampNeg (m.1 149 x1.toNatClampNeg))) rfl).trans ((g1Ig ft_M_town_265 (g := inb (32 + x1) 43) (fr' := (266, [(0, .ref 120), (1, .int x1)], [])) (m' := (aUI (aUI (aUI (aUI (aUI m 136 x1.toNatClampNeg (m.1 134 x1.toNatClampNeg)) 137 x1.toNatClampNeg (m.1 135 x1.toNatClampNeg)) 150 x1.toNatClampNeg (m.1 148 x1.toNatClampNeg)) 151 x1.toNatClampNeg (m.1 149 x1.toNatClampNeg)) 152 ((32 + x1 : Int32).toNatClampNeg) 0)) (st_is rfl)).trans (grd2 ((g1I ft_M_town_266 (fr' := (269, [(1, .int (x1 + 1)), (0, .ref 120)], [])) (m' := (aUI (aUI (aUI (aUI (aUI m 136 x1.toNatClampNeg (m.1 134 x1.toNatClampNeg)) 137 x1.toNatClampNeg (m.1 135 x1.toNatClampNeg)) 150 x1.toNatClampNeg (m.1 148 x1.toNatClampNeg)) 151 x1.toNatClampNeg (m.1 149 x1.toNatClampNeg)) 152 ((32 + x1 : Int32).toNatClampNeg) 0)) rfl).trans (g1I ft_M_town_269 (fr' := (186, [(0, .ref 120), (1, .int (x1 + 1))], [])) (m' := (aUI (aUI (aUI (aUI (aUI m 136 x1.toNatClampNeg (m.1 134 x1.toNatClampNeg)) 137 x1.toNatClampNeg (m.1 135 x1.toNatClampNeg)) 150 x1.toNatClampNeg (m.1 148 x1.toNatClampNeg)) 151 x1.toNatClampNeg (m.1 149 x1.toNatClampNeg)) 152 ((32 + x1 : Int32).toNatClampNeg) 0)) rfl))))) ((g1I ft_M_town_255 (fr' := (256, [(0, .ref 120), (1, .int x1)], [.ref 120, .int (32 + x1), .ref 152])) (m' := (aUI (aUI (aUI (aUI m 136 x1.toNatClampNeg (m.1 134 x1.toNatClampNeg)) 137 x1.toNatClampNeg (m.1 135 x1.toNatClampNeg)) 150 x1.toNatClampNeg (m.1 148 x1.toNatClampNeg)) 151 x1.toNatClampNeg (m.1 149 x1.toNatClampNeg))) rfl).trans ((g1I ft_M_town_256 (fr' := (259, [(0, .ref 120), (1, .int x1)], [.ref 149, .int (32 + x1), .ref 152])) (m' := (aUI (aUI (aUI (aUI m 136 x1.toNatClampNeg (m.1 134 x1.toNatClampNeg)) 137 x1.toNatClampNeg (m.1 135 x1.toNatClampNeg)) 150 x1.toNatClampNeg (m.1 148 x1.toNatClampNeg)) 151 x1.toNatClampNeg (m.1 149 x1.toNatClampNeg))) rfl).trans ((g1I ft_M_town_259 (fr' := (260, [(0, .ref 120), (1, .int x1)], [.int x1, .ref 149, .int (32 + x1), .ref 152])) (m' := (aUI (aUI (aUI (aUI m 136 x1.toNatClampNeg (m.1 134 x1.toNatClampNeg)) 137 x1.toNatClampNeg (m.1 135 x1.toNatClampNeg)) 150 x1.toNatClampNeg (m.1 148 x1.toNatClampNeg)) 151 x1.toNatClampNeg (m.1 149 x1.toNatClampNeg))) rfl).trans ((g1Ig ft_M_town_260 (g := inb x1 4) (fr' := (261, [(0, .ref 120), (1, .int x1)], [.int (m.1 149 x1.toNatClampNeg), .int (32 + x1), .ref 152])) (m' := (aUI (aUI (aUI (aUI m 136 x1.toNatClampNeg (m.1 134 x1.toNatClampNeg)) 137 x1.toNatClampNeg (m.1 135 x1.toNatClampNeg)) 150 x1.toNatClampNeg (m.1 148 x1.toNatClampNeg)) 151 x1.toNatClampNeg (m.1 149 x1.toNatClampNeg))) (st_ia rfl)).trans (grd2 ((g1I ft_M_town_261 (fr' := (265, [(0, .ref 120), (1, .int x1)], [.int (m.1 149 x1.toNatClampNeg), .int (32 + x1), .ref 152])) (m' := (aUI (aUI (aUI (aUI m 136 x1.toNatClampNeg (m.1 134 x1.toNatClampNeg)) 137 x1.toNatClampNeg (m.1 135 x1.toNatClampNeg)) 150 x1.toNatClampNeg (m.1 148 x1.toNatClampNeg)) 151 x1.toNatClampNeg (m.1 149 x1.toNatClampNeg))) rfl).trans ((g1Ig ft_M_town_265 (g := inb (32 + x1) 43) (fr' := (266, [(0, .ref 120), (1, .int x1)], [])) (m' := (aUI (aUI (aUI (aUI (aUI m 136 x1.toNatClampNeg (m.1 134 x1.toNatClampNeg)) 137 x1.toNatClampNeg (m.1 135 x1.toNatClampNeg)) 150 x1.toNatClampNeg (m.1 148 x1.toNatClampNeg)) 151 x1.toNatClampNeg (m.1 149 x1.toNatClampNeg)) 152 ((32 + x1 : Int32).toNatClampNeg) (m.1 149 x1.toNatClampNeg))) (st_is rfl)).trans (grd2 ((g1I ft_M_town_266 (fr' := (269, [(1, .int (x1 + 1)), (0, .ref 120)], [])) (m' := (aUI (aUI (aUI (aUI (aUI m 136 x1.toNatClampNeg (m.1 134 x1.toNatClampNeg)) 137 x1.toNatClampNeg (m.1 135 x1.toNatClampNeg)) 150 x1.toNatClampNeg (m.1 148 x1.toNatClampNeg)) 151 x1.toNatClampNeg (m.1 149 x1.toNatClampNeg)) 152 ((32 + x1 : Int32).toNatClampNeg) (m.1 149 x1.toNatClampNeg))) rfl).trans (g1I ft_M_town_269 (fr' := (186, [(0, .ref 120), (1, .int (x1 + 1))], [])) (m' := (aUI (aUI (aUI (aUI (aUI m 136 x1.toNatClampNeg (m.1 134 x1.toNatClampNeg)) 137 x1.toNatClampNeg (m.1 135 x1.toNatClampNeg)) 150 x1.toNatClampNeg (m.1 148 x1.toNatClampNeg)) 151 x1.toNatClampNeg (m.1 149 x1.toNatClampNeg)) 152 ((32 + x1 : Int32).toNatClampNeg) (m.1 149 x1.toNatClampNeg))) rfl))))))))))))))))))))))))))))))))))))))))))))))))))))))))))))))))
set_option maxHeartbeats 4000000 in
set_option maxRecDepth 100000 in
theorem q_M_town_274 (d : Nat) (x1 : Int32) (m : aMem) : b_M_town_274 d x1 m = (if 8 ≤ x1 then (b_M_town_418 d 0 (aUI (aUI (aUI (aUI (aUI m 152 42 (m.1 120 51)) 120 72 0) 120 73 0) 120 83 0) 120 78 0)) else (grd (inb x1 8) (grd (inb x1 8) (grd (inb x1 8) (grd (inb x1 8) (grd (inb x1 8) (grd (inb x1 8) (grd (inb x1 8) (grd (inb x1 8) (if m.1 120 53 ≤ x1 then (b_M_town_351 d x1 x1 0 (aUI (aUI (aUI (aUI m 144 x1.toNatClampNeg (m.1 138 x1.toNatClampNeg)) 145 x1.toNatClampNeg (m.1 139 x1.toNatClampNeg)) 146 x1.toNatClampNeg (m.1 140 x1.toNatClampNeg)) 147 x1.toNatClampNeg (m.1 141 x1.toNatClampNeg))) else (grd (inb x1 8) (b_M_town_351 d x1 x1 (m.1 142 x1.toNatClampNeg) (aUI (aUI (aUI (aUI m 144 x1.toNatClampNeg (m.1 138 x1.toNatClampNeg)) 145 x1.toNatClampNeg (m.1 139 x1.toNatClampNeg)) 146 x1.toNatClampNeg (m.1 140 x1.toNatClampNeg)) 147 x1.toNatClampNeg (m.1 141 x1.toNatClampNeg)))))))))))))) := ((g1I ft_M_town_274 (fr' := (275, [(0, .ref 120), (1, .int x1)], [.int x1])) (m' := m) rfl).trans ((g1I ft_M_town_275 (fr' := (277, [(0, .ref 120), (1, .int x1)], [.int 8, .int x1])) (m' := m) rfl).trans ((b1I ft_M_town_277 (p := 8 ≤ x1) (f1 := (385, [(0, .ref 120), (1, .int x1)], [])) (f2 := (280, [(0, .ref 120), (1, .int x1)], [])) rfl).trans (ite2 ((g1I ft_M_town_385 (fr' := (386, [(0, .ref 120), (1, .int x1)], [.ref 120])) (m' := m) rfl).trans ((g1I ft_M_town_386 (fr' := (389, [(0, .ref 120), (1, .int x1)], [.ref 152])) (m' := m) rfl).trans ((g1I ft_M_town_389 (fr' := (391, [(0, .ref 120), (1, .int x1)], [.int 42, .ref 152])) (m' := m) rfl).trans ((g1I ft_M_town_391 (fr' := (392, [(0, .ref 120), (1, .int x1)], [.ref 120, .int 42, .ref 152])) (m' := m) rfl).trans ((g1I ft_M_town_392 (fr' := (395, [(0, .ref 120), (1, .int x1)], [.int (m.1 120 51), .int 42, .ref 152])) (m' := m) rfl).trans ((g1I ft_M_town_395 (fr' := (396, [(0, .ref 120), (1, .int x1)], [])) (m' := (aUI m 152 42 (m.1 120 51))) rfl).trans ((g1I ft_M_town_396 (fr' := (397, [(0, .ref 120), (1, .int x1)], [.ref 120])) (m' := (aUI m 152 42 (m.1 120 51))) rfl).trans ((g1I ft_M_town_397 (fr' := (398, [(0, .ref 120), (1, .int x1)], [.int 0, .ref 120])) (m' := (aUI m 152 42 (m.1 120 51))) rfl).trans ((g1I ft_M_town_398 (fr' := (401, [(0, .ref 120), (1, .int x1)], [])) (m' := (aUI (aUI m 152 42 (m.1 120 51)) 120 72 0)) rfl).trans ((g1I ft_M_town_401 (fr' := (402, [(0, .ref 120), (1, .int x1)], [.ref 120])) (m' := (aUI (aUI m 152 42 (m.1 120 51)) 120 72 0)) rfl).trans ((g1I ft_M_town_402 (fr' := (403, [(0, .ref 120), (1, .int x1)], [.int 0, .ref 120])) (m' := (aUI (aUI m 152 42 (m.1 120 51)) 120 72 0)) rfl).trans ((g1I ft_M_town_403 (fr' := (406, [(0, .ref 120), (1, .int x1)], [])) (m' := (aUI (aUI (aUI m 152 42 (m.1 120 51)) 120 72 0) 120 73 0)) rfl).trans ((g1I ft_M_town_406 (fr' := (407, [(0, .ref 120), (1, .int x1)], [.ref 120])) (m' := (aUI (aUI (aUI m 152 42 (m.1 120 51)) 120 72 0) 120 73 0)) rfl).trans ((g1I ft_M_town_407 (fr' := (408, [(0, .ref 120), (1, .int x1)], [.int 0, .ref 120])) (m' := (aUI (aUI (aUI m 152 42 (m.1 120 51)) 120 72 0) 120 73 0)) rfl).trans ((g1I ft_M_town_408 (fr' := (411, [(0, .ref 120), (1, .int x1)], [])) (m' := (aUI (aUI (aUI (aUI m 152 42 (m.1 120 51)) 120 72 0) 120 73 0) 120 83 0)) rfl).trans ((g1I ft_M_town_411 (fr' := (412, [(0, .ref 120), (1, .int x1)], [.ref 120])) (m' := (aUI (aUI (aUI (aUI m 152 42 (m.1 120 51)) 120 72 0) 120 73 0) 120 83 0)) rfl).trans ((g1I ft_M_town_412 (fr' := (413, [(0, .ref 120), (1, .int x1)], [.int 0, .ref 120])) (m' := (aUI (aUI (aUI (aUI m 152 42 (m.1 120 51)) 120 72 0) 120 73 0) 120 83 0)) rfl).trans ((g1I ft_M_town_413 (fr' := (416, [(0, .ref 120), (1, .int x1)], [])) (m' := (aUI (aUI (aUI (aUI (aUI m 152 42 (m.1 120 51)) 120 72 0) 120 73 0) 120 83 0) 120 78 0)) rfl).trans ((g1I ft_M_town_416 (fr' := (417, [(0, .ref 120), (1, .int x1)], [.int 0])) (m' := (aUI (aUI (aUI (aUI (aUI m 152 42 (m.1 120 51)) 120 72 0) 120 73 0) 120 83 0) 120 78 0)) rfl).trans (g1I ft_M_town_417 (fr' := (418, [(0, .ref 120), (1, .int 0)], [])) (m' := (aUI (aUI (aUI (aUI (aUI m 152 42 (m.1 120 51)) 120 72 0) 120 73 0) 120 83 0) 120 78 0)) rfl)))))))))))))))))))) ((g1I ft_M_town_280 (fr' := (281, [(0, .ref 120), (1, .int x1)], [.ref 120])) (m' := m) rfl).trans ((g1I ft_M_town_281 (fr' := (284, [(0, .ref 120), (1, .int x1)], [.ref 144])) (m' := m) rfl).trans ((g1I ft_M_town_284 (fr' := (285, [(0, .ref 120), (1, .int x1)], [.int x1, .ref 144])) (m' := m) rfl).trans ((g1I ft_M_town_285 (fr' := (286, [(0, .ref 120), (1, .int x1)], [.ref 120, .int x1, .ref 144])) (m' := m) rfl).trans ((g1I ft_M_town_286 (fr' := (289, [(0, .ref 120), (1, .int x1)], [.ref 138, .int x1, .ref 144])) (m' := m) rfl).trans ((g1I ft_M_town_289 (fr' := (290, [(0, .ref 120), (1, .int x1)], [.int x1, .ref 138, .int x1, .ref 144])) (m' := m) rfl).trans ((g1Ig ft_M_town_290 (g := inb x1 8) (fr' := (291, [(0, .ref 120), (1, .int x1)], [.int (m.1 138 x1.toNatClampNeg), .int x1, .ref 144])) (m' := m) (st_ia rfl)).trans (grd2 ((g1Ig ft_M_town_291 (g := inb x1 8) (fr' := (292, [(0, .ref 120), (1, .int x1)], [])) (m' := (aUI m 144 x1.toNatClampNeg (m.1 138 x1.toNatClampNeg))) (st_is rfl)).trans (grd2 ((g1I ft_M_town_292 (fr' := (293, [(0, .ref 120), (1, .int x1)], [.ref 120])) (m' := (aUI m 144 x1.toNatClampNeg (m.1 138 x1.toNatClampNeg))) rfl).trans ((g1I ft_M_town_293 (fr' := (296, [(0, .ref 120), (1, .int x1)], [.ref 145])) (m' := (aUI m 144 x1.toNatClampNeg (m.1 138 x1.toNatClampNeg))) rfl).trans ((g1I ft_M_town_296 (fr' := (297, [(0, .ref 120), (1, .int x1)], [.int x1, .ref 145])) (m' := (aUI m 144 x1.toNatClampNeg (m.1 138 x1.toNatClampNeg))) rfl).trans ((g1I ft_M_town_297 (fr' := (298, [(0, .ref 120), (1, .int x1)], [.ref 120, .int x1, .ref 145])) (m' := (aUI m 144 x1.toNatClampNeg (m.1 138 x1.toNatClampNeg))) rfl).trans ((g1I ft_M_town_298 (fr' := (301, [(0, .ref 120), (1, .int x1)], [.ref 139, .int x1, .ref 145])) (m' := (aUI m 144 x1.toNatClampNeg (m.1 138 x1.toNatClampNeg))) rfl).trans ((g1I ft_M_town_301 (fr' := (302, [(0, .ref 120), (1, .int x1)], [.int x1, .ref 139, .int x1, .ref 145])) (m' := (aUI m 144 x1.toNatClampNeg (m.1 138 x1.toNatClampNeg))) rfl).trans ((g1Ig ft_M_town_302 (g := inb x1 8) (fr' := (303, [(0, .ref 120), (1, .int x1)], [.int (m.1 139 x1.toNatClampNeg), .int x1, .ref 145])) (m' := (aUI m 144 x1.toNatClampNeg (m.1 138 x1.toNatClampNeg))) (st_ia rfl)).trans (grd2 ((g1Ig ft_M_town_303 (g := inb x1 8) (fr' := (304, [(0, .ref 120), (1, .int x1)], [])) (m' := (aUI (aUI m 144 x1.toNatClampNeg (m.1 138 x1.toNatClampNeg)) 145 x1.toNatClampNeg (m.1 139 x1.toNatClampNeg))) (st_is rfl)).trans (grd2 ((g1I ft_M_town_304 (fr' := (305, [(0, .ref 120), (1, .int x1)], [.ref 120])) (m' := (aUI (aUI m 144 x1.toNatClampNeg (m.1 138 x1.toNatClampNeg)) 145 x1.toNatClampNeg (m.1 139 x1.toNatClampNeg))) rfl).trans ((g1I ft_M_town_305 (fr' := (308, [(0, .ref 120), (1, .int x1)], [.ref 146])) (m' := (aUI (aUI m 144 x1.toNatClampNeg (m.1 138 x1.toNatClampNeg)) 145 x1.toNatClampNeg (m.1 139 x1.toNatClampNeg))) rfl).trans ((g1I ft_M_town_308 (fr' := (309, [(0, .ref 120), (1, .int x1)], [.int x1, .ref 146])) (m' := (aUI (aUI m 144 x1.toNatClampNeg (m.1 138 x1.toNatClampNeg)) 145 x1.toNatClampNeg (m.1 139 x1.toNatClampNeg))) rfl).trans ((g1I ft_M_town_309 (fr' := (310, [(0, .ref 120), (1, .int x1)], [.ref 120, .int x1, .ref 146])) (m' := (aUI (aUI m 144 x1.toNatClampNeg (m.1 138 x1.toNatClampNeg)) 145 x1.toNatClampNeg (m.1 139 x1.toNatClampNeg))) rfl).trans ((g1I ft_M_town_310 (fr' := (313, [(0, .ref 120), (1, .int x1)], [.ref 140, .int x1, .ref 146])) (m' := (aUI (aUI m 144 x1.toNatClampNeg (m.1 138 x1.toNatClampNeg)) 145 x1.toNatClampNeg (m.1 139 x1.toNatClampNeg))) rfl).trans ((g1I ft_M_town_313 (fr' := (314, [(0, .ref 120), (1, .int x1)], [.int x1, .ref 140, .int x1, .ref 146])) (m' := (aUI (aUI m 144 x1.toNatClampNeg (m.1 138 x1.toNatClampNeg)) 145 x1.toNatClampNeg (m.1 139 x1.toNatClampNeg))) rfl).trans ((g1Ig ft_M_town_314 (g := inb x1 8) (fr' := (315, [(0, .ref 120), (1, .int x1)], [.int (m.1 140 x1.toNatClampNeg), .int x1, .ref 146])) (m' := (aUI (aUI m 144 x1.toNatClampNeg (m.1 138 x1.toNatClampNeg)) 145 x1.toNatClampNeg (m.1 139 x1.toNatClampNeg))) (st_ia rfl)).trans (grd2 ((g1Ig ft_M_town_315 (g := inb x1 8) (fr' := (316, [(0, .ref 120), (1, .int x1)], [])) (m' := (aUI (aUI (aUI m 144 x1.toNatClampNeg (m.1 138 x1.toNatClampNeg)) 145 x1.toNatClampNeg (m.1 139 x1.toNatClampNeg)) 146 x1.toNatClampNeg (m.1 140 x1.toNatClampNeg))) (st_is rfl)).trans (grd2 ((g1I ft_M_town_316 (fr' := (317, [(0, .ref 120), (1, .int x1)], [.ref 120])) (m' := (aUI (aUI (aUI m 144 x1.toNatClampNeg (m.1 138 x1.toNatClampNeg)) 145 x1.toNatClampNeg (m.1 139 x1.toNatClampNeg)) 146 x1.toNatClampNeg (m.1 140 x1.toNatClampNeg))) rfl).trans ((g1I ft_M_town_317 (fr' := (320, [(0, .ref 120), (1, .int x1)], [.ref 147])) (m' := (aUI (aUI (aUI m 144 x1.toNatClampNeg (m.1 138 x1.toNatClampNeg)) 145 x1.toNatClampNeg (m.1 139 x1.toNatClampNeg)) 146 x1.toNatClampNeg (m.1 140 x1.toNatClampNeg))) rfl).trans ((g1I ft_M_town_320 (fr' := (321, [(0, .ref 120), (1, .int x1)], [.int x1, .ref 147])) (m' := (aUI (aUI (aUI m 144 x1.toNatClampNeg (m.1 138 x1.toNatClampNeg)) 145 x1.toNatClampNeg (m.1 139 x1.toNatClampNeg)) 146 x1.toNatClampNeg (m.1 140 x1.toNatClampNeg))) rfl).trans ((g1I ft_M_town_321 (fr' := (322, [(0, .ref 120), (1, .int x1)], [.ref 120, .int x1, .ref 147])) (m' := (aUI (aUI (aUI m 144 x1.toNatClampNeg (m.1 138 x1.toNatClampNeg)) 145 x1.toNatClampNeg (m.1 139 x1.toNatClampNeg)) 146 x1.toNatClampNeg (m.1 140 x1.toNatClampNeg))) rfl).trans ((g1I ft_M_town_322 (fr' := (325, [(0, .ref 120), (1, .int x1)], [.ref 141, .int x1, .ref 147])) (m' := (aUI (aUI (aUI m 144 x1.toNatClampNeg (m.1 138 x1.toNatClampNeg)) 145 x1.toNatClampNeg (m.1 139 x1.toNatClampNeg)) 146 x1.toNatClampNeg (m.1 140 x1.toNatClampNeg))) rfl).trans ((g1I ft_M_town_325 (fr' := (326, [(0, .ref 120), (1, .int x1)], [.int x1, .ref 141, .int x1, .ref 147])) (m' := (aUI (aUI (aUI m 144 x1.toNatClampNeg (m.1 138 x1.toNatClampNeg)) 145 x1.toNatClampNeg (m.1 139 x1.toNatClampNeg)) 146 x1.toNatClampNeg (m.1 140 x1.toNatClampNeg))) rfl).trans ((g1Ig ft_M_town_326 (g := inb x1 8) (fr' := (327, [(0, .ref 120), (1, .int x1)], [.int (m.1 141 x1.toNatClampNeg), .int x1, .ref 147])) (m' := (aUI (aUI (aUI m 144 x1.toNatClampNeg (m.1 138 x1.toNatClampNeg)) 145 x1.toNatClampNeg (m.1 139 x1.toNatClampNeg)) 146 x1.toNatClampNeg (m.1 140 x1.toNatClampNeg))) (st_ia rfl)).trans (grd2 ((g1Ig ft_M_town_327 (g := inb x1 8) (fr' := (328, [(0, .ref 120), (1, .int x1)], [])) (m' := (aUI (aUI (aUI (aUI m 144 x1.toNatClampNeg (m.1 138 x1.toNatClampNeg)) 145 x1.toNatClampNeg (m.1 139 x1.toNatClampNeg)) 146 x1.toNatClampNeg (m.1 140 x1.toNatClampNeg)) 147 x1.toNatClampNeg (m.1 141 x1.toNatClampNeg))) (st_is rfl)).trans (grd2 ((g1I ft_M_town_328 (fr' := (329, [(0, .ref 120), (1, .int x1)], [.ref 120])) (m' := (aUI (aUI (aUI (aUI m 144 x1.toNatClampNeg (m.1 138 x1.toNatClampNeg)) 145 x1.toNatClampNeg (m.1 139 x1.toNatClampNeg)) 146 x1.toNatClampNeg (m.1 140 x1.toNatClampNeg)) 147 x1.toNatClampNeg (m.1 141 x1.toNatClampNeg))) rfl).trans ((g1I ft_M_town_329 (fr' := (332, [(0, .ref 120), (1, .int x1)], [.ref 152])) (m' := (aUI (aUI (aUI (aUI m 144 x1.toNatClampNeg (m.1 138 x1.toNatClampNeg)) 145 x1.toNatClampNeg (m.1 139 x1.toNatClampNeg)) 146 x1.toNatClampNeg (m.1 140 x1.toNatClampNeg)) 147 x1.toNatClampNeg (m.1 141 x1.toNatClampNeg))) rfl).trans ((g1I ft_M_town_332 (fr' := (333, [(0, .ref 120), (1, .int x1)], [.int x1, .ref 152])) (m' := (aUI (aUI (aUI (aUI m 144 x1.toNatClampNeg (m.1 138 x1.toNatClampNeg)) 145 x1.toNatClampNeg (m.1 139 x1.toNatClampNeg)) 146 x1.toNatClampNeg (m.1 140 x1.toNatClampNeg)) 147 x1.toNatClampNeg (m.1 141 x1.toNatClampNeg))) rfl).trans ((g1I ft_M_town_333 (fr' := (334, [(0, .ref 120), (1, .int x1)], [.int x1, .int x1, .ref 152])) (m' := (aUI (aUI (aUI (aUI m 144 x1.toNatClampNeg (m.1 138 x1.toNatClampNeg)) 145 x1.toNatClampNeg (m.1 139 x1.toNatClampNeg)) 146 x1.toNatClampNeg (m.1 140 x1.toNatClampNeg)) 147 x1.toNatClampNeg (m.1 141 x1.toNatClampNeg))) rfl).trans ((g1I ft_M_town_334 (fr' := (335, [(0, .ref 120), (1, .int x1)], [.ref 120, .int x1, .int x1, .ref 152])) (m' := (aUI (aUI (aUI (aUI m 144 x1.toNatClampNeg (m.1 138 x1.toNatClampNeg)) 145 x1.toNatClampNeg (m.1 139 x1.toNatClampNeg)) 146 x1.toNatClampNeg (m.1 140 x1.toNatClampNeg)) 147 x1.toNatClampNeg (m.1 141 x1.toNatClampNeg))) rfl).trans ((g1I ft_M_town_335 (fr' := (338, [(0, .ref 120), (1, .int x1)], [.int (m.1 120 53), .int x1, .int x1, .ref 152])) (m' := (aUI (aUI (aUI (aUI m 144 x1.toNatClampNeg (m.1 138 x1.toNatClampNeg)) 145 x1.toNatClampNeg (m.1 139 x1.toNatClampNeg)) 146 x1.toNatClampNeg (m.1 140 x1.toNatClampNeg)) 147 x1.toNatClampNeg (m.1 141 x1.toNatClampNeg))) rfl).trans ((b1I ft_M_town_338 (p := m.1 120 53 ≤ x1) (f1 := (350, [(0, .ref 120), (1, .int x1)], [.int x1, .ref 152])) (f2 := (341, [(0, .ref 120), (1, .int x1)], [.int x1, .ref 152])) rfl).trans (ite2 (g1I ft_M_town_350 (fr' := (351, [(0, .ref 120), (1, .int x1)], [.int 0, .int x1, .ref 152])) (m' := (aUI (aUI (aUI (aUI m 144 x1.toNatClampNeg (m.1 138 x1.toNatClampNeg)) 145 x1.toNatClampNeg (m.1 139 x1.toNatClampNeg)) 146 x1.toNatClampNeg (m.1 140 x1.toNatClampNeg)) 147 x1.toNatClampNeg (m.1 141 x1.toNatClampNeg))) rfl) ((g1I ft_M_town_341 (fr' := (342, [(0, .ref 120), (1, .int x1)], [.ref 120, .int x1, .ref 152])) (m' := (aUI (aUI (aUI (aUI m 144 x1.toNatClampNeg (m.1 138 x1.toNatClampNeg)) 145 x1.toNatClampNeg (m.1 139 x1.toNatClampNeg)) 146 x1.toNatClampNeg (m.1 140 x1.toNatClampNeg)) 147 x1.toNatClampNeg (m.1 141 x1.toNatClampNeg))) rfl).trans ((g1I ft_M_town_342 (fr' := (345, [(0, .ref 120), (1, .int x1)], [.ref 142, .int x1, .ref 152])) (m' := (aUI (aUI (aUI (aUI m 144 x1.toNatClampNeg (m.1 138 x1.toNatClampNeg)) 145 x1.toNatClampNeg (m.1 139 x1.toNatClampNeg)) 146 x1.toNatClampNeg (m.1 140 x1.toNatClampNeg)) 147 x1.toNatClampNeg (m.1 141 x1.toNatClampNeg))) rfl).trans ((g1I ft_M_town_345 (fr' := (346, [(0, .ref 120), (1, .int x1)], [.int x1, .ref 142, .int x1, .ref 152])) (m' := (aUI (aUI (aUI (aUI m 144 x1.toNatClampNeg (m.1 138 x1.toNatClampNeg)) 145 x1.toNatClampNeg (m.1 139 x1.toNatClampNeg)) 146 x1.toNatClampNeg (m.1 140 x1.toNatClampNeg)) 147 x1.toNatClampNeg (m.1 141 x1.toNatClampNeg))) rfl).trans ((g1Ig ft_M_town_346 (g := inb x1 8) (fr' := (347, [(0, .ref 120), (1, .int x1)], [.int (m.1 142 x1.toNatClampNeg), .int x1, .ref 152])) (m' := (aUI (aUI (aUI (aUI m 144 x1.toNatClampNeg (m.1 138 x1.toNatClampNeg)) 145 x1.toNatClampNeg (m.1 139 x1.toNatClampNeg)) 146 x1.toNatClampNeg (m.1 140 x1.toNatClampNeg)) 147 x1.toNatClampNeg (m.1 141 x1.toNatClampNeg))) (st_ia rfl)).trans (grd2 (g1I ft_M_town_347 (fr' := (351, [(0, .ref 120), (1, .int x1)], [.int (m.1 142 x1.toNatClampNeg), .int x1, .ref 152])) (m' := (aUI (aUI (aUI (aUI m 144 x1.toNatClampNeg (m.1 138 x1.toNatClampNeg)) 145 x1.toNatClampNeg (m.1 139 x1.toNatClampNeg)) 146 x1.toNatClampNeg (m.1 140 x1.toNatClampNeg)) 147 x1.toNatClampNeg (m.1 141 x1.toNatClampNeg))) rfl))))))))))))))))))))))))))))))))))))))))))))))))))))))))))
set_option maxHeartbeats 4000000 in
set_option maxRecDepth 100000 in
theorem q_M_town_351 (d : Nat) (x1 : Int32) (s1 : Int32) (s2 : Int32) (m : aMem) : b_M_town_351 d x1 s1 s2 m = (grd (inb s1 43) (if m.1 120 53 ≤ x1 then (grd (inb (8 + x1) 43) (b_M_town_274 d (x1 + 1) (aUI (aUI m 152 s1.toNatClampNeg s2) 152 ((8 + x1 : Int32).toNatClampNeg) (-1)))) else (grd (inb x1 8) (grd (inb (8 + x1) 43) (b_M_town_274 d (x1 + 1) (aUI (aUI m 152 s1.toNatClampNeg s2) 152 ((8 + x1 : Int32).toNatClampNeg) (m.1 143 x1.toNatClampNeg))))))) := ((g1Ig ft_M_town_351 (g := inb s1 43) (fr' := (352, [(0, .ref 120), (1, .int x1)], [])) (m' := (aUI m 152 s1.toNatClampNeg s2)) (st_is rfl)).trans (grd2 ((g1I ft_M_town_352 (fr' := (353, [(0, .ref 120), (1, .int x1)], [.ref 120])) (m' := (aUI m 152 s1.toNatClampNeg s2)) rfl).trans ((g1I ft_M_town_353 (fr' := (356, [(0, .ref 120), (1, .int x1)], [.ref 152])) (m' := (aUI m 152 s1.toNatClampNeg s2)) rfl).trans ((g1I ft_M_town_356 (fr' := (358, [(0, .ref 120), (1, .int x1)], [.int 8, .ref 152])) (m' := (aUI m 152 s1.toNatClampNeg s2)) rfl).trans ((g1I ft_M_town_358 (fr' := (359, [(0, .ref 120), (1, .int x1)], [.int x1, .int 8, .ref 152])) (m' := (aUI m 152 s1.toNatClampNeg s2)) rfl).trans ((g1I ft_M_town_359 (fr' := (360, [(0, .ref 120), (1, .int x1)], [.int (8 + x1), .ref 152])) (m' := (aUI m 152 s1.toNatClampNeg s2)) rfl).trans ((g1I ft_M_town_360 (fr' := (361, [(0, .ref 120), (1, .int x1)], [.int x1, .int (8 + x1), .ref 152])) (m' := (aUI m 152 s1.toNatClampNeg s2)) rfl).trans ((g1I ft_M_town_361 (fr' := (362, [(0, .ref 120), (1, .int x1)], [.ref 120, .int x1, .int (8 + x1), .ref 152])) (m' := (aUI m 152 s1.toNatClampNeg s2)) rfl).trans ((g1I ft_M_town_362 (fr' := (365, [(0, .ref 120), (1, .int x1)], [.int (m.1 120 53), .int x1, .int (8 + x1), .ref 152])) (m' := (aUI m 152 s1.toNatClampNeg s2)) rfl).trans ((b1I ft_M_town_365 (p := m.1 120 53 ≤ x1) (f1 := (377, [(0, .ref 120), (1, .int x1)], [.int (8 + x1), .ref 152])) (f2 := (368, [(0, .ref 120), (1, .int x1)], [.int (8 + x1), .ref 152])) rfl).trans (ite2 ((g1I ft_M_town_377 (fr' := (378, [(0, .ref 120), (1, .int x1)], [.int (-1), .int (8 + x1), .ref 152])) (m' := (aUI m 152 s1.toNatClampNeg s2)) rfl).trans ((g1Ig ft_M_town_378 (g := inb (8 + x1) 43) (fr' := (379, [(0, .ref 120), (1, .int x1)], [])) (m' := (aUI (aUI m 152 s1.toNatClampNeg s2) 152 ((8 + x1 : Int32).toNatClampNeg) (-1))) (st_is rfl)).trans (grd2 ((g1I ft_M_town_379 (fr' := (382, [(1, .int (x1 + 1)), (0, .ref 120)], [])) (m' := (aUI (aUI m 152 s1.toNatClampNeg s2) 152 ((8 + x1 : Int32).toNatClampNeg) (-1))) rfl).trans (g1I ft_M_town_382 (fr' := (274, [(0, .ref 120), (1, .int (x1 + 1))], [])) (m' := (aUI (aUI m 152 s1.toNatClampNeg s2) 152 ((8 + x1 : Int32).toNatClampNeg) (-1))) rfl))))) ((g1I ft_M_town_368 (fr' := (369, [(0, .ref 120), (1, .int x1)], [.ref 120, .int (8 + x1), .ref 152])) (m' := (aUI m 152 s1.toNatClampNeg s2)) rfl).trans ((g1I ft_M_town_369 (fr' := (372, [(0, .ref 120), (1, .int x1)], [.ref 143, .int (8 + x1), .ref 152])) (m' := (aUI m 152 s1.toNatClampNeg s2)) rfl).trans ((g1I ft_M_town_372 (fr' := (373, [(0, .ref 120), (1, .int x1)], [.int x1, .ref 143, .int (8 + x1), .ref 152])) (m' := (aUI m 152 s1.toNatClampNeg s2)) rfl).trans ((g1Ig ft_M_town_373 (g := inb x1 8) (fr' := (374, [(0, .ref 120), (1, .int x1)], [.int (m.1 143 x1.toNatClampNeg), .int (8 + x1), .ref 152])) (m' := (aUI m 152 s1.toNatClampNeg s2)) (st_ia rfl)).trans (grd2 ((g1I ft_M_town_374 (fr' := (378, [(0, .ref 120), (1, .int x1)], [.int (m.1 143 x1.toNatClampNeg), .int (8 + x1), .ref 152])) (m' := (aUI m 152 s1.toNatClampNeg s2)) rfl).trans ((g1Ig ft_M_town_378 (g := inb (8 + x1) 43) (fr' := (379, [(0, .ref 120), (1, .int x1)], [])) (m' := (aUI (aUI m 152 s1.toNatClampNeg s2) 152 ((8 + x1 : Int32).toNatClampNeg) (m.1 143 x1.toNatClampNeg))) (st_is rfl)).trans (grd2 ((g1I ft_M_town_379 (fr' := (382, [(1, .int (x1 + 1)), (0, .ref 120)], [])) (m' := (aUI (aUI m 152 s1.toNatClampNeg s2) 152 ((8 + x1 : Int32).toNatClampNeg) (m.1 143 x1.toNatClampNeg))) rfl).trans (g1I ft_M_town_382 (fr' := (274, [(0, .ref 120), (1, .int (x1 + 1))], [])) (m' := (aUI (aUI m 152 s1.toNatClampNeg s2) 152 ((8 + x1 : Int32).toNatClampNeg) (m.1 143 x1.toNatClampNeg))) rfl))))))))))))))))))))))
set_option maxHeartbeats 4000000 in
set_option maxRecDepth 100000 in
theorem q_M_town_418 (d : Nat) (x1 : Int32) (m : aMem) : b_M_town_418 d x1 m = (if 3 ≤ x1 then (some (m.1 120 53, m)) else (grd (inb x1 3 && true) (b_M_town_418 d (x1 + 1) (aUI m 174 x1.toNatClampNeg 0)))) := ((g1I ft_M_town_418 (fr' := (419, [(0, .ref 120), (1, .int x1)], [.int x1])) (m' := m) rfl).trans ((g1I ft_M_town_419 (fr' := (420, [(0, .ref 120), (1, .int x1)], [.int 3, .int x1])) (m' := m) rfl).trans ((b1I ft_M_town_420 (p := 3 ≤ x1) (f1 := (436, [(0, .ref 120), (1, .int x1)], [])) (f2 := (423, [(0, .ref 120), (1, .int x1)], [])) rfl).trans (ite2 ((g1I ft_M_town_436 (fr' := (437, [(0, .ref 120), (1, .int x1)], [.ref 120])) (m' := m) rfl).trans ((g1I ft_M_town_437 (fr' := (440, [(0, .ref 120), (1, .int x1)], [.int (m.1 120 53)])) (m' := m) rfl).trans (r1I ft_M_town_440 rfl))) ((g1I ft_M_town_423 (fr' := (424, [(0, .ref 120), (1, .int x1)], [.ref 120])) (m' := m) rfl).trans ((g1I ft_M_town_424 (fr' := (427, [(0, .ref 120), (1, .int x1)], [.ref 174])) (m' := m) rfl).trans ((g1I ft_M_town_427 (fr' := (428, [(0, .ref 120), (1, .int x1)], [.int x1, .ref 174])) (m' := m) rfl).trans ((g1I ft_M_town_428 (fr' := (429, [(0, .ref 120), (1, .int x1)], [.int 0, .int x1, .ref 174])) (m' := m) rfl).trans ((g1Ig ft_M_town_429 (g := inb x1 3 && true) (fr' := (430, [(0, .ref 120), (1, .int x1)], [])) (m' := (aUI m 174 x1.toNatClampNeg 0)) rfl).trans (grd2 ((g1I ft_M_town_430 (fr' := (433, [(1, .int (x1 + 1)), (0, .ref 120)], [])) (m' := (aUI m 174 x1.toNatClampNeg 0)) rfl).trans (g1I ft_M_town_433 (fr' := (418, [(0, .ref 120), (1, .int (x1 + 1))], [])) (m' := (aUI m 174 x1.toNatClampNeg 0)) rfl))))))))))))
set_option maxRecDepth 100000 in
theorem ft_M_readAll_0 : aFetch kc_M_readAll 0 = some (0, .aload_n 0, 1, [], [], [], []) := rfl
set_option maxRecDepth 100000 in
theorem ft_M_readAll_1 : aFetch kc_M_readAll 1 = some (1, .aload_n 0, 1, [], [], [], []) := rfl
set_option maxRecDepth 100000 in
theorem ft_M_readAll_2 : aFetch kc_M_readAll 2 = some (2, .getfield 187, 3, [10, 1, 0, 0], [], [], []) := rfl
set_option maxRecDepth 100000 in
theorem ft_M_readAll_5 : aFetch kc_M_readAll 5 = some (5, .putfield 197, 3, [10, 5, 0, 0], [], [], []) := rfl
set_option maxRecDepth 100000 in
theorem ft_M_readAll_8 : aFetch kc_M_readAll 8 = some (8, .aload_n 0, 1, [], [], [], []) := rfl
set_option maxRecDepth 100000 in
theorem ft_M_readAll_9 : aFetch kc_M_readAll 9 = some (9, .iconst 0, 1, [], [.int 0], [], []) := rfl
set_option maxRecDepth 100000 in
theorem ft_M_readAll_10 : aFetch kc_M_readAll 10 = some (10, .putfield 187, 3, [10, 1, 0, 0], [], [], []) := rfl
set_option maxRecDepth 100000 in
theorem ft_M_readAll_13 : aFetch kc_M_readAll 13 = some (13, .aload_n 0, 1, [], [], [], []) := rfl
set_option maxRecDepth 100000 in
theorem ft_M_readAll_14 : aFetch kc_M_readAll 14 = some (14, .iconst 0, 1, [], [.int 0], [], []) := rfl
set_option maxRecDepth 100000 in
theorem ft_M_readAll_15 : aFetch kc_M_readAll 15 = some (15, .putfield 194, 3, [10, 4, 0, 0], [], [], []) := rfl
set_option maxRecDepth 100000 in
theorem ft_M_readAll_18 : aFetch kc_M_readAll 18 = some (18, .aload_n 0, 1, [], [], [], []) := rfl
set_option maxRecDepth 100000 in
theorem ft_M_readAll_19 : aFetch kc_M_readAll 19 = some (19, .iconst 0, 1, [], [.int 0], [], []) := rfl
set_option maxRecDepth 100000 in
theorem ft_M_readAll_20 : aFetch kc_M_readAll 20 = some (20, .putfield 227, 3, [10, 2, 0, 0], [], [], []) := rfl
set_option maxRecDepth 100000 in
theorem ft_M_readAll_23 : aFetch kc_M_readAll 23 = some (23, .aload_n 0, 1, [], [], [], []) := rfl
set_option maxRecDepth 100000 in
theorem ft_M_readAll_24 : aFetch kc_M_readAll 24 = some (24, .iconst (-1), 1, [], [.int (-1)], [], []) := rfl
set_option maxRecDepth 100000 in
theorem ft_M_readAll_25 : aFetch kc_M_readAll 25 = some (25, .putfield 13, 3, [10, 3, 0, 0], [], [], []) := rfl
set_option maxRecDepth 100000 in
theorem ft_M_readAll_28 : aFetch kc_M_readAll 28 = some (28, .aload_n 0, 1, [], [], [], []) := rfl
set_option maxRecDepth 100000 in
theorem ft_M_readAll_29 : aFetch kc_M_readAll 29 = some (29, .iconst 0, 1, [], [.int 0], [], []) := rfl
set_option maxRecDepth 100000 in
theorem ft_M_readAll_30 : aFetch kc_M_readAll 30 = some (30, .putfield 373, 3, [10, 46, 0, 0], [], [], []) := rfl
set_option maxRecDepth 100000 in
theorem ft_M_readAll_33 : aFetch kc_M_readAll 33 = some (33, .aload_n 0, 1, [], [], [], []) := rfl
set_option maxRecDepth 100000 in
theorem ft_M_readAll_34 : aFetch kc_M_readAll 34 = some (34, .iconst 0, 1, [], [.int 0], [], []) := rfl
set_option maxRecDepth 100000 in
theorem ft_M_readAll_35 : aFetch kc_M_readAll 35 = some (35, .putfield 379, 3, [10, 47, 0, 0], [], [], []) := rfl
set_option maxRecDepth 100000 in
theorem ft_M_readAll_38 : aFetch kc_M_readAll 38 = some (38, .aload_n 0, 1, [], [], [], []) := rfl
set_option maxRecDepth 100000 in
theorem ft_M_readAll_39 : aFetch kc_M_readAll 39 = some (39, .iconst 0, 1, [], [.int 0], [], []) := rfl
set_option maxRecDepth 100000 in
theorem ft_M_readAll_40 : aFetch kc_M_readAll 40 = some (40, .putfield 389, 3, [10, 48, 0, 0], [], [], []) := rfl
set_option maxRecDepth 100000 in
theorem ft_M_readAll_43 : aFetch kc_M_readAll 43 = some (43, .aload_n 0, 1, [], [], [], []) := rfl
set_option maxRecDepth 100000 in
theorem ft_M_readAll_44 : aFetch kc_M_readAll 44 = some (44, .iconst 0, 1, [], [.int 0], [], []) := rfl
set_option maxRecDepth 100000 in
theorem ft_M_readAll_45 : aFetch kc_M_readAll 45 = some (45, .putfield 411, 3, [10, 49, 0, 0], [], [], []) := rfl
set_option maxRecDepth 100000 in
theorem ft_M_readAll_48 : aFetch kc_M_readAll 48 = some (48, .aload_n 0, 1, [], [], [], []) := rfl
set_option maxRecDepth 100000 in
theorem ft_M_readAll_49 : aFetch kc_M_readAll 49 = some (49, .iconst 1, 1, [], [.int 1], [], []) := rfl
set_option maxRecDepth 100000 in
theorem ft_M_readAll_50 : aFetch kc_M_readAll 50 = some (50, .putfield 414, 3, [10, 50, 0, 0], [], [], []) := rfl
set_option maxRecDepth 100000 in
theorem ft_M_readAll_53 : aFetch kc_M_readAll 53 = some (53, .aload_n 0, 1, [], [], [], []) := rfl
set_option maxRecDepth 100000 in
theorem ft_M_readAll_54 : aFetch kc_M_readAll 54 = some (54, .iconst 0, 1, [], [.int 0], [], []) := rfl
set_option maxRecDepth 100000 in
theorem ft_M_readAll_55 : aFetch kc_M_readAll 55 = some (55, .putfield 420, 3, [10, 51, 0, 0], [], [], []) := rfl
set_option maxRecDepth 100000 in
theorem ft_M_readAll_58 : aFetch kc_M_readAll 58 = some (58, .aload_n 0, 1, [], [], [], []) := rfl
set_option maxRecDepth 100000 in
theorem ft_M_readAll_59 : aFetch kc_M_readAll 59 = some (59, .iconst 0, 1, [], [.int 0], [], []) := rfl
set_option maxRecDepth 100000 in
theorem ft_M_readAll_60 : aFetch kc_M_readAll 60 = some (60, .putfield 407, 3, [10, 57, 4, 0], [], [], []) := rfl
set_option maxRecDepth 100000 in
theorem ft_M_readAll_63 : aFetch kc_M_readAll 63 = some (63, .aload_n 0, 1, [], [], [], []) := rfl
set_option maxRecDepth 100000 in
theorem ft_M_readAll_64 : aFetch kc_M_readAll 64 = some (64, .iconst 0, 1, [], [.int 0], [], []) := rfl
set_option maxRecDepth 100000 in
theorem ft_M_readAll_65 : aFetch kc_M_readAll 65 = some (65, .putfield 417, 3, [10, 58, 4, 0], [], [], []) := rfl
set_option maxRecDepth 100000 in
theorem ft_M_readAll_68 : aFetch kc_M_readAll 68 = some (68, .aload_n 0, 1, [], [], [], []) := rfl
set_option maxRecDepth 100000 in
theorem ft_M_readAll_69 : aFetch kc_M_readAll 69 = some (69, .getfield 45, 3, [10, 19, 3, 1], [], [], []) := rfl
set_option maxRecDepth 100000 in
theorem ft_M_readAll_72 : aFetch kc_M_readAll 72 = some (72, .iconst 0, 1, [], [.int 0], [], []) := rfl
set_option maxRecDepth 100000 in
theorem ft_M_readAll_73 : aFetch kc_M_readAll 73 = some (73, .iconst 0, 1, [], [.int 0], [], []) := rfl
set_option maxRecDepth 100000 in
theorem ft_M_readAll_74 : aFetch kc_M_readAll 74 = some (74, .bastore, 1, [3], [], [], []) := rfl
set_option maxRecDepth 100000 in
theorem ft_M_readAll_75 : aFetch kc_M_readAll 75 = some (75, .aload_n 0, 1, [], [], [], []) := rfl
set_option maxRecDepth 100000 in
theorem ft_M_readAll_76 : aFetch kc_M_readAll 76 = some (76, .getfield 45, 3, [10, 19, 3, 1], [], [], []) := rfl
set_option maxRecDepth 100000 in
theorem ft_M_readAll_79 : aFetch kc_M_readAll 79 = some (79, .iconst 1, 1, [], [.int 1], [], []) := rfl
set_option maxRecDepth 100000 in
theorem ft_M_readAll_80 : aFetch kc_M_readAll 80 = some (80, .iconst 0, 1, [], [.int 0], [], []) := rfl
set_option maxRecDepth 100000 in
theorem ft_M_readAll_81 : aFetch kc_M_readAll 81 = some (81, .bastore, 1, [3], [], [], []) := rfl
set_option maxRecDepth 100000 in
theorem ft_M_readAll_82 : aFetch kc_M_readAll 82 = some (82, .aload_n 0, 1, [], [], [], []) := rfl
set_option maxRecDepth 100000 in
theorem ft_M_readAll_83 : aFetch kc_M_readAll 83 = some (83, .iconst 0, 1, [], [.int 0], [], []) := rfl
set_option maxRecDepth 100000 in
theorem ft_M_readAll_84 : aFetch kc_M_readAll 84 = some (84, .putfield 328, 3, [10, 23, 0, 0], [], [], []) := rfl
set_option maxRecDepth 100000 in
theorem ft_M_readAll_87 : aFetch kc_M_readAll 87 = some (87, .aload_n 0, 1, [], [], [], []) := rfl
set_option maxRecDepth 100000 in
theorem ft_M_readAll_88 : aFetch kc_M_readAll 88 = some (88, .invokevirtual 291, 3, [160, 1, 0, 1, 10, 3], [], [0], []) := rfl
set_option maxRecDepth 100000 in
theorem ft_M_readAll_91 : aFetch kc_M_readAll 91 = some (91, .aload_n 0, 1, [], [], [], []) := rfl
set_option maxRecDepth 100000 in
theorem ft_M_readAll_92 : aFetch kc_M_readAll 92 = some (92, .getfield 227, 3, [10, 2, 0, 0], [], [], []) := rfl
set_option maxRecDepth 100000 in
theorem ft_M_readAll_95 : aFetch kc_M_readAll 95 = some (95, .ifCond .ne 17, 3, [], [], [], [(112, [])]) := rfl
set_option maxRecDepth 100000 in
theorem ft_M_readAll_98 : aFetch kc_M_readAll 98 = some (98, .aload_n 0, 1, [], [], [], []) := rfl
set_option maxRecDepth 100000 in
theorem ft_M_readAll_99 : aFetch kc_M_readAll 99 = some (99, .getfield 214, 3, [10, 6, 0, 0], [], [], []) := rfl
set_option maxRecDepth 100000 in
theorem ft_M_readAll_102 : aFetch kc_M_readAll 102 = some (102, .ifCond .eq 10, 3, [], [], [], [(112, [])]) := rfl
set_option maxRecDepth 100000 in
theorem ft_M_readAll_105 : aFetch kc_M_readAll 105 = some (105, .aload_n 0, 1, [], [], [], []) := rfl
set_option maxRecDepth 100000 in
theorem ft_M_readAll_106 : aFetch kc_M_readAll 106 = some (106, .invokevirtual 423, 3, [165, 1, 0, 1, 10, 1], [], [], []) := rfl
set_option maxRecDepth 100000 in
theorem ft_M_readAll_109 : aFetch kc_M_readAll 109 = some (109, .goto (-18), 3, [], [], [], [(91, [0])]) := rfl
set_option maxRecDepth 100000 in
theorem ft_M_readAll_112 : aFetch kc_M_readAll 112 = some (112, .return_, 1, [], [], [], []) := rfl
set_option maxHeartbeats 4000000 in
set_option maxRecDepth 100000 in
theorem q_M_readAll (d : Nat)  (m : aMem) : f_M_readAll (d + 1)  m = (grd (true) (grd (true) ((f_M_token d (aUI (aUI (aUI (aUI (aUI (aUI (aUI (aUI (aUI (aUI (aUI (aUI (aUI (aUI (aUI (aUI m 120 5 (m.1 120 1)) 120 1 0) 120 4 0) 120 2 0) 120 3 (-1)) 120 46 0) 120 47 0) 120 48 0) 120 49 0) 120 50 1) 120 51 0) 120 57 0) 120 58 0) 131 0 0) 131 1 0) 120 23 0)).bind fun q1 => (b_M_readAll_91 d q1)))) := (show f_M_readAll (d + 1)  m = eV d kc_M_readAll (0, [(0, .ref 120)], []) m from rfl).trans ((g1V ft_M_readAll_0 (fr' := (1, [(0, .ref 120)], [.ref 120])) (m' := m) rfl).trans ((g1V ft_M_readAll_1 (fr' := (2, [(0, .ref 120)], [.ref 120, .ref 120])) (m' := m) rfl).trans ((g1V ft_M_readAll_2 (fr' := (5, [(0, .ref 120)], [.int (m.1 120 1), .ref 120])) (m' := m) rfl).trans ((g1V ft_M_readAll_5 (fr' := (8, [(0, .ref 120)], [])) (m' := (aUI m 120 5 (m.1 120 1))) rfl).trans ((g1V ft_M_readAll_8 (fr' := (9, [(0, .ref 120)], [.ref 120])) (m' := (aUI m 120 5 (m.1 120 1))) rfl).trans ((g1V ft_M_readAll_9 (fr' := (10, [(0, .ref 120)], [.int 0, .ref 120])) (m' := (aUI m 120 5 (m.1 120 1))) rfl).trans ((g1V ft_M_readAll_10 (fr' := (13, [(0, .ref 120)], [])) (m' := (aUI (aUI m 120 5 (m.1 120 1)) 120 1 0)) rfl).trans ((g1V ft_M_readAll_13 (fr' := (14, [(0, .ref 120)], [.ref 120])) (m' := (aUI (aUI m 120 5 (m.1 120 1)) 120 1 0)) rfl).trans ((g1V ft_M_readAll_14 (fr' := (15, [(0, .ref 120)], [.int 0, .ref 120])) (m' := (aUI (aUI m 120 5 (m.1 120 1)) 120 1 0)) rfl).trans ((g1V ft_M_readAll_15 (fr' := (18, [(0, .ref 120)], [])) (m' := (aUI (aUI (aUI m 120 5 (m.1 120 1)) 120 1 0) 120 4 0)) rfl).trans ((g1V ft_M_readAll_18 (fr' := (19, [(0, .ref 120)], [.ref 120])) (m' := (aUI (aUI (aUI m 120 5 (m.1 120 1)) 120 1 0) 120 4 0)) rfl).trans ((g1V ft_M_readAll_19 (fr' := (20, [(0, .ref 120)], [.int 0, .ref 120])) (m' := (aUI (aUI (aUI m 120 5 (m.1 120 1)) 120 1 0) 120 4 0)) rfl).trans ((g1V ft_M_readAll_20 (fr' := (23, [(0, .ref 120)], [])) (m' := (aUI (aUI (aUI (aUI m 120 5 (m.1 120 1)) 120 1 0) 120 4 0) 120 2 0)) rfl).trans ((g1V ft_M_readAll_23 (fr' := (24, [(0, .ref 120)], [.ref 120])) (m' := (aUI (aUI (aUI (aUI m 120 5 (m.1 120 1)) 120 1 0) 120 4 0) 120 2 0)) rfl).trans ((g1V ft_M_readAll_24 (fr' := (25, [(0, .ref 120)], [.int (-1), .ref 120])) (m' := (aUI (aUI (aUI (aUI m 120 5 (m.1 120 1)) 120 1 0) 120 4 0) 120 2 0)) rfl).trans ((g1V ft_M_readAll_25 (fr' := (28, [(0, .ref 120)], [])) (m' := (aUI (aUI (aUI (aUI (aUI m 120 5 (m.1 120 1)) 120 1 0) 120 4 0) 120 2 0) 120 3 (-1))) rfl).trans ((g1V ft_M_readAll_28 (fr' := (29, [(0, .ref 120)], [.ref 120])) (m' := (aUI (aUI (aUI (aUI (aUI m 120 5 (m.1 120 1)) 120 1 0) 120 4 0) 120 2 0) 120 3 (-1))) rfl).trans ((g1V ft_M_readAll_29 (fr' := (30, [(0, .ref 120)], [.int 0, .ref 120])) (m' := (aUI (aUI (aUI (aUI (aUI m 120 5 (m.1 120 1)) 120 1 0) 120 4 0) 120 2 0) 120 3 (-1))) rfl).trans ((g1V ft_M_readAll_30 (fr' := (33, [(0, .ref 120)], [])) (m' := (aUI (aUI (aUI (aUI (aUI (aUI m 120 5 (m.1 120 1)) 120 1 0) 120 4 0) 120 2 0) 120 3 (-1)) 120 46 0)) rfl).trans ((g1V ft_M_readAll_33 (fr' := (34, [(0, .ref 120)], [.ref 120])) (m' := (aUI (aUI (aUI (aUI (aUI (aUI m 120 5 (m.1 120 1)) 120 1 0) 120 4 0) 120 2 0) 120 3 (-1)) 120 46 0)) rfl).trans ((g1V ft_M_readAll_34 (fr' := (35, [(0, .ref 120)], [.int 0, .ref 120])) (m' := (aUI (aUI (aUI (aUI (aUI (aUI m 120 5 (m.1 120 1)) 120 1 0) 120 4 0) 120 2 0) 120 3 (-1)) 120 46 0)) rfl).trans ((g1V ft_M_readAll_35 (fr' := (38, [(0, .ref 120)], [])) (m' := (aUI (aUI (aUI (aUI (aUI (aUI (aUI m 120 5 (m.1 120 1)) 120 1 0) 120 4 0) 120 2 0) 120 3 (-1)) 120 46 0) 120 47 0)) rfl).trans ((g1V ft_M_readAll_38 (fr' := (39, [(0, .ref 120)], [.ref 120])) (m' := (aUI (aUI (aUI (aUI (aUI (aUI (aUI m 120 5 (m.1 120 1)) 120 1 0) 120 4 0) 120 2 0) 120 3 (-1)) 120 46 0) 120 47 0)) rfl).trans ((g1V ft_M_readAll_39 (fr' := (40, [(0, .ref 120)], [.int 0, .ref 120])) (m' := (aUI (aUI (aUI (aUI (aUI (aUI (aUI m 120 5 (m.1 120 1)) 120 1 0) 120 4 0) 120 2 0) 120 3 (-1)) 120 46 0) 120 47 0)) rfl).trans ((g1V ft_M_readAll_40 (fr' := (43, [(0, .ref 120)], [])) (m' := (aUI (aUI (aUI (aUI (aUI (aUI (aUI (aUI m 120 5 (m.1 120 1)) 120 1 0) 120 4 0) 120 2 0) 120 3 (-1)) 120 46 0) 120 47 0) 120 48 0)) rfl).trans ((g1V ft_M_readAll_43 (fr' := (44, [(0, .ref 120)], [.ref 120])) (m' := (aUI (aUI (aUI (aUI (aUI (aUI (aUI (aUI m 120 5 (m.1 120 1)) 120 1 0) 120 4 0) 120 2 0) 120 3 (-1)) 120 46 0) 120 47 0) 120 48 0)) rfl).trans ((g1V ft_M_readAll_44 (fr' := (45, [(0, .ref 120)], [.int 0, .ref 120])) (m' := (aUI (aUI (aUI (aUI (aUI (aUI (aUI (aUI m 120 5 (m.1 120 1)) 120 1 0) 120 4 0) 120 2 0) 120 3 (-1)) 120 46 0) 120 47 0) 120 48 0)) rfl).trans ((g1V ft_M_readAll_45 (fr' := (48, [(0, .ref 120)], [])) (m' := (aUI (aUI (aUI (aUI (aUI (aUI (aUI (aUI (aUI m 120 5 (m.1 120 1)) 120 1 0) 120 4 0) 120 2 0) 120 3 (-1)) 120 46 0) 120 47 0) 120 48 0) 120 49 0)) rfl).trans ((g1V ft_M_readAll_48 (fr' := (49, [(0, .ref 120)], [.ref 120])) (m' := (aUI (aUI (aUI (aUI (aUI (aUI (aUI (aUI (aUI m 120 5 (m.1 120 1)) 120 1 0) 120 4 0) 120 2 0) 120 3 (-1)) 120 46 0) 120 47 0) 120 48 0) 120 49 0)) rfl).trans ((g1V ft_M_readAll_49 (fr' := (50, [(0, .ref 120)], [.int 1, .ref 120])) (m' := (aUI (aUI (aUI (aUI (aUI (aUI (aUI (aUI (aUI m 120 5 (m.1 120 1)) 120 1 0) 120 4 0) 120 2 0) 120 3 (-1)) 120 46 0) 120 47 0) 120 48 0) 120 49 0)) rfl).trans ((g1V ft_M_readAll_50 (fr' := (53, [(0, .ref 120)], [])) (m' := (aUI (aUI (aUI (aUI (aUI (aUI (aUI (aUI (aUI (aUI m 120 5 (m.1 120 1)) 120 1 0) 120 4 0) 120 2 0) 120 3 (-1)) 120 46 0) 120 47 0) 120 48 0) 120 49 0) 120 50 1)) rfl).trans ((g1V ft_M_readAll_53 (fr' := (54, [(0, .ref 120)], [.ref 120])) (m' := (aUI (aUI (aUI (aUI (aUI (aUI (aUI (aUI (aUI (aUI m 120 5 (m.1 120 1)) 120 1 0) 120 4 0) 120 2 0) 120 3 (-1)) 120 46 0) 120 47 0) 120 48 0) 120 49 0) 120 50 1)) rfl).trans ((g1V ft_M_readAll_54 (fr' := (55, [(0, .ref 120)], [.int 0, .ref 120])) (m' := (aUI (aUI (aUI (aUI (aUI (aUI (aUI (aUI (aUI (aUI m 120 5 (m.1 120 1)) 120 1 0) 120 4 0) 120 2 0) 120 3 (-1)) 120 46 0) 120 47 0) 120 48 0) 120 49 0) 120 50 1)) rfl).trans ((g1V ft_M_readAll_55 (fr' := (58, [(0, .ref 120)], [])) (m' := (aUI (aUI (aUI (aUI (aUI (aUI (aUI (aUI (aUI (aUI (aUI m 120 5 (m.1 120 1)) 120 1 0) 120 4 0) 120 2 0) 120 3 (-1)) 120 46 0) 120 47 0) 120 48 0) 120 49 0) 120 50 1) 120 51 0)) rfl).trans ((g1V ft_M_readAll_58 (fr' := (59, [(0, .ref 120)], [.ref 120])) (m' := (aUI (aUI (aUI (aUI (aUI (aUI (aUI (aUI (aUI (aUI (aUI m 120 5 (m.1 120 1)) 120 1 0) 120 4 0) 120 2 0) 120 3 (-1)) 120 46 0) 120 47 0) 120 48 0) 120 49 0) 120 50 1) 120 51 0)) rfl).trans ((g1V ft_M_readAll_59 (fr' := (60, [(0, .ref 120)], [.int 0, .ref 120])) (m' := (aUI (aUI (aUI (aUI (aUI (aUI (aUI (aUI (aUI (aUI (aUI m 120 5 (m.1 120 1)) 120 1 0) 120 4 0) 120 2 0) 120 3 (-1)) 120 46 0) 120 47 0) 120 48 0) 120 49 0) 120 50 1) 120 51 0)) rfl).trans ((g1V ft_M_readAll_60 (fr' := (63, [(0, .ref 120)], [])) (m' := (aUI (aUI (aUI (aUI (aUI (aUI (aUI (aUI (aUI (aUI (aUI (aUI m 120 5 (m.1 120 1)) 120 1 0) 120 4 0) 120 2 0) 120 3 (-1)) 120 46 0) 120 47 0) 120 48 0) 120 49 0) 120 50 1) 120 51 0) 120 57 0)) rfl).trans ((g1V ft_M_readAll_63 (fr' := (64, [(0, .ref 120)], [.ref 120])) (m' := (aUI (aUI (aUI (aUI (aUI (aUI (aUI (aUI (aUI (aUI (aUI (aUI m 120 5 (m.1 120 1)) 120 1 0) 120 4 0) 120 2 0) 120 3 (-1)) 120 46 0) 120 47 0) 120 48 0) 120 49 0) 120 50 1) 120 51 0) 120 57 0)) rfl).trans ((g1V ft_M_readAll_64 (fr' := (65, [(0, .ref 120)], [.int 0, .ref 120])) (m' := (aUI (aUI (aUI (aUI (aUI (aUI (aUI (aUI (aUI (aUI (aUI (aUI m 120 5 (m.1 120 1)) 120 1 0) 120 4 0) 120 2 0) 120 3 (-1)) 120 46 0) 120 47 0) 120 48 0) 120 49 0) 120 50 1) 120 51 0) 120 57 0)) rfl).trans ((g1V ft_M_readAll_65 (fr' := (68, [(0, .ref 120)], [])) (m' := (aUI (aUI (aUI (aUI (aUI (aUI (aUI (aUI (aUI (aUI (aUI (aUI (aUI m 120 5 (m.1 120 1)) 120 1 0) 120 4 0) 120 2 0) 120 3 (-1)) 120 46 0) 120 47 0) 120 48 0) 120 49 0) 120 50 1) 120 51 0) 120 57 0) 120 58 0)) rfl).trans ((g1V ft_M_readAll_68 (fr' := (69, [(0, .ref 120)], [.ref 120])) (m' := (aUI (aUI (aUI (aUI (aUI (aUI (aUI (aUI (aUI (aUI (aUI (aUI (aUI m 120 5 (m.1 120 1)) 120 1 0) 120 4 0) 120 2 0) 120 3 (-1)) 120 46 0) 120 47 0) 120 48 0) 120 49 0) 120 50 1) 120 51 0) 120 57 0) 120 58 0)) rfl).trans ((g1V ft_M_readAll_69 (fr' := (72, [(0, .ref 120)], [.ref 131])) (m' := (aUI (aUI (aUI (aUI (aUI (aUI (aUI (aUI (aUI (aUI (aUI (aUI (aUI m 120 5 (m.1 120 1)) 120 1 0) 120 4 0) 120 2 0) 120 3 (-1)) 120 46 0) 120 47 0) 120 48 0) 120 49 0) 120 50 1) 120 51 0) 120 57 0) 120 58 0)) rfl).trans ((g1V ft_M_readAll_72 (fr' := (73, [(0, .ref 120)], [.int 0, .ref 131])) (m' := (aUI (aUI (aUI (aUI (aUI (aUI (aUI (aUI (aUI (aUI (aUI (aUI (aUI m 120 5 (m.1 120 1)) 120 1 0) 120 4 0) 120 2 0) 120 3 (-1)) 120 46 0) 120 47 0) 120 48 0) 120 49 0) 120 50 1) 120 51 0) 120 57 0) 120 58 0)) rfl).trans ((g1V ft_M_readAll_73 (fr' := (74, [(0, .ref 120)], [.int 0, .int 0, .ref 131])) (m' := (aUI (aUI (aUI (aUI (aUI (aUI (aUI (aUI (aUI (aUI (aUI (aUI (aUI m 120 5 (m.1 120 1)) 120 1 0) 120 4 0) 120 2 0) 120 3 (-1)) 120 46 0) 120 47 0) 120 48 0) 120 49 0) 120 50 1) 120 51 0) 120 57 0) 120 58 0)) rfl).trans ((g1Vg ft_M_readAll_74 (g := true) (fr' := (75, [(0, .ref 120)], [])) (m' := (aUI (aUI (aUI (aUI (aUI (aUI (aUI (aUI (aUI (aUI (aUI (aUI (aUI (aUI m 120 5 (m.1 120 1)) 120 1 0) 120 4 0) 120 2 0) 120 3 (-1)) 120 46 0) 120 47 0) 120 48 0) 120 49 0) 120 50 1) 120 51 0) 120 57 0) 120 58 0) 131 0 0)) rfl).trans (grd2 ((g1V ft_M_readAll_75 (fr' := (76, [(0, .ref 120)], [.ref 120])) (m' := (aUI (aUI (aUI (aUI (aUI (aUI (aUI (aUI (aUI (aUI (aUI (aUI (aUI (aUI m 120 5 (m.1 120 1)) 120 1 0) 120 4 0) 120 2 0) 120 3 (-1)) 120 46 0) 120 47 0) 120 48 0) 120 49 0) 120 50 1) 120 51 0) 120 57 0) 120 58 0) 131 0 0)) rfl).trans ((g1V ft_M_readAll_76 (fr' := (79, [(0, .ref 120)], [.ref 131])) (m' := (aUI (aUI (aUI (aUI (aUI (aUI (aUI (aUI (aUI (aUI (aUI (aUI (aUI (aUI m 120 5 (m.1 120 1)) 120 1 0) 120 4 0) 120 2 0) 120 3 (-1)) 120 46 0) 120 47 0) 120 48 0) 120 49 0) 120 50 1) 120 51 0) 120 57 0) 120 58 0) 131 0 0)) rfl).trans ((g1V ft_M_readAll_79 (fr' := (80, [(0, .ref 120)], [.int 1, .ref 131])) (m' := (aUI (aUI (aUI (aUI (aUI (aUI (aUI (aUI (aUI (aUI (aUI (aUI (aUI (aUI m 120 5 (m.1 120 1)) 120 1 0) 120 4 0) 120 2 0) 120 3 (-1)) 120 46 0) 120 47 0) 120 48 0) 120 49 0) 120 50 1) 120 51 0) 120 57 0) 120 58 0) 131 0 0)) rfl).trans ((g1V ft_M_readAll_80 (fr' := (81, [(0, .ref 120)], [.int 0, .int 1, .ref 131])) (m' := (aUI (aUI (aUI (aUI (aUI (aUI (aUI (aUI (aUI (aUI (aUI (aUI (aUI (aUI m 120 5 (m.1 120 1)) 120 1 0) 120 4 0) 120 2 0) 120 3 (-1)) 120 46 0) 120 47 0) 120 48 0) 120 49 0) 120 50 1) 120 51 0) 120 57 0) 120 58 0) 131 0 0)) rfl).trans ((g1Vg ft_M_readAll_81 (g := true) (fr' := (82, [(0, .ref 120)], [])) (m' := (aUI (aUI (aUI (aUI (aUI (aUI (aUI (aUI (aUI (aUI (aUI (aUI (aUI (aUI (aUI m 120 5 (m.1 120 1)) 120 1 0) 120 4 0) 120 2 0) 120 3 (-1)) 120 46 0) 120 47 0) 120 48 0) 120 49 0) 120 50 1) 120 51 0) 120 57 0) 120 58 0) 131 0 0) 131 1 0)) rfl).trans (grd2 ((g1V ft_M_readAll_82 (fr' := (83, [(0, .ref 120)], [.ref 120])) (m' := (aUI (aUI (aUI (aUI (aUI (aUI (aUI (aUI (aUI (aUI (aUI (aUI (aUI (aUI (aUI m 120 5 (m.1 120 1)) 120 1 0) 120 4 0) 120 2 0) 120 3 (-1)) 120 46 0) 120 47 0) 120 48 0) 120 49 0) 120 50 1) 120 51 0) 120 57 0) 120 58 0) 131 0 0) 131 1 0)) rfl).trans ((g1V ft_M_readAll_83 (fr' := (84, [(0, .ref 120)], [.int 0, .ref 120])) (m' := (aUI (aUI (aUI (aUI (aUI (aUI (aUI (aUI (aUI (aUI (aUI (aUI (aUI (aUI (aUI m 120 5 (m.1 120 1)) 120 1 0) 120 4 0) 120 2 0) 120 3 (-1)) 120 46 0) 120 47 0) 120 48 0) 120 49 0) 120 50 1) 120 51 0) 120 57 0) 120 58 0) 131 0 0) 131 1 0)) rfl).trans ((g1V ft_M_readAll_84 (fr' := (87, [(0, .ref 120)], [])) (m' := (aUI (aUI (aUI (aUI (aUI (aUI (aUI (aUI (aUI (aUI (aUI (aUI (aUI (aUI (aUI (aUI m 120 5 (m.1 120 1)) 120 1 0) 120 4 0) 120 2 0) 120 3 (-1)) 120 46 0) 120 47 0) 120 48 0) 120 49 0) 120 50 1) 120 51 0) 120 57 0) 120 58 0) 131 0 0) 131 1 0) 120 23 0)) rfl).trans ((g1V ft_M_readAll_87 (fr' := (88, [(0, .ref 120)], [.ref 120])) (m' := (aUI (aUI (aUI (aUI (aUI (aUI (aUI (aUI (aUI (aUI (aUI (aUI (aUI (aUI (aUI (aUI m 120 5 (m.1 120 1)) 120 1 0) 120 4 0) 120 2 0) 120 3 (-1)) 120 46 0) 120 47 0) 120 48 0) 120 49 0) 120 50 1) 120 51 0) 120 57 0) 120 58 0) 131 0 0) 131 1 0) 120 23 0)) rfl).trans (cVV ft_M_readAll_88 (as := [.ref 120]) (pc' := 91) (ls' := [(0, .ref 120)]) (st' := []) rfl)))))))))))))))))))))))))))))))))))))))))))))))))))))))))
set_option maxHeartbeats 4000000 in
set_option maxRecDepth 100000 in
theorem q_M_readAll_91 (d : Nat)  (m : aMem) : b_M_readAll_91 d  m = (if ¬ m.1 120 2 = 0 then (some m) else (if m.1 120 6 = 0 then (some m) else ((f_M_readLine d m).bind fun q1 => (b_M_readAll_91 d q1)))) := ((g1V ft_M_readAll_91 (fr' := (92, [(0, .ref 120)], [.ref 120])) (m' := m) rfl).trans ((g1V ft_M_readAll_92 (fr' := (95, [(0, .ref 120)], [.int (m.1 120 2)])) (m' := m) rfl).trans ((b1V ft_M_readAll_95 (p := ¬ m.1 120 2 = 0) (f1 := (112, [(0, .ref 120)], [])) (f2 := (98, [(0, .ref 120)], [])) rfl).trans (ite2 (r1V ft_M_readAll_112 rfl) ((g1V ft_M_readAll_98 (fr' := (99, [(0, .ref 120)], [.ref 120])) (m' := m) rfl).trans ((g1V ft_M_readAll_99 (fr' := (102, [(0, .ref 120)], [.int (m.1 120 6)])) (m' := m) rfl).trans ((b1V ft_M_readAll_102 (p := m.1 120 6 = 0) (f1 := (112, [(0, .ref 120)], [])) (f2 := (105, [(0, .ref 120)], [])) rfl).trans (ite2 (r1V ft_M_readAll_112 rfl) ((g1V ft_M_readAll_105 (fr' := (106, [(0, .ref 120)], [.ref 120])) (m' := m) rfl).trans ((cVV ft_M_readAll_106 (as := [.ref 120]) (pc' := 109) (ls' := [(0, .ref 120)]) (st' := []) rfl).trans (bnd2 fun q1 => (g1V ft_M_readAll_109 (fr' := (91, [(0, .ref 120)], [])) (m' := q1) rfl))))))))))))
set_option maxRecDepth 100000 in
theorem ft_M_token_0 : aFetch kc_M_token 0 = some (0, .aload_n 0, 1, [], [], [], []) := rfl
set_option maxRecDepth 100000 in
theorem ft_M_token_1 : aFetch kc_M_token 1 = some (1, .iconst 0, 1, [], [.int 0], [], []) := rfl
set_option maxRecDepth 100000 in
theorem ft_M_token_2 : aFetch kc_M_token 2 = some (2, .invokevirtual 200, 3, [161, 2, 1, 1, 10, 2], [], [], []) := rfl
set_option maxRecDepth 100000 in
theorem ft_M_token_5 : aFetch kc_M_token 5 = some (5, .bipush 32, 2, [], [.int 32], [], []) := rfl
set_option maxRecDepth 100000 in
theorem ft_M_token_7 : aFetch kc_M_token 7 = some (7, .if_icmp .eq 13, 3, [], [], [], [(20, [])]) := rfl
set_option maxRecDepth 100000 in
theorem ft_M_token_10 : aFetch kc_M_token 10 = some (10, .aload_n 0, 1, [], [], [], []) := rfl
set_option maxRecDepth 100000 in
theorem ft_M_token_11 : aFetch kc_M_token 11 = some (11, .iconst 0, 1, [], [.int 0], [], []) := rfl
set_option maxRecDepth 100000 in
theorem ft_M_token_12 : aFetch kc_M_token 12 = some (12, .invokevirtual 200, 3, [161, 2, 1, 1, 10, 2], [], [], []) := rfl
set_option maxRecDepth 100000 in
theorem ft_M_token_15 : aFetch kc_M_token 15 = some (15, .bipush 10, 2, [], [.int 10], [], []) := rfl
set_option maxRecDepth 100000 in
theorem ft_M_token_17 : aFetch kc_M_token 17 = some (17, .if_icmp .ne 16, 3, [], [], [], [(33, [])]) := rfl
set_option maxRecDepth 100000 in
theorem ft_M_token_20 : aFetch kc_M_token 20 = some (20, .aload_n 0, 1, [], [], [], []) := rfl
set_option maxRecDepth 100000 in
theorem ft_M_token_21 : aFetch kc_M_token 21 = some (21, .dup, 1, [], [], [], []) := rfl
set_option maxRecDepth 100000 in
theorem ft_M_token_22 : aFetch kc_M_token 22 = some (22, .getfield 194, 3, [10, 4, 0, 0], [], [], []) := rfl
set_option maxRecDepth 100000 in
theorem ft_M_token_25 : aFetch kc_M_token 25 = some (25, .iconst 1, 1, [], [.int 1], [], []) := rfl
set_option maxRecDepth 100000 in
theorem ft_M_token_26 : aFetch kc_M_token 26 = some (26, .iadd, 1, [], [], [], []) := rfl
set_option maxRecDepth 100000 in
theorem ft_M_token_27 : aFetch kc_M_token 27 = some (27, .putfield 194, 3, [10, 4, 0, 0], [], [], []) := rfl
set_option maxRecDepth 100000 in
theorem ft_M_token_30 : aFetch kc_M_token 30 = some (30, .goto (-30), 3, [], [], [], [(0, [0])]) := rfl
set_option maxRecDepth 100000 in
theorem ft_M_token_33 : aFetch kc_M_token 33 = some (33, .aload_n 0, 1, [], [], [], []) := rfl
set_option maxRecDepth 100000 in
theorem ft_M_token_34 : aFetch kc_M_token 34 = some (34, .aload_n 0, 1, [], [], [], []) := rfl
set_option maxRecDepth 100000 in
theorem ft_M_token_35 : aFetch kc_M_token 35 = some (35, .getfield 194, 3, [10, 4, 0, 0], [], [], []) := rfl
set_option maxRecDepth 100000 in
theorem ft_M_token_38 : aFetch kc_M_token 38 = some (38, .putfield 204, 3, [10, 7, 0, 0], [], [], []) := rfl
set_option maxRecDepth 100000 in
theorem ft_M_token_41 : aFetch kc_M_token 41 = some (41, .aload_n 0, 1, [], [], [], []) := rfl
set_option maxRecDepth 100000 in
theorem ft_M_token_42 : aFetch kc_M_token 42 = some (42, .iconst 0, 1, [], [.int 0], [], []) := rfl
set_option maxRecDepth 100000 in
theorem ft_M_token_43 : aFetch kc_M_token 43 = some (43, .invokevirtual 200, 3, [161, 2, 1, 1, 10, 2], [], [], []) := rfl
set_option maxRecDepth 100000 in
theorem ft_M_token_46 : aFetch kc_M_token 46 = some (46, .istore_n 1, 1, [], [], [], []) := rfl
set_option maxRecDepth 100000 in
theorem ft_M_token_47 : aFetch kc_M_token 47 = some (47, .iconst 0, 1, [], [.int 0], [], []) := rfl
set_option maxRecDepth 100000 in
theorem ft_M_token_48 : aFetch kc_M_token 48 = some (48, .istore_n 2, 1, [], [], [], []) := rfl
set_option maxRecDepth 100000 in
theorem ft_M_token_49 : aFetch kc_M_token 49 = some (49, .aload_n 0, 1, [], [], [], []) := rfl
set_option maxRecDepth 100000 in
theorem ft_M_token_50 : aFetch kc_M_token 50 = some (50, .lconst 0, 1, [], [.long 0], [], []) := rfl
set_option maxRecDepth 100000 in
theorem ft_M_token_51 : aFetch kc_M_token 51 = some (51, .putfield 207, 3, [10, 9, 1, 0], [], [], []) := rfl
set_option maxRecDepth 100000 in
theorem ft_M_token_54 : aFetch kc_M_token 54 = some (54, .aload_n 0, 1, [], [], [], []) := rfl
set_option maxRecDepth 100000 in
theorem ft_M_token_55 : aFetch kc_M_token 55 = some (55, .iconst 0, 1, [], [.int 0], [], []) := rfl
set_option maxRecDepth 100000 in
theorem ft_M_token_56 : aFetch kc_M_token 56 = some (56, .putfield 211, 3, [10, 8, 0, 0], [], [], []) := rfl
set_option maxRecDepth 100000 in
theorem ft_M_token_59 : aFetch kc_M_token 59 = some (59, .iload_n 1, 1, [], [], [], []) := rfl
set_option maxRecDepth 100000 in
theorem ft_M_token_60 : aFetch kc_M_token 60 = some (60, .ifCond .ge 11, 3, [], [], [], [(71, [])]) := rfl
set_option maxRecDepth 100000 in
theorem ft_M_token_63 : aFetch kc_M_token 63 = some (63, .aload_n 0, 1, [], [], [], []) := rfl
set_option maxRecDepth 100000 in
theorem ft_M_token_64 : aFetch kc_M_token 64 = some (64, .iconst 0, 1, [], [.int 0], [], []) := rfl
set_option maxRecDepth 100000 in
theorem ft_M_token_65 : aFetch kc_M_token 65 = some (65, .putfield 214, 3, [10, 6, 0, 0], [], [], []) := rfl
set_option maxRecDepth 100000 in
theorem ft_M_token_68 : aFetch kc_M_token 68 = some (68, .goto 164, 3, [], [], [], [(232, [0, 2])]) := rfl
set_option maxRecDepth 100000 in
theorem ft_M_token_71 : aFetch kc_M_token 71 = some (71, .iload_n 1, 1, [], [], [], []) := rfl
set_option maxRecDepth 100000 in
theorem ft_M_token_72 : aFetch kc_M_token 72 = some (72, .invokestatic 217, 3, [162, 1, 1, 0, 10, 1], [], [], []) := rfl
set_option maxRecDepth 100000 in
theorem ft_M_token_75 : aFetch kc_M_token 75 = some (75, .ifCond .eq 62, 3, [], [], [0, 2], [(137, [])]) := rfl
set_option maxRecDepth 100000 in
theorem ft_M_token_78 : aFetch kc_M_token 78 = some (78, .aload_n 0, 1, [], [], [], []) := rfl
set_option maxRecDepth 100000 in
theorem ft_M_token_79 : aFetch kc_M_token 79 = some (79, .iload_n 2, 1, [], [], [], []) := rfl
set_option maxRecDepth 100000 in
theorem ft_M_token_80 : aFetch kc_M_token 80 = some (80, .invokevirtual 200, 3, [161, 2, 1, 1, 10, 2], [], [], []) := rfl
set_option maxRecDepth 100000 in
theorem ft_M_token_83 : aFetch kc_M_token 83 = some (83, .invokestatic 217, 3, [162, 1, 1, 0, 10, 1], [], [], []) := rfl
set_option maxRecDepth 100000 in
theorem ft_M_token_86 : aFetch kc_M_token 86 = some (86, .ifCond .eq 33, 3, [], [], [], [(119, [])]) := rfl
set_option maxRecDepth 100000 in
theorem ft_M_token_89 : aFetch kc_M_token 89 = some (89, .iload_n 2, 1, [], [], [], []) := rfl
set_option maxRecDepth 100000 in
theorem ft_M_token_90 : aFetch kc_M_token 90 = some (90, .bipush 8, 2, [], [.int 8], [], []) := rfl
set_option maxRecDepth 100000 in
theorem ft_M_token_92 : aFetch kc_M_token 92 = some (92, .if_icmp .ge 21, 3, [], [], [], [(113, [])]) := rfl
set_option maxRecDepth 100000 in
theorem ft_M_token_95 : aFetch kc_M_token 95 = some (95, .aload_n 0, 1, [], [], [], []) := rfl
set_option maxRecDepth 100000 in
theorem ft_M_token_96 : aFetch kc_M_token 96 = some (96, .aload_n 0, 1, [], [], [], []) := rfl
set_option maxRecDepth 100000 in
theorem ft_M_token_97 : aFetch kc_M_token 97 = some (97, .getfield 207, 3, [10, 9, 1, 0], [], [], []) := rfl
set_option maxRecDepth 100000 in
theorem ft_M_token_100 : aFetch kc_M_token 100 = some (100, .bipush 8, 2, [], [.int 8], [], []) := rfl
set_option maxRecDepth 100000 in
theorem ft_M_token_102 : aFetch kc_M_token 102 = some (102, .lshl, 1, [], [], [], []) := rfl
set_option maxRecDepth 100000 in
theorem ft_M_token_103 : aFetch kc_M_token 103 = some (103, .aload_n 0, 1, [], [], [], []) := rfl
set_option maxRecDepth 100000 in
theorem ft_M_token_104 : aFetch kc_M_token 104 = some (104, .iload_n 2, 1, [], [], [], []) := rfl
set_option maxRecDepth 100000 in
theorem ft_M_token_105 : aFetch kc_M_token 105 = some (105, .invokevirtual 200, 3, [161, 2, 1, 1, 10, 2], [], [], []) := rfl
set_option maxRecDepth 100000 in
theorem ft_M_token_108 : aFetch kc_M_token 108 = some (108, .i2l, 1, [], [], [], []) := rfl
set_option maxRecDepth 100000 in
theorem ft_M_token_109 : aFetch kc_M_token 109 = some (109, .lor, 1, [], [], [], []) := rfl
set_option maxRecDepth 100000 in
theorem ft_M_token_110 : aFetch kc_M_token 110 = some (110, .putfield 207, 3, [10, 9, 1, 0], [], [], []) := rfl
set_option maxRecDepth 100000 in
theorem ft_M_token_113 : aFetch kc_M_token 113 = some (113, .iinc 2 1, 3, [], [.int 1], [], []) := rfl
set_option maxRecDepth 100000 in
theorem ft_M_token_116 : aFetch kc_M_token 116 = some (116, .goto (-38), 3, [], [], [], [(78, [0, 2])]) := rfl
set_option maxRecDepth 100000 in
theorem ft_M_token_119 : aFetch kc_M_token 119 = some (119, .aload_n 0, 1, [], [], [], []) := rfl
set_option maxRecDepth 100000 in
theorem ft_M_token_120 : aFetch kc_M_token 120 = some (120, .iload_n 2, 1, [], [], [], []) := rfl
set_option maxRecDepth 100000 in
theorem ft_M_token_121 : aFetch kc_M_token 121 = some (121, .bipush 8, 2, [], [.int 8], [], []) := rfl
set_option maxRecDepth 100000 in
theorem ft_M_token_123 : aFetch kc_M_token 123 = some (123, .if_icmp .le 7, 3, [], [], [], [(130, [])]) := rfl
set_option maxRecDepth 100000 in
theorem ft_M_token_126 : aFetch kc_M_token 126 = some (126, .iconst 3, 1, [], [.int 3], [], []) := rfl
set_option maxRecDepth 100000 in
theorem ft_M_token_127 : aFetch kc_M_token 127 = some (127, .goto 4, 3, [], [], [], [(131, [0, 2])]) := rfl
set_option maxRecDepth 100000 in
theorem ft_M_token_130 : aFetch kc_M_token 130 = some (130, .iconst 1, 1, [], [.int 1], [0, 2], []) := rfl
set_option maxRecDepth 100000 in
theorem ft_M_token_131 : aFetch kc_M_token 131 = some (131, .putfield 214, 3, [10, 6, 0, 0], [], [], []) := rfl
set_option maxRecDepth 100000 in
theorem ft_M_token_134 : aFetch kc_M_token 134 = some (134, .goto 98, 3, [], [], [], [(232, [0, 2])]) := rfl
set_option maxRecDepth 100000 in
theorem ft_M_token_137 : aFetch kc_M_token 137 = some (137, .iload_n 1, 1, [], [], [], []) := rfl
set_option maxRecDepth 100000 in
theorem ft_M_token_138 : aFetch kc_M_token 138 = some (138, .invokestatic 221, 3, [163, 1, 1, 0, 10, 1], [], [], []) := rfl
set_option maxRecDepth 100000 in
theorem ft_M_token_141 : aFetch kc_M_token 141 = some (141, .ifCond .eq 73, 3, [], [], [0, 2], [(214, [])]) := rfl
set_option maxRecDepth 100000 in
theorem ft_M_token_144 : aFetch kc_M_token 144 = some (144, .aload_n 0, 1, [], [], [], []) := rfl
set_option maxRecDepth 100000 in
theorem ft_M_token_145 : aFetch kc_M_token 145 = some (145, .iload_n 2, 1, [], [], [], []) := rfl
set_option maxRecDepth 100000 in
theorem ft_M_token_146 : aFetch kc_M_token 146 = some (146, .invokevirtual 200, 3, [161, 2, 1, 1, 10, 2], [], [], []) := rfl
set_option maxRecDepth 100000 in
theorem ft_M_token_149 : aFetch kc_M_token 149 = some (149, .invokestatic 221, 3, [163, 1, 1, 0, 10, 1], [], [], []) := rfl
set_option maxRecDepth 100000 in
theorem ft_M_token_152 : aFetch kc_M_token 152 = some (152, .ifCond .eq 34, 3, [], [], [], [(186, [])]) := rfl
set_option maxRecDepth 100000 in
theorem ft_M_token_155 : aFetch kc_M_token 155 = some (155, .iload_n 2, 1, [], [], [], []) := rfl
set_option maxRecDepth 100000 in
theorem ft_M_token_156 : aFetch kc_M_token 156 = some (156, .iconst 4, 1, [], [.int 4], [], []) := rfl
set_option maxRecDepth 100000 in
theorem ft_M_token_157 : aFetch kc_M_token 157 = some (157, .if_icmp .ge 23, 3, [], [], [], [(180, [])]) := rfl
set_option maxRecDepth 100000 in
theorem ft_M_token_160 : aFetch kc_M_token 160 = some (160, .aload_n 0, 1, [], [], [], []) := rfl
set_option maxRecDepth 100000 in
theorem ft_M_token_161 : aFetch kc_M_token 161 = some (161, .bipush 10, 2, [], [.int 10], [], []) := rfl
set_option maxRecDepth 100000 in
theorem ft_M_token_163 : aFetch kc_M_token 163 = some (163, .aload_n 0, 1, [], [], [], []) := rfl
set_option maxRecDepth 100000 in
theorem ft_M_token_164 : aFetch kc_M_token 164 = some (164, .getfield 211, 3, [10, 8, 0, 0], [], [], []) := rfl
set_option maxRecDepth 100000 in
theorem ft_M_token_167 : aFetch kc_M_token 167 = some (167, .imul, 1, [], [], [], []) := rfl
set_option maxRecDepth 100000 in
theorem ft_M_token_168 : aFetch kc_M_token 168 = some (168, .aload_n 0, 1, [], [], [], []) := rfl
set_option maxRecDepth 100000 in
theorem ft_M_token_169 : aFetch kc_M_token 169 = some (169, .iload_n 2, 1, [], [], [], []) := rfl
set_option maxRecDepth 100000 in
theorem ft_M_token_170 : aFetch kc_M_token 170 = some (170, .invokevirtual 200, 3, [161, 2, 1, 1, 10, 2], [], [], []) := rfl
set_option maxRecDepth 100000 in
theorem ft_M_token_173 : aFetch kc_M_token 173 = some (173, .iadd, 1, [], [], [], []) := rfl
set_option maxRecDepth 100000 in
theorem ft_M_token_174 : aFetch kc_M_token 174 = some (174, .bipush 48, 2, [], [.int 48], [], []) := rfl
set_option maxRecDepth 100000 in
theorem ft_M_token_176 : aFetch kc_M_token 176 = some (176, .isub, 1, [], [], [], []) := rfl
set_option maxRecDepth 100000 in
theorem ft_M_token_177 : aFetch kc_M_token 177 = some (177, .putfield 211, 3, [10, 8, 0, 0], [], [], []) := rfl
set_option maxRecDepth 100000 in
theorem ft_M_token_180 : aFetch kc_M_token 180 = some (180, .iinc 2 1, 3, [], [.int 1], [], []) := rfl
set_option maxRecDepth 100000 in
theorem ft_M_token_183 : aFetch kc_M_token 183 = some (183, .goto (-39), 3, [], [], [], [(144, [0, 2])]) := rfl
set_option maxRecDepth 100000 in
theorem ft_M_token_186 : aFetch kc_M_token 186 = some (186, .aload_n 0, 1, [], [], [], []) := rfl
set_option maxRecDepth 100000 in
theorem ft_M_token_187 : aFetch kc_M_token 187 = some (187, .iload_n 2, 1, [], [], [], []) := rfl
set_option maxRecDepth 100000 in
theorem ft_M_token_188 : aFetch kc_M_token 188 = some (188, .iconst 4, 1, [], [.int 4], [], []) := rfl
set_option maxRecDepth 100000 in
theorem ft_M_token_189 : aFetch kc_M_token 189 = some (189, .if_icmp .gt 14, 3, [], [], [], [(203, [0, 2])]) := rfl
set_option maxRecDepth 100000 in
theorem ft_M_token_192 : aFetch kc_M_token 192 = some (192, .aload_n 0, 1, [], [], [], []) := rfl
set_option maxRecDepth 100000 in
theorem ft_M_token_193 : aFetch kc_M_token 193 = some (193, .iload_n 2, 1, [], [], [], []) := rfl
set_option maxRecDepth 100000 in
theorem ft_M_token_194 : aFetch kc_M_token 194 = some (194, .invokevirtual 200, 3, [161, 2, 1, 1, 10, 2], [], [], []) := rfl
set_option maxRecDepth 100000 in
theorem ft_M_token_197 : aFetch kc_M_token 197 = some (197, .invokestatic 217, 3, [162, 1, 1, 0, 10, 1], [], [], []) := rfl
set_option maxRecDepth 100000 in
theorem ft_M_token_200 : aFetch kc_M_token 200 = some (200, .ifCond .eq 7, 3, [], [], [0, 2], [(207, [])]) := rfl
set_option maxRecDepth 100000 in
theorem ft_M_token_203 : aFetch kc_M_token 203 = some (203, .iconst 3, 1, [], [.int 3], [], []) := rfl
set_option maxRecDepth 100000 in
theorem ft_M_token_204 : aFetch kc_M_token 204 = some (204, .goto 4, 3, [], [], [], [(208, [0, 2])]) := rfl
set_option maxRecDepth 100000 in
theorem ft_M_token_207 : aFetch kc_M_token 207 = some (207, .iconst 2, 1, [], [.int 2], [0, 2], []) := rfl
set_option maxRecDepth 100000 in
theorem ft_M_token_208 : aFetch kc_M_token 208 = some (208, .putfield 214, 3, [10, 6, 0, 0], [], [], []) := rfl
set_option maxRecDepth 100000 in
theorem ft_M_token_211 : aFetch kc_M_token 211 = some (211, .goto 21, 3, [], [], [], [(232, [0, 2])]) := rfl
set_option maxRecDepth 100000 in
theorem ft_M_token_214 : aFetch kc_M_token 214 = some (214, .iconst 1, 1, [], [.int 1], [], []) := rfl
set_option maxRecDepth 100000 in
theorem ft_M_token_215 : aFetch kc_M_token 215 = some (215, .istore_n 2, 1, [], [], [], []) := rfl
set_option maxRecDepth 100000 in
theorem ft_M_token_216 : aFetch kc_M_token 216 = some (216, .aload_n 0, 1, [], [], [], []) := rfl
set_option maxRecDepth 100000 in
theorem ft_M_token_217 : aFetch kc_M_token 217 = some (217, .iload_n 1, 1, [], [], [], []) := rfl
set_option maxRecDepth 100000 in
theorem ft_M_token_218 : aFetch kc_M_token 218 = some (218, .invokestatic 224, 3, [164, 1, 1, 0, 10, 1], [], [], []) := rfl
set_option maxRecDepth 100000 in
theorem ft_M_token_221 : aFetch kc_M_token 221 = some (221, .ifCond .eq 7, 3, [], [], [], [(228, [])]) := rfl
set_option maxRecDepth 100000 in
theorem ft_M_token_224 : aFetch kc_M_token 224 = some (224, .iload_n 1, 1, [], [], [], []) := rfl
set_option maxRecDepth 100000 in
theorem ft_M_token_225 : aFetch kc_M_token 225 = some (225, .goto 4, 3, [], [], [], [(229, [0, 2])]) := rfl
set_option maxRecDepth 100000 in
theorem ft_M_token_228 : aFetch kc_M_token 228 = some (228, .iconst 3, 1, [], [.int 3], [0, 2], []) := rfl
set_option maxRecDepth 100000 in
theorem ft_M_token_229 : aFetch kc_M_token 229 = some (229, .putfield 214, 3, [10, 6, 0, 0], [], [0, 2], []) := rfl
set_option maxRecDepth 100000 in
theorem ft_M_token_232 : aFetch kc_M_token 232 = some (232, .aload_n 0, 1, [], [], [], []) := rfl
set_option maxRecDepth 100000 in
theorem ft_M_token_233 : aFetch kc_M_token 233 = some (233, .getfield 214, 3, [10, 6, 0, 0], [], [], []) := rfl
set_option maxRecDepth 100000 in
theorem ft_M_token_236 : aFetch kc_M_token 236 = some (236, .iconst 3, 1, [], [.int 3], [], []) := rfl
set_option maxRecDepth 100000 in
theorem ft_M_token_237 : aFetch kc_M_token 237 = some (237, .if_icmp .eq 13, 3, [], [], [], [(250, [])]) := rfl
set_option maxRecDepth 100000 in
theorem ft_M_token_240 : aFetch kc_M_token 240 = some (240, .aload_n 0, 1, [], [], [], []) := rfl
set_option maxRecDepth 100000 in
theorem ft_M_token_241 : aFetch kc_M_token 241 = some (241, .dup, 1, [], [], [], []) := rfl
set_option maxRecDepth 100000 in
theorem ft_M_token_242 : aFetch kc_M_token 242 = some (242, .getfield 194, 3, [10, 4, 0, 0], [], [], []) := rfl
set_option maxRecDepth 100000 in
theorem ft_M_token_245 : aFetch kc_M_token 245 = some (245, .iload_n 2, 1, [], [], [], []) := rfl
set_option maxRecDepth 100000 in
theorem ft_M_token_246 : aFetch kc_M_token 246 = some (246, .iadd, 1, [], [], [], []) := rfl
set_option maxRecDepth 100000 in
theorem ft_M_token_247 : aFetch kc_M_token 247 = some (247, .putfield 194, 3, [10, 4, 0, 0], [], [], []) := rfl
set_option maxRecDepth 100000 in
theorem ft_M_token_250 : aFetch kc_M_token 250 = some (250, .return_, 1, [], [], [], []) := rfl
set_option maxHeartbeats 4000000 in
set_option maxRecDepth 100000 in
theorem q_M_token (d : Nat)  (m : aMem) : f_M_token (d + 1)  m = (b_M_token_0 d m) := (show f_M_token (d + 1)  m = eV d kc_M_token (0, [(0, .ref 120)], []) m from rfl).trans rfl
set_option maxHeartbeats 4000000 in
set_option maxRecDepth 100000 in
theorem q_M_token_0 (d : Nat)  (m : aMem) : b_M_token_0 d  m = ((f_M_here d 0 m).bind fun q1 => (if q1.1 = 32 then (b_M_token_0 d (aUI q1.2 120 4 ((q1.2.1 120 4) + 1))) else ((f_M_here d 0 q1.2).bind fun q2 => (if ¬ q2.1 = 10 then ((f_M_here d 0 (aUI q2.2 120 7 (q2.2.1 120 4))).bind fun q3 => (if 0 ≤ q3.1 then ((f_M_isLetter d q3.1 (aUI (aUL q3.2 120 9 0) 120 8 0)).bind fun q4 => (if q4.1 = 0 then ((f_M_isDigit d q3.1 q4.2).bind fun q5 => (if q5.1 = 0 then ((f_M_isSign d q3.1 q5.2).bind fun q6 => (if q6.1 = 0 then (b_M_token_229 d 1 3 q6.2) else (b_M_token_229 d 1 q3.1 q6.2))) else (b_M_token_144 d 0 q5.2))) else (b_M_token_78 d 0 q4.2))) else (b_M_token_232 d 0 (aUI (aUI (aUL q3.2 120 9 0) 120 8 0) 120 6 0)))) else (b_M_token_0 d (aUI q2.2 120 4 ((q2.2.1 120 4) + 1))))))) := ((g1V ft_M_token_0 (fr' := (1, [(0, .ref 120)], [.ref 120])) (m' := m) rfl).trans ((g1V ft_M_token_1 (fr' := (2, [(0, .ref 120)], [.int 0, .ref 120])) (m' := m) rfl).trans ((cIV ft_M_token_2 (as := [.ref 120, .int 0]) (pc' := 5) (ls' := [(0, .ref 120)]) (st' := []) rfl).trans (bnd2 fun q1 => ((g1V ft_M_token_5 (fr' := (7, [(0, .ref 120)], [.int 32, .int q1.1])) (m' := q1.2) rfl).trans ((b1V ft_M_token_7 (p := q1.1 = 32) (f1 := (20, [(0, .ref 120)], [])) (f2 := (10, [(0, .ref 120)], [])) rfl).trans (ite2 ((g1V ft_M_token_20 (fr' := (21, [(0, .ref 120)], [.ref 120])) (m' := q1.2) rfl).trans ((g1V ft_M_token_21 (fr' := (22, [(0, .ref 120)], [.ref 120, .ref 120])) (m' := q1.2) rfl).trans ((g1V ft_M_token_22 (fr' := (25, [(0, .ref 120)], [.int (q1.2.1 120 4), .ref 120])) (m' := q1.2) rfl).trans ((g1V ft_M_token_25 (fr' := (26, [(0, .ref 120)], [.int 1, .int (q1.2.1 120 4), .ref 120])) (m' := q1.2) rfl).trans ((g1V ft_M_token_26 (fr' := (27, [(0, .ref 120)], [.int ((q1.2.1 120 4) + 1), .ref 120])) (m' := q1.2) rfl).trans ((g1V ft_M_token_27 (fr' := (30, [(0, .ref 120)], [])) (m' := (aUI q1.2 120 4 ((q1.2.1 120 4) + 1))) rfl).trans (g1V ft_M_token_30 (fr' := (0, [(0, .ref 120)], [])) (m' := (aUI q1.2 120 4 ((q1.2.1 120 4) + 1))) rfl))))))) ((g1V ft_M_token_10 (fr' := (11, [(0, .ref 120)], [.ref 120])) (m' := q1.2) rfl).trans ((g1V ft_M_token_11 (fr' := (12, [(0, .ref 120)], [.int 0, .ref 120])) (m' := q1.2) rfl).trans ((cIV ft_M_token_12 (as := [.ref 120, .int 0]) (pc' := 15) (ls' := [(0, .ref 120)]) (st' := []) rfl).trans (bnd2 fun q2 => ((g1V ft_M_token_15 (fr' := (17, [(0, .ref 120)], [.int 10, .int q2.1])) (m' := q2.2) rfl).trans ((b1V ft_M_token_17 (p := ¬ q2.1 = 10) (f1 := (33, [(0, .ref 120)], [])) (f2 := (20, [(0, .ref 120)], [])) rfl).trans (ite2 ((g1V ft_M_token_33 (fr' := (34, [(0, .ref 120)], [.ref 120])) (m' := q2.2) rfl).trans ((g1V ft_M_token_34 (fr' := (35, [(0, .ref 120)], [.ref 120, .ref 120])) (m' := q2.2) rfl).trans ((g1V ft_M_token_35 (fr' := (38, [(0, .ref 120)], [.int (q2.2.1 120 4), .ref 120])) (m' := q2.2) rfl).trans ((g1V ft_M_token_38 (fr' := (41, [(0, .ref 120)], [])) (m' := (aUI q2.2 120 7 (q2.2.1 120 4))) rfl).trans ((g1V ft_M_token_41 (fr' := (42, [(0, .ref 120)], [.ref 120])) (m' := (aUI q2.2 120 7 (q2.2.1 120 4))) rfl).trans ((g1V ft_M_token_42 (fr' := (43, [(0, .ref 120)], [.int 0, .ref 120])) (m' := (aUI q2.2 120 7 (q2.2.1 120 4))) rfl).trans ((cIV ft_M_token_43 (as := [.ref 120, .int 0]) (pc' := 46) (ls' := [(0, .ref 120)]) (st' := []) rfl).trans (bnd2 fun q3 => ((g1V ft_M_token_46 (fr' := (47, [(1, .int q3.1), (0, .ref 120)], [])) (m' := q3.2) rfl).trans ((g1V ft_M_token_47 (fr' := (48, [(1, .int q3.1), (0, .ref 120)], [.int 0])) (m' := q3.2) rfl).trans ((g1V ft_M_token_48 (fr' := (49, [(2, .int 0), (1, .int q3.1), (0, .ref 120)], [])) (m' := q3.2) rfl).trans ((g1V ft_M_token_49 (fr' := (50, [(2, .int 0), (1, .int q3.1), (0, .ref 120)], [.ref 120])) (m' := q3.2) rfl).trans ((g1V ft_M_token_50 (fr' := (51, [(2, .int 0), (1, .int q3.1), (0, .ref 120)], [.long 0, .ref 120])) (m' := q3.2) rfl).trans ((g1V ft_M_token_51 (fr' := (54, [(2, .int 0), (1, .int q3.1), (0, .ref 120)], [])) (m' := (aUL q3.2 120 9 0)) rfl).trans ((g1V ft_M_token_54 (fr' := (55, [(2, .int 0), (1, .int q3.1), (0, .ref 120)], [.ref 120])) (m' := (aUL q3.2 120 9 0)) rfl).trans ((g1V ft_M_token_55 (fr' := (56, [(2, .int 0), (1, .int q3.1), (0, .ref 120)], [.int 0, .ref 120])) (m' := (aUL q3.2 120 9 0)) rfl).trans ((g1V ft_M_token_56 (fr' := (59, [(2, .int 0), (1, .int q3.1), (0, .ref 120)], [])) (m' := (aUI (aUL q3.2 120 9 0) 120 8 0)) rfl).trans ((g1V ft_M_token_59 (fr' := (60, [(2, .int 0), (1, .int q3.1), (0, .ref 120)], [.int q3.1])) (m' := (aUI (aUL q3.2 120 9 0) 120 8 0)) rfl).trans ((b1V ft_M_token_60 (p := 0 ≤ q3.1) (f1 := (71, [(2, .int 0), (1, .int q3.1), (0, .ref 120)], [])) (f2 := (63, [(2, .int 0), (1, .int q3.1), (0, .ref 120)], [])) rfl).trans (ite2 ((g1V ft_M_token_71 (fr' := (72, [(2, .int 0), (1, .int q3.1), (0, .ref 120)], [.int q3.1])) (m' := (aUI (aUL q3.2 120 9 0) 120 8 0)) rfl).trans ((cIV ft_M_token_72 (as := [.int q3.1]) (pc' := 75) (ls' := [(2, .int 0), (1, .int q3.1), (0, .ref 120)]) (st' := []) rfl).trans (bnd2 fun q4 => ((b1V ft_M_token_75 (p := q4.1 = 0) (f1 := (137, [(2, .int 0), (1, .int q3.1), (0, .ref 120)], [])) (f2 := (78, [(0, .ref 120), (2, .int 0)], [])) rfl).trans (ite2 ((g1V ft_M_token_137 (fr' := (138, [(2, .int 0), (1, .int q3.1), (0, .ref 120)], [.int q3.1])) (m' := q4.2) rfl).trans ((cIV ft_M_token_138 (as := [.int q3.1]) (pc' := 141) (ls' := [(2, .int 0), (1, .int q3.1), (0, .ref 120)]) (st' := []) rfl).trans (bnd2 fun q5 => ((b1V ft_M_token_141 (p := q5.1 = 0) (f1 := (214, [(2, .int 0), (1, .int q3.1), (0, .ref 120)], [])) (f2 := (144, [(0, .ref 120), (2, .int 0)], [])) rfl).trans (ite2 ((g1V ft_M_token_214 (fr' := (215, [(2, .int 0), (1, .int q3.1), (0, .ref 120)], [.int 1])) (m' := q5.2) rfl).trans ((g1V ft_M_token_215 (fr' := (216, [(2, .int 1), (1, .int q3.1), (0, .ref 120)], [])) (m' := q5.2) rfl).trans ((g1V ft_M_token_216 (fr' := (217, [(2, .int 1), (1, .int q3.1), (0, .ref 120)], [.ref 120])) (m' := q5.2) rfl).trans ((g1V ft_M_token_217 (fr' := (218, [(2, .int 1), (1, .int q3.1), (0, .ref 120)], [.int q3.1, .ref 120])) (m' := q5.2) rfl).trans ((cIV ft_M_token_218 (as := [.int q3.1]) (pc' := 221) (ls' := [(2, .int 1), (1, .int q3.1), (0, .ref 120)]) (st' := [.ref 120]) rfl).trans (bnd2 fun q6 => ((b1V ft_M_token_221 (p := q6.1 = 0) (f1 := (228, [(2, .int 1), (1, .int q3.1), (0, .ref 120)], [.ref 120])) (f2 := (224, [(2, .int 1), (1, .int q3.1), (0, .ref 120)], [.ref 120])) rfl).trans (ite2 (g1V ft_M_token_228 (fr' := (229, [(0, .ref 120), (2, .int 1)], [.int 3, .ref 120])) (m' := q6.2) rfl) ((g1V ft_M_token_224 (fr' := (225, [(2, .int 1), (1, .int q3.1), (0, .ref 120)], [.int q3.1, .ref 120])) (m' := q6.2) rfl).trans (g1V ft_M_token_225 (fr' := (229, [(0, .ref 120), (2, .int 1)], [.int q3.1, .ref 120])) (m' := q6.2) rfl)))))))))) rfl))))) rfl))))) ((g1V ft_M_token_63 (fr' := (64, [(2, .int 0), (1, .int q3.1), (0, .ref 120)], [.ref 120])) (m' := (aUI (aUL q3.2 120 9 0) 120 8 0)) rfl).trans ((g1V ft_M_token_64 (fr' := (65, [(2, .int 0), (1, .int q3.1), (0, .ref 120)], [.int 0, .ref 120])) (m' := (aUI (aUL q3.2 120 9 0) 120 8 0)) rfl).trans ((g1V ft_M_token_65 (fr' := (68, [(2, .int 0), (1, .int q3.1), (0, .ref 120)], [])) (m' := (aUI (aUI (aUL q3.2 120 9 0) 120 8 0) 120 6 0)) rfl).trans (g1V ft_M_token_68 (fr' := (232, [(0, .ref 120), (2, .int 0)], [])) (m' := (aUI (aUI (aUL q3.2 120 9 0) 120 8 0) 120 6 0)) rfl)))))))))))))))))))))))) ((g1V ft_M_token_20 (fr' := (21, [(0, .ref 120)], [.ref 120])) (m' := q2.2) rfl).trans ((g1V ft_M_token_21 (fr' := (22, [(0, .ref 120)], [.ref 120, .ref 120])) (m' := q2.2) rfl).trans ((g1V ft_M_token_22 (fr' := (25, [(0, .ref 120)], [.int (q2.2.1 120 4), .ref 120])) (m' := q2.2) rfl).trans ((g1V ft_M_token_25 (fr' := (26, [(0, .ref 120)], [.int 1, .int (q2.2.1 120 4), .ref 120])) (m' := q2.2) rfl).trans ((g1V ft_M_token_26 (fr' := (27, [(0, .ref 120)], [.int ((q2.2.1 120 4) + 1), .ref 120])) (m' := q2.2) rfl).trans ((g1V ft_M_token_27 (fr' := (30, [(0, .ref 120)], [])) (m' := (aUI q2.2 120 4 ((q2.2.1 120 4) + 1))) rfl).trans (g1V ft_M_token_30 (fr' := (0, [(0, .ref 120)], [])) (m' := (aUI q2.2 120 4 ((q2.2.1 120 4) + 1))) rfl)))))))))))))))))))))
set_option maxHeartbeats 4000000 in
set_option maxRecDepth 100000 in
theorem q_M_token_78 (d : Nat) (x2 : Int32) (m : aMem) : b_M_token_78 d x2 m = ((f_M_here d x2 m).bind fun q1 => ((f_M_isLetter d q1.1 q1.2).bind fun q2 => (if q2.1 = 0 then (if x2 ≤ 8 then (b_M_token_131 d x2 1 q2.2) else (b_M_token_131 d x2 3 q2.2)) else (if 8 ≤ x2 then (b_M_token_78 d (x2 + 1) q2.2) else ((f_M_here d x2 q2.2).bind fun q3 => (b_M_token_78 d (x2 + 1) (aUL q3.2 120 9 (((q2.2.2.1 120 9) <<< ((8 : Int32).toInt64 &&& 63)) ||| q3.1.toInt64)))))))) := ((g1V ft_M_token_78 (fr' := (79, [(0, .ref 120), (2, .int x2)], [.ref 120])) (m' := m) rfl).trans ((g1V ft_M_token_79 (fr' := (80, [(0, .ref 120), (2, .int x2)], [.int x2, .ref 120])) (m' := m) rfl).trans ((cIV ft_M_token_80 (as := [.ref 120, .int x2]) (pc' := 83) (ls' := [(0, .ref 120), (2, .int x2)]) (st' := []) rfl).trans (bnd2 fun q1 => ((cIV ft_M_token_83 (as := [.int q1.1]) (pc' := 86) (ls' := [(0, .ref 120), (2, .int x2)]) (st' := []) rfl).trans (bnd2 fun q2 => ((b1V ft_M_token_86 (p := q2.1 = 0) (f1 := (119, [(0, .ref 120), (2, .int x2)], [])) (f2 := (89, [(0, .ref 120), (2, .int x2)], [])) rfl).trans (ite2 ((g1V ft_M_token_119 (fr' := (120, [(0, .ref 120), (2, .int x2)], [.ref 120])) (m' := q2.2) rfl).trans ((g1V ft_M_token_120 (fr' := (121, [(0, .ref 120), (2, .int x2)], [.int x2, .ref 120])) (m' := q2.2) rfl).trans ((g1V ft_M_token_121 (fr' := (123, [(0, .ref 120), (2, .int x2)], [.int 8, .int x2, .ref 120])) (m' := q2.2) rfl).trans ((b1V ft_M_token_123 (p := x2 ≤ 8) (f1 := (130, [(0, .ref 120), (2, .int x2)], [.ref 120])) (f2 := (126, [(0, .ref 120), (2, .int x2)], [.ref 120])) rfl).trans (ite2 (g1V ft_M_token_130 (fr' := (131, [(0, .ref 120), (2, .int x2)], [.int 1, .ref 120])) (m' := q2.2) rfl) ((g1V ft_M_token_126 (fr' := (127, [(0, .ref 120), (2, .int x2)], [.int 3, .ref 120])) (m' := q2.2) rfl).trans (g1V ft_M_token_127 (fr' := (131, [(0, .ref 120), (2, .int x2)], [.int 3, .ref 120])) (m' := q2.2) rfl))))))) ((g1V ft_M_token_89 (fr' := (90, [(0, .ref 120), (2, .int x2)], [.int x2])) (m' := q2.2) rfl).trans ((g1V ft_M_token_90 (fr' := (92, [(0, .ref 120), (2, .int x2)], [.int 8, .int x2])) (m' := q2.2) rfl).trans ((b1V ft_M_token_92 (p := 8 ≤ x2) (f1 := (113, [(0, .ref 120), (2, .int x2)], [])) (f2 := (95, [(0, .ref 120), (2, .int x2)], [])) rfl).trans (ite2 ((g1V ft_M_token_113 (fr' := (116, [(2, .int (x2 + 1)), (0, .ref 120)], [])) (m' := q2.2) rfl).trans (g1V ft_M_token_116 (fr' := (78, [(0, .ref 120), (2, .int (x2 + 1))], [])) (m' := q2.2) rfl)) ((g1V ft_M_token_95 (fr' := (96, [(0, .ref 120), (2, .int x2)], [.ref 120])) (m' := q2.2) rfl).trans ((g1V ft_M_token_96 (fr' := (97, [(0, .ref 120), (2, .int x2)], [.ref 120, .ref 120])) (m' := q2.2) rfl).trans ((g1V ft_M_token_97 (fr' := (100, [(0, .ref 120), (2, .int x2)], [.long (q2.2.2.1 120 9), .ref 120])) (m' := q2.2) rfl).trans ((g1V ft_M_token_100 (fr' := (102, [(0, .ref 120), (2, .int x2)], [.int 8, .long (q2.2.2.1 120 9), .ref 120])) (m' := q2.2) rfl).trans ((g1V ft_M_token_102 (fr' := (103, [(0, .ref 120), (2, .int x2)], [.long ((q2.2.2.1 120 9) <<< ((8 : Int32).toInt64 &&& 63)), .ref 120])) (m' := q2.2) rfl).trans ((g1V ft_M_token_103 (fr' := (104, [(0, .ref 120), (2, .int x2)], [.ref 120, .long ((q2.2.2.1 120 9) <<< ((8 : Int32).toInt64 &&& 63)), .ref 120])) (m' := q2.2) rfl).trans ((g1V ft_M_token_104 (fr' := (105, [(0, .ref 120), (2, .int x2)], [.int x2, .ref 120, .long ((q2.2.2.1 120 9) <<< ((8 : Int32).toInt64 &&& 63)), .ref 120])) (m' := q2.2) rfl).trans ((cIV ft_M_token_105 (as := [.ref 120, .int x2]) (pc' := 108) (ls' := [(0, .ref 120), (2, .int x2)]) (st' := [.long ((q2.2.2.1 120 9) <<< ((8 : Int32).toInt64 &&& 63)), .ref 120]) rfl).trans (bnd2 fun q3 => ((g1V ft_M_token_108 (fr' := (109, [(0, .ref 120), (2, .int x2)], [.long q3.1.toInt64, .long ((q2.2.2.1 120 9) <<< ((8 : Int32).toInt64 &&& 63)), .ref 120])) (m' := q3.2) rfl).trans ((g1V ft_M_token_109 (fr' := (110, [(0, .ref 120), (2, .int x2)], [.long (((q2.2.2.1 120 9) <<< ((8 : Int32).toInt64 &&& 63)) ||| q3.1.toInt64), .ref 120])) (m' := q3.2) rfl).trans ((g1V ft_M_token_110 (fr' := (113, [(0, .ref 120), (2, .int x2)], [])) (m' := (aUL q3.2 120 9 (((q2.2.2.1 120 9) <<< ((8 : Int32).toInt64 &&& 63)) ||| q3.1.toInt64))) rfl).trans ((g1V ft_M_token_113 (fr' := (116, [(2, .int (x2 + 1)), (0, .ref 120)], [])) (m' := (aUL q3.2 120 9 (((q2.2.2.1 120 9) <<< ((8 : Int32).toInt64 &&& 63)) ||| q3.1.toInt64))) rfl).trans (g1V ft_M_token_116 (fr' := (78, [(0, .ref 120), (2, .int (x2 + 1))], [])) (m' := (aUL q3.2 120 9 (((q2.2.2.1 120 9) <<< ((8 : Int32).toInt64 &&& 63)) ||| q3.1.toInt64))) rfl))))))))))))))))))))))))))
set_option maxHeartbeats 4000000 in
set_option maxRecDepth 100000 in
theorem q_M_token_131 (d : Nat) (x2 : Int32) (s1 : Int32) (m : aMem) : b_M_token_131 d x2 s1 m = (b_M_token_232 d x2 (aUI m 120 6 s1)) := ((g1V ft_M_token_131 (fr' := (134, [(0, .ref 120), (2, .int x2)], [])) (m' := (aUI m 120 6 s1)) rfl).trans (g1V ft_M_token_134 (fr' := (232, [(0, .ref 120), (2, .int x2)], [])) (m' := (aUI m 120 6 s1)) rfl))
set_option maxHeartbeats 4000000 in
set_option maxRecDepth 100000 in
theorem q_M_token_144 (d : Nat) (x2 : Int32) (m : aMem) : b_M_token_144 d x2 m = ((f_M_here d x2 m).bind fun q1 => ((f_M_isDigit d q1.1 q1.2).bind fun q2 => (if q2.1 = 0 then (if 4 < x2 then (b_M_token_203 d x2 q2.2) else ((f_M_here d x2 q2.2).bind fun q3 => ((f_M_isLetter d q3.1 q3.2).bind fun q4 => (if q4.1 = 0 then (b_M_token_208 d x2 2 q4.2) else (b_M_token_203 d x2 q4.2))))) else (if 4 ≤ x2 then (b_M_token_144 d (x2 + 1) q2.2) else ((f_M_here d x2 q2.2).bind fun q5 => (b_M_token_144 d (x2 + 1) (aUI q5.2 120 8 (((10 * (q2.2.1 120 8)) + q5.1) - 48)))))))) := ((g1V ft_M_token_144 (fr' := (145, [(0, .ref 120), (2, .int x2)], [.ref 120])) (m' := m) rfl).trans ((g1V ft_M_token_145 (fr' := (146, [(0, .ref 120), (2, .int x2)], [.int x2, .ref 120])) (m' := m) rfl).trans ((cIV ft_M_token_146 (as := [.ref 120, .int x2]) (pc' := 149) (ls' := [(0, .ref 120), (2, .int x2)]) (st' := []) rfl).trans (bnd2 fun q1 => ((cIV ft_M_token_149 (as := [.int q1.1]) (pc' := 152) (ls' := [(0, .ref 120), (2, .int x2)]) (st' := []) rfl).trans (bnd2 fun q2 => ((b1V ft_M_token_152 (p := q2.1 = 0) (f1 := (186, [(0, .ref 120), (2, .int x2)], [])) (f2 := (155, [(0, .ref 120), (2, .int x2)], [])) rfl).trans (ite2 ((g1V ft_M_token_186 (fr' := (187, [(0, .ref 120), (2, .int x2)], [.ref 120])) (m' := q2.2) rfl).trans ((g1V ft_M_token_187 (fr' := (188, [(0, .ref 120), (2, .int x2)], [.int x2, .ref 120])) (m' := q2.2) rfl).trans ((g1V ft_M_token_188 (fr' := (189, [(0, .ref 120), (2, .int x2)], [.int 4, .int x2, .ref 120])) (m' := q2.2) rfl).trans ((b1V ft_M_token_189 (p := 4 < x2) (f1 := (203, [(0, .ref 120), (2, .int x2)], [.ref 120])) (f2 := (192, [(0, .ref 120), (2, .int x2)], [.ref 120])) rfl).trans (ite2 rfl ((g1V ft_M_token_192 (fr' := (193, [(0, .ref 120), (2, .int x2)], [.ref 120, .ref 120])) (m' := q2.2) rfl).trans ((g1V ft_M_token_193 (fr' := (194, [(0, .ref 120), (2, .int x2)], [.int x2, .ref 120, .ref 120])) (m' := q2.2) rfl).trans ((cIV ft_M_token_194 (as := [.ref 120, .int x2]) (pc' := 197) (ls' := [(0, .ref 120), (2, .int x2)]) (st' := [.ref 120]) rfl).trans (bnd2 fun q3 => ((cIV ft_M_token_197 (as := [.int q3.1]) (pc' := 200) (ls' := [(0, .ref 120), (2, .int x2)]) (st' := [.ref 120]) rfl).trans (bnd2 fun q4 => ((b1V ft_M_token_200 (p := q4.1 = 0) (f1 := (207, [(0, .ref 120), (2, .int x2)], [.ref 120])) (f2 := (203, [(0, .ref 120), (2, .int x2)], [.ref 120])) rfl).trans (ite2 (g1V ft_M_token_207 (fr' := (208, [(0, .ref 120), (2, .int x2)], [.int 2, .ref 120])) (m' := q4.2) rfl) rfl))))))))))))) ((g1V ft_M_token_155 (fr' := (156, [(0, .ref 120), (2, .int x2)], [.int x2])) (m' := q2.2) rfl).trans ((g1V ft_M_token_156 (fr' := (157, [(0, .ref 120), (2, .int x2)], [.int 4, .int x2])) (m' := q2.2) rfl).trans ((b1V ft_M_token_157 (p := 4 ≤ x2) (f1 := (180, [(0, .ref 120), (2, .int x2)], [])) (f2 := (160, [(0, .ref 120), (2, .int x2)], [])) rfl).trans (ite2 ((g1V ft_M_token_180 (fr' := (183, [(2, .int (x2 + 1)), (0, .ref 120)], [])) (m' := q2.2) rfl).trans (g1V ft_M_token_183 (fr' := (144, [(0, .ref 120), (2, .int (x2 + 1))], [])) (m' := q2.2) rfl)) ((g1V ft_M_token_160 (fr' := (161, [(0, .ref 120), (2, .int x2)], [.ref 120])) (m' := q2.2) rfl).trans ((g1V ft_M_token_161 (fr' := (163, [(0, .ref 120), (2, .int x2)], [.int 10, .ref 120])) (m' := q2.2) rfl).trans ((g1V ft_M_token_163 (fr' := (164, [(0, .ref 120), (2, .int x2)], [.ref 120, .int 10, .ref 120])) (m' := q2.2) rfl).trans ((g1V ft_M_token_164 (fr' := (167, [(0, .ref 120), (2, .int x2)], [.int (q2.2.1 120 8), .int 10, .ref 120])) (m' := q2.2) rfl).trans ((g1V ft_M_token_167 (fr' := (168, [(0, .ref 120), (2, .int x2)], [.int (10 * (q2.2.1 120 8)), .ref 120])) (m' := q2.2) rfl).trans ((g1V ft_M_token_168 (fr' := (169, [(0, .ref 120), (2, .int x2)], [.ref 120, .int (10 * (q2.2.1 120 8)), .ref 120])) (m' := q2.2) rfl).trans ((g1V ft_M_token_169 (fr' := (170, [(0, .ref 120), (2, .int x2)], [.int x2, .ref 120, .int (10 * (q2.2.1 120 8)), .ref 120])) (m' := q2.2) rfl).trans ((cIV ft_M_token_170 (as := [.ref 120, .int x2]) (pc' := 173) (ls' := [(0, .ref 120), (2, .int x2)]) (st' := [.int (10 * (q2.2.1 120 8)), .ref 120]) rfl).trans (bnd2 fun q5 => ((g1V ft_M_token_173 (fr' := (174, [(0, .ref 120), (2, .int x2)], [.int ((10 * (q2.2.1 120 8)) + q5.1), .ref 120])) (m' := q5.2) rfl).trans ((g1V ft_M_token_174 (fr' := (176, [(0, .ref 120), (2, .int x2)], [.int 48, .int ((10 * (q2.2.1 120 8)) + q5.1), .ref 120])) (m' := q5.2) rfl).trans ((g1V ft_M_token_176 (fr' := (177, [(0, .ref 120), (2, .int x2)], [.int (((10 * (q2.2.1 120 8)) + q5.1) - 48), .ref 120])) (m' := q5.2) rfl).trans ((g1V ft_M_token_177 (fr' := (180, [(0, .ref 120), (2, .int x2)], [])) (m' := (aUI q5.2 120 8 (((10 * (q2.2.1 120 8)) + q5.1) - 48))) rfl).trans ((g1V ft_M_token_180 (fr' := (183, [(2, .int (x2 + 1)), (0, .ref 120)], [])) (m' := (aUI q5.2 120 8 (((10 * (q2.2.1 120 8)) + q5.1) - 48))) rfl).trans (g1V ft_M_token_183 (fr' := (144, [(0, .ref 120), (2, .int (x2 + 1))], [])) (m' := (aUI q5.2 120 8 (((10 * (q2.2.1 120 8)) + q5.1) - 48))) rfl)))))))))))))))))))))))))))
set_option maxHeartbeats 4000000 in
set_option maxRecDepth 100000 in
theorem q_M_token_203 (d : Nat) (x2 : Int32) (m : aMem) : b_M_token_203 d x2 m = (b_M_token_208 d x2 3 m) := ((g1V ft_M_token_203 (fr' := (204, [(0, .ref 120), (2, .int x2)], [.int 3, .ref 120])) (m' := m) rfl).trans (g1V ft_M_token_204 (fr' := (208, [(0, .ref 120), (2, .int x2)], [.int 3, .ref 120])) (m' := m) rfl))
set_option maxHeartbeats 4000000 in
set_option maxRecDepth 100000 in
theorem q_M_token_208 (d : Nat) (x2 : Int32) (s1 : Int32) (m : aMem) : b_M_token_208 d x2 s1 m = (b_M_token_232 d x2 (aUI m 120 6 s1)) := ((g1V ft_M_token_208 (fr' := (211, [(0, .ref 120), (2, .int x2)], [])) (m' := (aUI m 120 6 s1)) rfl).trans (g1V ft_M_token_211 (fr' := (232, [(0, .ref 120), (2, .int x2)], [])) (m' := (aUI m 120 6 s1)) rfl))
set_option maxHeartbeats 4000000 in
set_option maxRecDepth 100000 in
theorem q_M_token_229 (d : Nat) (x2 : Int32) (s1 : Int32) (m : aMem) : b_M_token_229 d x2 s1 m = (b_M_token_232 d x2 (aUI m 120 6 s1)) := (g1V ft_M_token_229 (fr' := (232, [(0, .ref 120), (2, .int x2)], [])) (m' := (aUI m 120 6 s1)) rfl)
set_option maxHeartbeats 4000000 in
set_option maxRecDepth 100000 in
theorem q_M_token_232 (d : Nat) (x2 : Int32) (m : aMem) : b_M_token_232 d x2 m = (if m.1 120 6 = 3 then (some m) else (some (aUI m 120 4 ((m.1 120 4) + x2)))) := ((g1V ft_M_token_232 (fr' := (233, [(0, .ref 120), (2, .int x2)], [.ref 120])) (m' := m) rfl).trans ((g1V ft_M_token_233 (fr' := (236, [(0, .ref 120), (2, .int x2)], [.int (m.1 120 6)])) (m' := m) rfl).trans ((g1V ft_M_token_236 (fr' := (237, [(0, .ref 120), (2, .int x2)], [.int 3, .int (m.1 120 6)])) (m' := m) rfl).trans ((b1V ft_M_token_237 (p := m.1 120 6 = 3) (f1 := (250, [(0, .ref 120), (2, .int x2)], [])) (f2 := (240, [(0, .ref 120), (2, .int x2)], [])) rfl).trans (ite2 (r1V ft_M_token_250 rfl) ((g1V ft_M_token_240 (fr' := (241, [(0, .ref 120), (2, .int x2)], [.ref 120])) (m' := m) rfl).trans ((g1V ft_M_token_241 (fr' := (242, [(0, .ref 120), (2, .int x2)], [.ref 120, .ref 120])) (m' := m) rfl).trans ((g1V ft_M_token_242 (fr' := (245, [(0, .ref 120), (2, .int x2)], [.int (m.1 120 4), .ref 120])) (m' := m) rfl).trans ((g1V ft_M_token_245 (fr' := (246, [(0, .ref 120), (2, .int x2)], [.int x2, .int (m.1 120 4), .ref 120])) (m' := m) rfl).trans ((g1V ft_M_token_246 (fr' := (247, [(0, .ref 120), (2, .int x2)], [.int ((m.1 120 4) + x2), .ref 120])) (m' := m) rfl).trans ((g1V ft_M_token_247 (fr' := (250, [(0, .ref 120), (2, .int x2)], [])) (m' := (aUI m 120 4 ((m.1 120 4) + x2))) rfl).trans (r1V ft_M_token_250 rfl))))))))))))
theorem ft_M_here_0 : aFetch kc_M_here 0 = some (0, .aload_n 0, 1, [], [], [], []) := rfl
theorem ft_M_here_1 : aFetch kc_M_here 1 = some (1, .getfield 194, 3, [10, 4, 0, 0], [], [], []) := rfl
theorem ft_M_here_4 : aFetch kc_M_here 4 = some (4, .iload_n 1, 1, [], [], [], []) := rfl
theorem ft_M_here_5 : aFetch kc_M_here 5 = some (5, .iadd, 1, [], [], [], []) := rfl
theorem ft_M_here_6 : aFetch kc_M_here 6 = some (6, .aload_n 0, 1, [], [], [], []) := rfl
theorem ft_M_here_7 : aFetch kc_M_here 7 = some (7, .getfield 197, 3, [10, 5, 0, 0], [], [], []) := rfl
theorem ft_M_here_10 : aFetch kc_M_here 10 = some (10, .if_icmp .ge 17, 3, [], [], [], [(27, [])]) := rfl
theorem ft_M_here_13 : aFetch kc_M_here 13 = some (13, .aload_n 0, 1, [], [], [], []) := rfl
theorem ft_M_here_14 : aFetch kc_M_here 14 = some (14, .getfield 7, 3, [10, 0, 3, 1], [], [], []) := rfl
theorem ft_M_here_17 : aFetch kc_M_here 17 = some (17, .aload_n 0, 1, [], [], [], []) := rfl
theorem ft_M_here_18 : aFetch kc_M_here 18 = some (18, .getfield 194, 3, [10, 4, 0, 0], [], [], []) := rfl
theorem ft_M_here_21 : aFetch kc_M_here 21 = some (21, .iload_n 1, 1, [], [], [], []) := rfl
theorem ft_M_here_22 : aFetch kc_M_here 22 = some (22, .iadd, 1, [], [], [], []) := rfl
theorem ft_M_here_23 : aFetch kc_M_here 23 = some (23, .iaload, 1, [1], [], [], []) := rfl
theorem ft_M_here_24 : aFetch kc_M_here 24 = some (24, .goto 4, 3, [], [], [], [(28, [])]) := rfl
theorem ft_M_here_27 : aFetch kc_M_here 27 = some (27, .iconst (-1), 1, [], [.int (-1)], [], []) := rfl
theorem ft_M_here_28 : aFetch kc_M_here 28 = some (28, .ireturn, 1, [0], [], [], []) := rfl
set_option maxHeartbeats 4000000 in
set_option maxRecDepth 100000 in
theorem q_M_here (d : Nat) (x1 : Int32) (m : aMem) : f_M_here (d + 1) x1 m = (if m.1 120 5 ≤ (m.1 120 4) + x1 then (some ((-1), m)) else (grd (inb ((m.1 120 4) + x1) 1600) (some (m.1 121 (((m.1 120 4) + x1 : Int32).toNatClampNeg), m)))) := (show f_M_here (d + 1) x1 m = eI d kc_M_here (0, [(0, .ref 120), (1, .int x1)], []) m from rfl).trans ((g1I ft_M_here_0 (fr' := (1, [(0, .ref 120), (1, .int x1)], [.ref 120])) (m' := m) rfl).trans ((g1I ft_M_here_1 (fr' := (4, [(0, .ref 120), (1, .int x1)], [.int (m.1 120 4)])) (m' := m) rfl).trans ((g1I ft_M_here_4 (fr' := (5, [(0, .ref 120), (1, .int x1)], [.int x1, .int (m.1 120 4)])) (m' := m) rfl).trans ((g1I ft_M_here_5 (fr' := (6, [(0, .ref 120), (1, .int x1)], [.int ((m.1 120 4) + x1)])) (m' := m) rfl).trans ((g1I ft_M_here_6 (fr' := (7, [(0, .ref 120), (1, .int x1)], [.ref 120, .int ((m.1 120 4) + x1)])) (m' := m) rfl).trans ((g1I ft_M_here_7 (fr' := (10, [(0, .ref 120), (1, .int x1)], [.int (m.1 120 5), .int ((m.1 120 4) + x1)])) (m' := m) rfl).trans ((b1I ft_M_here_10 (p := m.1 120 5 ≤ (m.1 120 4) + x1) (f1 := (27, [(0, .ref 120), (1, .int x1)], [])) (f2 := (13, [(0, .ref 120), (1, .int x1)], [])) rfl).trans (ite2 ((g1I ft_M_here_27 (fr' := (28, [(0, .ref 120), (1, .int x1)], [.int (-1)])) (m' := m) rfl).trans (r1I ft_M_here_28 rfl)) ((g1I ft_M_here_13 (fr' := (14, [(0, .ref 120), (1, .int x1)], [.ref 120])) (m' := m) rfl).trans ((g1I ft_M_here_14 (fr' := (17, [(0, .ref 120), (1, .int x1)], [.ref 121])) (m' := m) rfl).trans ((g1I ft_M_here_17 (fr' := (18, [(0, .ref 120), (1, .int x1)], [.ref 120, .ref 121])) (m' := m) rfl).trans ((g1I ft_M_here_18 (fr' := (21, [(0, .ref 120), (1, .int x1)], [.int (m.1 120 4), .ref 121])) (m' := m) rfl).trans ((g1I ft_M_here_21 (fr' := (22, [(0, .ref 120), (1, .int x1)], [.int x1, .int (m.1 120 4), .ref 121])) (m' := m) rfl).trans ((g1I ft_M_here_22 (fr' := (23, [(0, .ref 120), (1, .int x1)], [.int ((m.1 120 4) + x1), .ref 121])) (m' := m) rfl).trans ((g1Ig ft_M_here_23 (g := inb ((m.1 120 4) + x1) 1600) (fr' := (24, [(0, .ref 120), (1, .int x1)], [.int (m.1 121 (((m.1 120 4) + x1 : Int32).toNatClampNeg))])) (m' := m) (st_ia rfl)).trans (grd2 ((g1I ft_M_here_24 (fr' := (28, [(0, .ref 120), (1, .int x1)], [.int (m.1 121 (((m.1 120 4) + x1 : Int32).toNatClampNeg))])) (m' := m) rfl).trans (r1I ft_M_here_28 rfl))))))))))))))))))
theorem ft_M_isLetter_0 : aFetch kc_M_isLetter 0 = some (0, .iload_n 0, 1, [], [], [], []) := rfl
theorem ft_M_isLetter_1 : aFetch kc_M_isLetter 1 = some (1, .bipush 97, 2, [], [.int 97], [], []) := rfl
theorem ft_M_isLetter_3 : aFetch kc_M_isLetter 3 = some (3, .if_icmp .lt 13, 3, [], [], [], [(16, [])]) := rfl
theorem ft_M_isLetter_6 : aFetch kc_M_isLetter 6 = some (6, .iload_n 0, 1, [], [], [], []) := rfl
theorem ft_M_isLetter_7 : aFetch kc_M_isLetter 7 = some (7, .bipush 122, 2, [], [.int 122], [], []) := rfl
theorem ft_M_isLetter_9 : aFetch kc_M_isLetter 9 = some (9, .if_icmp .gt 7, 3, [], [], [], [(16, [])]) := rfl
theorem ft_M_isLetter_12 : aFetch kc_M_isLetter 12 = some (12, .iconst 1, 1, [], [.int 1], [], []) := rfl
theorem ft_M_isLetter_13 : aFetch kc_M_isLetter 13 = some (13, .goto 4, 3, [], [], [], [(17, [])]) := rfl
theorem ft_M_isLetter_16 : aFetch kc_M_isLetter 16 = some (16, .iconst 0, 1, [], [.int 0], [], []) := rfl
theorem ft_M_isLetter_17 : aFetch kc_M_isLetter 17 = some (17, .ireturn, 1, [1], [], [], []) := rfl
set_option maxHeartbeats 4000000 in
set_option maxRecDepth 100000 in
theorem q_M_isLetter (d : Nat) (x0 : Int32) (m : aMem) : f_M_isLetter (d + 1) x0 m = (if x0 < 97 then (some (0, m)) else (if 122 < x0 then (some (0, m)) else (some (1, m)))) := (show f_M_isLetter (d + 1) x0 m = eI d kc_M_isLetter (0, [(0, .int x0)], []) m from rfl).trans ((g1I ft_M_isLetter_0 (fr' := (1, [(0, .int x0)], [.int x0])) (m' := m) rfl).trans ((g1I ft_M_isLetter_1 (fr' := (3, [(0, .int x0)], [.int 97, .int x0])) (m' := m) rfl).trans ((b1I ft_M_isLetter_3 (p := x0 < 97) (f1 := (16, [(0, .int x0)], [])) (f2 := (6, [(0, .int x0)], [])) rfl).trans (ite2 ((g1I ft_M_isLetter_16 (fr' := (17, [(0, .int x0)], [.int 0])) (m' := m) rfl).trans (r1I ft_M_isLetter_17 rfl)) ((g1I ft_M_isLetter_6 (fr' := (7, [(0, .int x0)], [.int x0])) (m' := m) rfl).trans ((g1I ft_M_isLetter_7 (fr' := (9, [(0, .int x0)], [.int 122, .int x0])) (m' := m) rfl).trans ((b1I ft_M_isLetter_9 (p := 122 < x0) (f1 := (16, [(0, .int x0)], [])) (f2 := (12, [(0, .int x0)], [])) rfl).trans (ite2 ((g1I ft_M_isLetter_16 (fr' := (17, [(0, .int x0)], [.int 0])) (m' := m) rfl).trans (r1I ft_M_isLetter_17 rfl)) ((g1I ft_M_isLetter_12 (fr' := (13, [(0, .int x0)], [.int 1])) (m' := m) rfl).trans ((g1I ft_M_isLetter_13 (fr' := (17, [(0, .int x0)], [.int 1])) (m' := m) rfl).trans (r1I ft_M_isLetter_17 rfl)))))))))))
theorem ft_M_isDigit_0 : aFetch kc_M_isDigit 0 = some (0, .iload_n 0, 1, [], [], [], []) := rfl
theorem ft_M_isDigit_1 : aFetch kc_M_isDigit 1 = some (1, .bipush 48, 2, [], [.int 48], [], []) := rfl
theorem ft_M_isDigit_3 : aFetch kc_M_isDigit 3 = some (3, .if_icmp .lt 13, 3, [], [], [], [(16, [])]) := rfl
theorem ft_M_isDigit_6 : aFetch kc_M_isDigit 6 = some (6, .iload_n 0, 1, [], [], [], []) := rfl
theorem ft_M_isDigit_7 : aFetch kc_M_isDigit 7 = some (7, .bipush 57, 2, [], [.int 57], [], []) := rfl
theorem ft_M_isDigit_9 : aFetch kc_M_isDigit 9 = some (9, .if_icmp .gt 7, 3, [], [], [], [(16, [])]) := rfl
theorem ft_M_isDigit_12 : aFetch kc_M_isDigit 12 = some (12, .iconst 1, 1, [], [.int 1], [], []) := rfl
theorem ft_M_isDigit_13 : aFetch kc_M_isDigit 13 = some (13, .goto 4, 3, [], [], [], [(17, [])]) := rfl
theorem ft_M_isDigit_16 : aFetch kc_M_isDigit 16 = some (16, .iconst 0, 1, [], [.int 0], [], []) := rfl
theorem ft_M_isDigit_17 : aFetch kc_M_isDigit 17 = some (17, .ireturn, 1, [1], [], [], []) := rfl
set_option maxHeartbeats 4000000 in
set_option maxRecDepth 100000 in
theorem q_M_isDigit (d : Nat) (x0 : Int32) (m : aMem) : f_M_isDigit (d + 1) x0 m = (if x0 < 48 then (some (0, m)) else (if 57 < x0 then (some (0, m)) else (some (1, m)))) := (show f_M_isDigit (d + 1) x0 m = eI d kc_M_isDigit (0, [(0, .int x0)], []) m from rfl).trans ((g1I ft_M_isDigit_0 (fr' := (1, [(0, .int x0)], [.int x0])) (m' := m) rfl).trans ((g1I ft_M_isDigit_1 (fr' := (3, [(0, .int x0)], [.int 48, .int x0])) (m' := m) rfl).trans ((b1I ft_M_isDigit_3 (p := x0 < 48) (f1 := (16, [(0, .int x0)], [])) (f2 := (6, [(0, .int x0)], [])) rfl).trans (ite2 ((g1I ft_M_isDigit_16 (fr' := (17, [(0, .int x0)], [.int 0])) (m' := m) rfl).trans (r1I ft_M_isDigit_17 rfl)) ((g1I ft_M_isDigit_6 (fr' := (7, [(0, .int x0)], [.int x0])) (m' := m) rfl).trans ((g1I ft_M_isDigit_7 (fr' := (9, [(0, .int x0)], [.int 57, .int x0])) (m' := m) rfl).trans ((b1I ft_M_isDigit_9 (p := 57 < x0) (f1 := (16, [(0, .int x0)], [])) (f2 := (12, [(0, .int x0)], [])) rfl).trans (ite2 ((g1I ft_M_isDigit_16 (fr' := (17, [(0, .int x0)], [.int 0])) (m' := m) rfl).trans (r1I ft_M_isDigit_17 rfl)) ((g1I ft_M_isDigit_12 (fr' := (13, [(0, .int x0)], [.int 1])) (m' := m) rfl).trans ((g1I ft_M_isDigit_13 (fr' := (17, [(0, .int x0)], [.int 1])) (m' := m) rfl).trans (r1I ft_M_isDigit_17 rfl)))))))))))
theorem ft_M_isSign_0 : aFetch kc_M_isSign 0 = some (0, .iload_n 0, 1, [], [], [], []) := rfl
theorem ft_M_isSign_1 : aFetch kc_M_isSign 1 = some (1, .bipush 59, 2, [], [.int 59], [], []) := rfl
theorem ft_M_isSign_3 : aFetch kc_M_isSign 3 = some (3, .if_icmp .eq 63, 3, [], [], [], [(66, [])]) := rfl
theorem ft_M_isSign_6 : aFetch kc_M_isSign 6 = some (6, .iload_n 0, 1, [], [], [], []) := rfl
theorem ft_M_isSign_7 : aFetch kc_M_isSign 7 = some (7, .bipush 40, 2, [], [.int 40], [], []) := rfl
theorem ft_M_isSign_9 : aFetch kc_M_isSign 9 = some (9, .if_icmp .eq 57, 3, [], [], [], [(66, [])]) := rfl
theorem ft_M_isSign_12 : aFetch kc_M_isSign 12 = some (12, .iload_n 0, 1, [], [], [], []) := rfl
theorem ft_M_isSign_13 : aFetch kc_M_isSign 13 = some (13, .bipush 41, 2, [], [.int 41], [], []) := rfl
theorem ft_M_isSign_15 : aFetch kc_M_isSign 15 = some (15, .if_icmp .eq 51, 3, [], [], [], [(66, [])]) := rfl
theorem ft_M_isSign_18 : aFetch kc_M_isSign 18 = some (18, .iload_n 0, 1, [], [], [], []) := rfl
theorem ft_M_isSign_19 : aFetch kc_M_isSign 19 = some (19, .bipush 60, 2, [], [.int 60], [], []) := rfl
theorem ft_M_isSign_21 : aFetch kc_M_isSign 21 = some (21, .if_icmp .eq 45, 3, [], [], [], [(66, [])]) := rfl
theorem ft_M_isSign_24 : aFetch kc_M_isSign 24 = some (24, .iload_n 0, 1, [], [], [], []) := rfl
theorem ft_M_isSign_25 : aFetch kc_M_isSign 25 = some (25, .bipush 62, 2, [], [.int 62], [], []) := rfl
theorem ft_M_isSign_27 : aFetch kc_M_isSign 27 = some (27, .if_icmp .eq 39, 3, [], [], [], [(66, [])]) := rfl
theorem ft_M_isSign_30 : aFetch kc_M_isSign 30 = some (30, .iload_n 0, 1, [], [], [], []) := rfl
theorem ft_M_isSign_31 : aFetch kc_M_isSign 31 = some (31, .bipush 61, 2, [], [.int 61], [], []) := rfl
theorem ft_M_isSign_33 : aFetch kc_M_isSign 33 = some (33, .if_icmp .eq 33, 3, [], [], [], [(66, [])]) := rfl
theorem ft_M_isSign_36 : aFetch kc_M_isSign 36 = some (36, .iload_n 0, 1, [], [], [], []) := rfl
theorem ft_M_isSign_37 : aFetch kc_M_isSign 37 = some (37, .bipush 43, 2, [], [.int 43], [], []) := rfl
theorem ft_M_isSign_39 : aFetch kc_M_isSign 39 = some (39, .if_icmp .eq 27, 3, [], [], [], [(66, [])]) := rfl
theorem ft_M_isSign_42 : aFetch kc_M_isSign 42 = some (42, .iload_n 0, 1, [], [], [], []) := rfl
theorem ft_M_isSign_43 : aFetch kc_M_isSign 43 = some (43, .bipush 45, 2, [], [.int 45], [], []) := rfl
theorem ft_M_isSign_45 : aFetch kc_M_isSign 45 = some (45, .if_icmp .eq 21, 3, [], [], [], [(66, [])]) := rfl
theorem ft_M_isSign_48 : aFetch kc_M_isSign 48 = some (48, .iload_n 0, 1, [], [], [], []) := rfl
theorem ft_M_isSign_49 : aFetch kc_M_isSign 49 = some (49, .bipush 42, 2, [], [.int 42], [], []) := rfl
theorem ft_M_isSign_51 : aFetch kc_M_isSign 51 = some (51, .if_icmp .eq 15, 3, [], [], [], [(66, [])]) := rfl
theorem ft_M_isSign_54 : aFetch kc_M_isSign 54 = some (54, .iload_n 0, 1, [], [], [], []) := rfl
theorem ft_M_isSign_55 : aFetch kc_M_isSign 55 = some (55, .bipush 47, 2, [], [.int 47], [], []) := rfl
theorem ft_M_isSign_57 : aFetch kc_M_isSign 57 = some (57, .if_icmp .eq 9, 3, [], [], [], [(66, [])]) := rfl
theorem ft_M_isSign_60 : aFetch kc_M_isSign 60 = some (60, .iload_n 0, 1, [], [], [], []) := rfl
theorem ft_M_isSign_61 : aFetch kc_M_isSign 61 = some (61, .bipush 37, 2, [], [.int 37], [], []) := rfl
theorem ft_M_isSign_63 : aFetch kc_M_isSign 63 = some (63, .if_icmp .ne 7, 3, [], [], [], [(70, [])]) := rfl
theorem ft_M_isSign_66 : aFetch kc_M_isSign 66 = some (66, .iconst 1, 1, [], [.int 1], [], []) := rfl
theorem ft_M_isSign_67 : aFetch kc_M_isSign 67 = some (67, .goto 4, 3, [], [], [], [(71, [])]) := rfl
theorem ft_M_isSign_70 : aFetch kc_M_isSign 70 = some (70, .iconst 0, 1, [], [.int 0], [], []) := rfl
theorem ft_M_isSign_71 : aFetch kc_M_isSign 71 = some (71, .ireturn, 1, [1], [], [], []) := rfl
set_option maxHeartbeats 4000000 in
set_option maxRecDepth 100000 in
theorem q_M_isSign (d : Nat) (x0 : Int32) (m : aMem) : f_M_isSign (d + 1) x0 m = (if x0 = 59 then (some (1, m)) else (if x0 = 40 then (some (1, m)) else (if x0 = 41 then (some (1, m)) else (if x0 = 60 then (some (1, m)) else (if x0 = 62 then (some (1, m)) else (if x0 = 61 then (some (1, m)) else (if x0 = 43 then (some (1, m)) else (if x0 = 45 then (some (1, m)) else (if x0 = 42 then (some (1, m)) else (if x0 = 47 then (some (1, m)) else (if ¬ x0 = 37 then (some (0, m)) else (some (1, m))))))))))))) := (show f_M_isSign (d + 1) x0 m = eI d kc_M_isSign (0, [(0, .int x0)], []) m from rfl).trans ((g1I ft_M_isSign_0 (fr' := (1, [(0, .int x0)], [.int x0])) (m' := m) rfl).trans ((g1I ft_M_isSign_1 (fr' := (3, [(0, .int x0)], [.int 59, .int x0])) (m' := m) rfl).trans ((b1I ft_M_isSign_3 (p := x0 = 59) (f1 := (66, [(0, .int x0)], [])) (f2 := (6, [(0, .int x0)], [])) rfl).trans (ite2 ((g1I ft_M_isSign_66 (fr' := (67, [(0, .int x0)], [.int 1])) (m' := m) rfl).trans ((g1I ft_M_isSign_67 (fr' := (71, [(0, .int x0)], [.int 1])) (m' := m) rfl).trans (r1I ft_M_isSign_71 rfl))) ((g1I ft_M_isSign_6 (fr' := (7, [(0, .int x0)], [.int x0])) (m' := m) rfl).trans ((g1I ft_M_isSign_7 (fr' := (9, [(0, .int x0)], [.int 40, .int x0])) (m' := m) rfl).trans ((b1I ft_M_isSign_9 (p := x0 = 40) (f1 := (66, [(0, .int x0)], [])) (f2 := (12, [(0, .int x0)], [])) rfl).trans (ite2 ((g1I ft_M_isSign_66 (fr' := (67, [(0, .int x0)], [.int 1])) (m' := m) rfl).trans ((g1I ft_M_isSign_67 (fr' := (71, [(0, .int x0)], [.int 1])) (m' := m) rfl).trans (r1I ft_M_isSign_71 rfl))) ((g1I ft_M_isSign_12 (fr' := (13, [(0, .int x0)], [.int x0])) (m' := m) rfl).trans ((g1I ft_M_isSign_13 (fr' := (15, [(0, .int x0)], [.int 41, .int x0])) (m' := m) rfl).trans ((b1I ft_M_isSign_15 (p := x0 = 41) (f1 := (66, [(0, .int x0)], [])) (f2 := (18, [(0, .int x0)], [])) rfl).trans (ite2 ((g1I ft_M_isSign_66 (fr' := (67, [(0, .int x0)], [.int 1])) (m' := m) rfl).trans ((g1I ft_M_isSign_67 (fr' := (71, [(0, .int x0)], [.int 1])) (m' := m) rfl).trans (r1I ft_M_isSign_71 rfl))) ((g1I ft_M_isSign_18 (fr' := (19, [(0, .int x0)], [.int x0])) (m' := m) rfl).trans ((g1I ft_M_isSign_19 (fr' := (21, [(0, .int x0)], [.int 60, .int x0])) (m' := m) rfl).trans ((b1I ft_M_isSign_21 (p := x0 = 60) (f1 := (66, [(0, .int x0)], [])) (f2 := (24, [(0, .int x0)], [])) rfl).trans (ite2 ((g1I ft_M_isSign_66 (fr' := (67, [(0, .int x0)], [.int 1])) (m' := m) rfl).trans ((g1I ft_M_isSign_67 (fr' := (71, [(0, .int x0)], [.int 1])) (m' := m) rfl).trans (r1I ft_M_isSign_71 rfl))) ((g1I ft_M_isSign_24 (fr' := (25, [(0, .int x0)], [.int x0])) (m' := m) rfl).trans ((g1I ft_M_isSign_25 (fr' := (27, [(0, .int x0)], [.int 62, .int x0])) (m' := m) rfl).trans ((b1I ft_M_isSign_27 (p := x0 = 62) (f1 := (66, [(0, .int x0)], [])) (f2 := (30, [(0, .int x0)], [])) rfl).trans (ite2 ((g1I ft_M_isSign_66 (fr' := (67, [(0, .int x0)], [.int 1])) (m' := m) rfl).trans ((g1I ft_M_isSign_67 (fr' := (71, [(0, .int x0)], [.int 1])) (m' := m) rfl).trans (r1I ft_M_isSign_71 rfl))) ((g1I ft_M_isSign_30 (fr' := (31, [(0, .int x0)], [.int x0])) (m' := m) rfl).trans ((g1I ft_M_isSign_31 (fr' := (33, [(0, .int x0)], [.int 61, .int x0])) (m' := m) rfl).trans ((b1I ft_M_isSign_33 (p := x0 = 61) (f1 := (66, [(0, .int x0)], [])) (f2 := (36, [(0, .int x0)], [])) rfl).trans (ite2 ((g1I ft_M_isSign_66 (fr' := (67, [(0, .int x0)], [.int 1])) (m' := m) rfl).trans ((g1I ft_M_isSign_67 (fr' := (71, [(0, .int x0)], [.int 1])) (m' := m) rfl).trans (r1I ft_M_isSign_71 rfl))) ((g1I ft_M_isSign_36 (fr' := (37, [(0, .int x0)], [.int x0])) (m' := m) rfl).trans ((g1I ft_M_isSign_37 (fr' := (39, [(0, .int x0)], [.int 43, .int x0])) (m' := m) rfl).trans ((b1I ft_M_isSign_39 (p := x0 = 43) (f1 := (66, [(0, .int x0)], [])) (f2 := (42, [(0, .int x0)], [])) rfl).trans (ite2 ((g1I ft_M_isSign_66 (fr' := (67, [(0, .int x0)], [.int 1])) (m' := m) rfl).trans ((g1I ft_M_isSign_67 (fr' := (71, [(0, .int x0)], [.int 1])) (m' := m) rfl).trans (r1I ft_M_isSign_71 rfl))) ((g1I ft_M_isSign_42 (fr' := (43, [(0, .int x0)], [.int x0])) (m' := m) rfl).trans ((g1I ft_M_isSign_43 (fr' := (45, [(0, .int x0)], [.int 45, .int x0])) (m' := m) rfl).trans ((b1I ft_M_isSign_45 (p := x0 = 45) (f1 := (66, [(0, .int x0)], [])) (f2 := (48, [(0, .int x0)], [])) rfl).trans (ite2 ((g1I ft_M_isSign_66 (fr' := (67, [(0, .int x0)], [.int 1])) (m' := m) rfl).trans ((g1I ft_M_isSign_67 (fr' := (71, [(0, .int x0)], [.int 1])) (m' := m) rfl).trans (r1I ft_M_isSign_71 rfl))) ((g1I ft_M_isSign_48 (fr' := (49, [(0, .int x0)], [.int x0])) (m' := m) rfl).trans ((g1I ft_M_isSign_49 (fr' := (51, [(0, .int x0)], [.int 42, .int x0])) (m' := m) rfl).trans ((b1I ft_M_isSign_51 (p := x0 = 42) (f1 := (66, [(0, .int x0)], [])) (f2 := (54, [(0, .int x0)], [])) rfl).trans (ite2 ((g1I ft_M_isSign_66 (fr' := (67, [(0, .int x0)], [.int 1])) (m' := m) rfl).trans ((g1I ft_M_isSign_67 (fr' := (71, [(0, .int x0)], [.int 1])) (m' := m) rfl).trans (r1I ft_M_isSign_71 rfl))) ((g1I ft_M_isSign_54 (fr' := (55, [(0, .int x0)], [.int x0])) (m' := m) rfl).trans ((g1I ft_M_isSign_55 (fr' := (57, [(0, .int x0)], [.int 47, .int x0])) (m' := m) rfl).trans ((b1I ft_M_isSign_57 (p := x0 = 47) (f1 := (66, [(0, .int x0)], [])) (f2 := (60, [(0, .int x0)], [])) rfl).trans (ite2 ((g1I ft_M_isSign_66 (fr' := (67, [(0, .int x0)], [.int 1])) (m' := m) rfl).trans ((g1I ft_M_isSign_67 (fr' := (71, [(0, .int x0)], [.int 1])) (m' := m) rfl).trans (r1I ft_M_isSign_71 rfl))) ((g1I ft_M_isSign_60 (fr' := (61, [(0, .int x0)], [.int x0])) (m' := m) rfl).trans ((g1I ft_M_isSign_61 (fr' := (63, [(0, .int x0)], [.int 37, .int x0])) (m' := m) rfl).trans ((b1I ft_M_isSign_63 (p := ¬ x0 = 37) (f1 := (70, [(0, .int x0)], [])) (f2 := (66, [(0, .int x0)], [])) rfl).trans (ite2 ((g1I ft_M_isSign_70 (fr' := (71, [(0, .int x0)], [.int 0])) (m' := m) rfl).trans (r1I ft_M_isSign_71 rfl)) ((g1I ft_M_isSign_66 (fr' := (67, [(0, .int x0)], [.int 1])) (m' := m) rfl).trans ((g1I ft_M_isSign_67 (fr' := (71, [(0, .int x0)], [.int 1])) (m' := m) rfl).trans (r1I ft_M_isSign_71 rfl)))))))))))))))))))))))))))))))))))))))))))))))
set_option maxRecDepth 100000 in
theorem ft_M_readLine_0 : aFetch kc_M_readLine 0 = some (0, .aload_n 0, 1, [], [], [], []) := rfl
set_option maxRecDepth 100000 in
theorem ft_M_readLine_1 : aFetch kc_M_readLine 1 = some (1, .ldc2_w 230, 3, [], [.long 1919905638], [], []) := rfl
set_option maxRecDepth 100000 in
theorem ft_M_readLine_4 : aFetch kc_M_readLine 4 = some (4, .invokevirtual 284, 3, [166, 2, 1, 1, 10, 3], [], [], []) := rfl
set_option maxRecDepth 100000 in
theorem ft_M_readLine_7 : aFetch kc_M_readLine 7 = some (7, .ifCond .eq 18, 3, [], [], [], [(25, [0])]) := rfl
set_option maxRecDepth 100000 in
theorem ft_M_readLine_10 : aFetch kc_M_readLine 10 = some (10, .aload_n 0, 1, [], [], [], []) := rfl
set_option maxRecDepth 100000 in
theorem ft_M_readLine_11 : aFetch kc_M_readLine 11 = some (11, .getfield 373, 3, [10, 46, 0, 0], [], [], []) := rfl
set_option maxRecDepth 100000 in
theorem ft_M_readLine_14 : aFetch kc_M_readLine 14 = some (14, .iconst 4, 1, [], [.int 4], [], []) := rfl
set_option maxRecDepth 100000 in
theorem ft_M_readLine_15 : aFetch kc_M_readLine 15 = some (15, .if_icmp .ge 10, 3, [], [], [], [(25, [0])]) := rfl
set_option maxRecDepth 100000 in
theorem ft_M_readLine_18 : aFetch kc_M_readLine 18 = some (18, .aload_n 0, 1, [], [], [], []) := rfl
set_option maxRecDepth 100000 in
theorem ft_M_readLine_19 : aFetch kc_M_readLine 19 = some (19, .invokevirtual 392, 3, [167, 1, 0, 1, 10, 1], [], [], []) := rfl
set_option maxRecDepth 100000 in
theorem ft_M_readLine_22 : aFetch kc_M_readLine 22 = some (22, .goto 223, 3, [], [], [], [(245, [0])]) := rfl
set_option maxRecDepth 100000 in
theorem ft_M_readLine_25 : aFetch kc_M_readLine 25 = some (25, .aload_n 0, 1, [], [], [], []) := rfl
set_option maxRecDepth 100000 in
theorem ft_M_readLine_26 : aFetch kc_M_readLine 26 = some (26, .ldc2_w 236, 3, [], [.long 1802073189], [], []) := rfl
set_option maxRecDepth 100000 in
theorem ft_M_readLine_29 : aFetch kc_M_readLine 29 = some (29, .invokevirtual 284, 3, [166, 2, 1, 1, 10, 3], [], [], []) := rfl
set_option maxRecDepth 100000 in
theorem ft_M_readLine_32 : aFetch kc_M_readLine 32 = some (32, .ifCond .eq 19, 3, [], [], [], [(51, [0])]) := rfl
set_option maxRecDepth 100000 in
theorem ft_M_readLine_35 : aFetch kc_M_readLine 35 = some (35, .aload_n 0, 1, [], [], [], []) := rfl
set_option maxRecDepth 100000 in
theorem ft_M_readLine_36 : aFetch kc_M_readLine 36 = some (36, .getfield 379, 3, [10, 47, 0, 0], [], [], []) := rfl
set_option maxRecDepth 100000 in
theorem ft_M_readLine_39 : aFetch kc_M_readLine 39 = some (39, .bipush 8, 2, [], [.int 8], [], []) := rfl
set_option maxRecDepth 100000 in
theorem ft_M_readLine_41 : aFetch kc_M_readLine 41 = some (41, .if_icmp .ge 10, 3, [], [], [], [(51, [0])]) := rfl
set_option maxRecDepth 100000 in
theorem ft_M_readLine_44 : aFetch kc_M_readLine 44 = some (44, .aload_n 0, 1, [], [], [], []) := rfl
set_option maxRecDepth 100000 in
theorem ft_M_readLine_45 : aFetch kc_M_readLine 45 = some (45, .invokevirtual 395, 3, [176, 1, 0, 1, 10, 3], [], [], []) := rfl
set_option maxRecDepth 100000 in
theorem ft_M_readLine_48 : aFetch kc_M_readLine 48 = some (48, .goto 197, 3, [], [], [], [(245, [0])]) := rfl
set_option maxRecDepth 100000 in
theorem ft_M_readLine_51 : aFetch kc_M_readLine 51 = some (51, .aload_n 0, 1, [], [], [], []) := rfl
set_option maxRecDepth 100000 in
theorem ft_M_readLine_52 : aFetch kc_M_readLine 52 = some (52, .ldc2_w 248, 3, [], [.long 6451065], [], []) := rfl
set_option maxRecDepth 100000 in
theorem ft_M_readLine_55 : aFetch kc_M_readLine 55 = some (55, .invokevirtual 284, 3, [166, 2, 1, 1, 10, 3], [], [], []) := rfl
set_option maxRecDepth 100000 in
theorem ft_M_readLine_58 : aFetch kc_M_readLine 58 = some (58, .ifCond .eq 18, 3, [], [], [], [(76, [0])]) := rfl
set_option maxRecDepth 100000 in
theorem ft_M_readLine_61 : aFetch kc_M_readLine 61 = some (61, .aload_n 0, 1, [], [], [], []) := rfl
set_option maxRecDepth 100000 in
theorem ft_M_readLine_62 : aFetch kc_M_readLine 62 = some (62, .getfield 389, 3, [10, 48, 0, 0], [], [], []) := rfl
set_option maxRecDepth 100000 in
theorem ft_M_readLine_65 : aFetch kc_M_readLine 65 = some (65, .iconst 4, 1, [], [.int 4], [], []) := rfl
set_option maxRecDepth 100000 in
theorem ft_M_readLine_66 : aFetch kc_M_readLine 66 = some (66, .if_icmp .ge 10, 3, [], [], [], [(76, [0])]) := rfl
set_option maxRecDepth 100000 in
theorem ft_M_readLine_69 : aFetch kc_M_readLine 69 = some (69, .aload_n 0, 1, [], [], [], []) := rfl
set_option maxRecDepth 100000 in
theorem ft_M_readLine_70 : aFetch kc_M_readLine 70 = some (70, .invokevirtual 398, 3, [179, 1, 0, 1, 10, 1], [], [], []) := rfl
set_option maxRecDepth 100000 in
theorem ft_M_readLine_73 : aFetch kc_M_readLine 73 = some (73, .goto 172, 3, [], [], [], [(245, [0])]) := rfl
set_option maxRecDepth 100000 in
theorem ft_M_readLine_76 : aFetch kc_M_readLine 76 = some (76, .aload_n 0, 1, [], [], [], []) := rfl
set_option maxRecDepth 100000 in
theorem ft_M_readLine_77 : aFetch kc_M_readLine 77 = some (77, .ldc2_w 254, 3, [], [.long 448545973363], [], []) := rfl
set_option maxRecDepth 100000 in
theorem ft_M_readLine_80 : aFetch kc_M_readLine 80 = some (80, .invokevirtual 284, 3, [166, 2, 1, 1, 10, 3], [], [], []) := rfl
set_option maxRecDepth 100000 in
theorem ft_M_readLine_83 : aFetch kc_M_readLine 83 = some (83, .ifCond .eq 10, 3, [], [], [], [(93, [])]) := rfl
set_option maxRecDepth 100000 in
theorem ft_M_readLine_86 : aFetch kc_M_readLine 86 = some (86, .aload_n 0, 1, [], [], [], []) := rfl
set_option maxRecDepth 100000 in
theorem ft_M_readLine_87 : aFetch kc_M_readLine 87 = some (87, .invokevirtual 401, 3, [180, 1, 0, 1, 10, 3], [], [], []) := rfl
set_option maxRecDepth 100000 in
theorem ft_M_readLine_90 : aFetch kc_M_readLine 90 = some (90, .goto 155, 3, [], [], [], [(245, [0])]) := rfl
set_option maxRecDepth 100000 in
theorem ft_M_readLine_93 : aFetch kc_M_readLine 93 = some (93, .aload_n 0, 1, [], [], [], []) := rfl
set_option maxRecDepth 100000 in
theorem ft_M_readLine_94 : aFetch kc_M_readLine 94 = some (94, .ldc2_w 256, 3, [], [.long 2003398244], [], []) := rfl
set_option maxRecDepth 100000 in
theorem ft_M_readLine_97 : aFetch kc_M_readLine 97 = some (97, .invokevirtual 284, 3, [166, 2, 1, 1, 10, 3], [], [], []) := rfl
set_option maxRecDepth 100000 in
theorem ft_M_readLine_100 : aFetch kc_M_readLine 100 = some (100, .ifCond .eq 20, 3, [], [], [], [(120, [0])]) := rfl
set_option maxRecDepth 100000 in
theorem ft_M_readLine_103 : aFetch kc_M_readLine 103 = some (103, .aload_n 0, 1, [], [], [], []) := rfl
set_option maxRecDepth 100000 in
theorem ft_M_readLine_104 : aFetch kc_M_readLine 104 = some (104, .getfield 45, 3, [10, 19, 3, 1], [], [], []) := rfl
set_option maxRecDepth 100000 in
theorem ft_M_readLine_107 : aFetch kc_M_readLine 107 = some (107, .iconst 0, 1, [], [.int 0], [], []) := rfl
set_option maxRecDepth 100000 in
theorem ft_M_readLine_108 : aFetch kc_M_readLine 108 = some (108, .baload, 1, [3], [], [], []) := rfl
set_option maxRecDepth 100000 in
theorem ft_M_readLine_109 : aFetch kc_M_readLine 109 = some (109, .ifCond .ne 11, 3, [], [], [], [(120, [0])]) := rfl
set_option maxRecDepth 100000 in
theorem ft_M_readLine_112 : aFetch kc_M_readLine 112 = some (112, .aload_n 0, 1, [], [], [], []) := rfl
set_option maxRecDepth 100000 in
theorem ft_M_readLine_113 : aFetch kc_M_readLine 113 = some (113, .iconst 0, 1, [], [.int 0], [], []) := rfl
set_option maxRecDepth 100000 in
theorem ft_M_readLine_114 : aFetch kc_M_readLine 114 = some (114, .invokevirtual 404, 3, [181, 2, 0, 1, 10, 4], [], [], []) := rfl
set_option maxRecDepth 100000 in
theorem ft_M_readLine_117 : aFetch kc_M_readLine 117 = some (117, .goto 128, 3, [], [], [], [(245, [0])]) := rfl
set_option maxRecDepth 100000 in
theorem ft_M_readLine_120 : aFetch kc_M_readLine 120 = some (120, .aload_n 0, 1, [], [], [], []) := rfl
set_option maxRecDepth 100000 in
theorem ft_M_readLine_121 : aFetch kc_M_readLine 121 = some (121, .ldc2_w 258, 3, [], [.long 1818846836], [], []) := rfl
set_option maxRecDepth 100000 in
theorem ft_M_readLine_124 : aFetch kc_M_readLine 124 = some (124, .invokevirtual 284, 3, [166, 2, 1, 1, 10, 3], [], [], []) := rfl
set_option maxRecDepth 100000 in
theorem ft_M_readLine_127 : aFetch kc_M_readLine 127 = some (127, .ifCond .eq 20, 3, [], [], [], [(147, [0])]) := rfl
set_option maxRecDepth 100000 in
theorem ft_M_readLine_130 : aFetch kc_M_readLine 130 = some (130, .aload_n 0, 1, [], [], [], []) := rfl
set_option maxRecDepth 100000 in
theorem ft_M_readLine_131 : aFetch kc_M_readLine 131 = some (131, .getfield 45, 3, [10, 19, 3, 1], [], [], []) := rfl
set_option maxRecDepth 100000 in
theorem ft_M_readLine_134 : aFetch kc_M_readLine 134 = some (134, .iconst 1, 1, [], [.int 1], [], []) := rfl
set_option maxRecDepth 100000 in
theorem ft_M_readLine_135 : aFetch kc_M_readLine 135 = some (135, .baload, 1, [3], [], [], []) := rfl
set_option maxRecDepth 100000 in
theorem ft_M_readLine_136 : aFetch kc_M_readLine 136 = some (136, .ifCond .ne 11, 3, [], [], [], [(147, [0])]) := rfl
set_option maxRecDepth 100000 in
theorem ft_M_readLine_139 : aFetch kc_M_readLine 139 = some (139, .aload_n 0, 1, [], [], [], []) := rfl
set_option maxRecDepth 100000 in
theorem ft_M_readLine_140 : aFetch kc_M_readLine 140 = some (140, .iconst 1, 1, [], [.int 1], [], []) := rfl
set_option maxRecDepth 100000 in
theorem ft_M_readLine_141 : aFetch kc_M_readLine 141 = some (141, .invokevirtual 404, 3, [181, 2, 0, 1, 10, 4], [], [], []) := rfl
set_option maxRecDepth 100000 in
theorem ft_M_readLine_144 : aFetch kc_M_readLine 144 = some (144, .goto 101, 3, [], [], [], [(245, [0])]) := rfl
set_option maxRecDepth 100000 in
theorem ft_M_readLine_147 : aFetch kc_M_readLine 147 = some (147, .aload_n 0, 1, [], [], [], []) := rfl
set_option maxRecDepth 100000 in
theorem ft_M_readLine_148 : aFetch kc_M_readLine 148 = some (148, .ldc2_w 260, 3, [], [.long 1735750516], [], []) := rfl
set_option maxRecDepth 100000 in
theorem ft_M_readLine_151 : aFetch kc_M_readLine 151 = some (151, .invokevirtual 284, 3, [166, 2, 1, 1, 10, 3], [], [], []) := rfl
set_option maxRecDepth 100000 in
theorem ft_M_readLine_154 : aFetch kc_M_readLine 154 = some (154, .ifCond .eq 46, 3, [], [], [], [(200, [0])]) := rfl
set_option maxRecDepth 100000 in
theorem ft_M_readLine_157 : aFetch kc_M_readLine 157 = some (157, .aload_n 0, 1, [], [], [], []) := rfl
set_option maxRecDepth 100000 in
theorem ft_M_readLine_158 : aFetch kc_M_readLine 158 = some (158, .getfield 407, 3, [10, 57, 4, 0], [], [], []) := rfl
set_option maxRecDepth 100000 in
theorem ft_M_readLine_161 : aFetch kc_M_readLine 161 = some (161, .ifCond .ne 39, 3, [], [], [], [(200, [0])]) := rfl
set_option maxRecDepth 100000 in
theorem ft_M_readLine_164 : aFetch kc_M_readLine 164 = some (164, .aload_n 0, 1, [], [], [], []) := rfl
set_option maxRecDepth 100000 in
theorem ft_M_readLine_165 : aFetch kc_M_readLine 165 = some (165, .iconst 1, 1, [], [.int 1], [], []) := rfl
set_option maxRecDepth 100000 in
theorem ft_M_readLine_166 : aFetch kc_M_readLine 166 = some (166, .putfield 407, 3, [10, 57, 4, 0], [], [], []) := rfl
set_option maxRecDepth 100000 in
theorem ft_M_readLine_169 : aFetch kc_M_readLine 169 = some (169, .aload_n 0, 1, [], [], [], []) := rfl
set_option maxRecDepth 100000 in
theorem ft_M_readLine_170 : aFetch kc_M_readLine 170 = some (170, .aload_n 0, 1, [], [], [], []) := rfl
set_option maxRecDepth 100000 in
theorem ft_M_readLine_171 : aFetch kc_M_readLine 171 = some (171, .ldc2_w 260, 3, [], [.long 1735750516], [], []) := rfl
set_option maxRecDepth 100000 in
theorem ft_M_readLine_174 : aFetch kc_M_readLine 174 = some (174, .iconst 0, 1, [], [.int 0], [], []) := rfl
set_option maxRecDepth 100000 in
theorem ft_M_readLine_175 : aFetch kc_M_readLine 175 = some (175, .bipush 100, 2, [], [.int 100], [], []) := rfl
set_option maxRecDepth 100000 in
theorem ft_M_readLine_177 : aFetch kc_M_readLine 177 = some (177, .invokevirtual 302, 3, [173, 4, 1, 1, 10, 5], [], [], []) := rfl
set_option maxRecDepth 100000 in
theorem ft_M_readLine_180 : aFetch kc_M_readLine 180 = some (180, .putfield 411, 3, [10, 49, 0, 0], [], [], []) := rfl
set_option maxRecDepth 100000 in
theorem ft_M_readLine_183 : aFetch kc_M_readLine 183 = some (183, .aload_n 0, 1, [], [], [], []) := rfl
set_option maxRecDepth 100000 in
theorem ft_M_readLine_184 : aFetch kc_M_readLine 184 = some (184, .aload_n 0, 1, [], [], [], []) := rfl
set_option maxRecDepth 100000 in
theorem ft_M_readLine_185 : aFetch kc_M_readLine 185 = some (185, .ldc2_w 238, 3, [], [.long 28518], [], []) := rfl
set_option maxRecDepth 100000 in
theorem ft_M_readLine_188 : aFetch kc_M_readLine 188 = some (188, .iconst 1, 1, [], [.int 1], [], []) := rfl
set_option maxRecDepth 100000 in
theorem ft_M_readLine_189 : aFetch kc_M_readLine 189 = some (189, .bipush 20, 2, [], [.int 20], [], []) := rfl
set_option maxRecDepth 100000 in
theorem ft_M_readLine_191 : aFetch kc_M_readLine 191 = some (191, .invokevirtual 302, 3, [173, 4, 1, 1, 10, 5], [], [], []) := rfl
set_option maxRecDepth 100000 in
theorem ft_M_readLine_194 : aFetch kc_M_readLine 194 = some (194, .putfield 414, 3, [10, 50, 0, 0], [], [], []) := rfl
set_option maxRecDepth 100000 in
theorem ft_M_readLine_197 : aFetch kc_M_readLine 197 = some (197, .goto 48, 3, [], [], [], [(245, [0])]) := rfl
set_option maxRecDepth 100000 in
theorem ft_M_readLine_200 : aFetch kc_M_readLine 200 = some (200, .aload_n 0, 1, [], [], [], []) := rfl
set_option maxRecDepth 100000 in
theorem ft_M_readLine_201 : aFetch kc_M_readLine 201 = some (201, .ldc2_w 262, 3, [], [.long 1685217655], [], []) := rfl
set_option maxRecDepth 100000 in
theorem ft_M_readLine_204 : aFetch kc_M_readLine 204 = some (204, .invokevirtual 284, 3, [166, 2, 1, 1, 10, 3], [], [], []) := rfl
set_option maxRecDepth 100000 in
theorem ft_M_readLine_207 : aFetch kc_M_readLine 207 = some (207, .ifCond .eq 33, 3, [], [], [], [(240, [0])]) := rfl
set_option maxRecDepth 100000 in
theorem ft_M_readLine_210 : aFetch kc_M_readLine 210 = some (210, .aload_n 0, 1, [], [], [], []) := rfl
set_option maxRecDepth 100000 in
theorem ft_M_readLine_211 : aFetch kc_M_readLine 211 = some (211, .getfield 417, 3, [10, 58, 4, 0], [], [], []) := rfl
set_option maxRecDepth 100000 in
theorem ft_M_readLine_214 : aFetch kc_M_readLine 214 = some (214, .ifCond .ne 26, 3, [], [], [], [(240, [0])]) := rfl
set_option maxRecDepth 100000 in
theorem ft_M_readLine_217 : aFetch kc_M_readLine 217 = some (217, .aload_n 0, 1, [], [], [], []) := rfl
set_option maxRecDepth 100000 in
theorem ft_M_readLine_218 : aFetch kc_M_readLine 218 = some (218, .iconst 1, 1, [], [.int 1], [], []) := rfl
set_option maxRecDepth 100000 in
theorem ft_M_readLine_219 : aFetch kc_M_readLine 219 = some (219, .putfield 417, 3, [10, 58, 4, 0], [], [], []) := rfl
set_option maxRecDepth 100000 in
theorem ft_M_readLine_222 : aFetch kc_M_readLine 222 = some (222, .aload_n 0, 1, [], [], [], []) := rfl
set_option maxRecDepth 100000 in
theorem ft_M_readLine_223 : aFetch kc_M_readLine 223 = some (223, .aload_n 0, 1, [], [], [], []) := rfl
set_option maxRecDepth 100000 in
theorem ft_M_readLine_224 : aFetch kc_M_readLine 224 = some (224, .ldc2_w 262, 3, [], [.long 1685217655], [], []) := rfl
set_option maxRecDepth 100000 in
theorem ft_M_readLine_227 : aFetch kc_M_readLine 227 = some (227, .iconst 0, 1, [], [.int 0], [], []) := rfl
set_option maxRecDepth 100000 in
theorem ft_M_readLine_228 : aFetch kc_M_readLine 228 = some (228, .sipush 999, 3, [], [.int 999], [], []) := rfl
set_option maxRecDepth 100000 in
theorem ft_M_readLine_231 : aFetch kc_M_readLine 231 = some (231, .invokevirtual 302, 3, [173, 4, 1, 1, 10, 5], [], [], []) := rfl
set_option maxRecDepth 100000 in
theorem ft_M_readLine_234 : aFetch kc_M_readLine 234 = some (234, .putfield 420, 3, [10, 51, 0, 0], [], [], []) := rfl
set_option maxRecDepth 100000 in
theorem ft_M_readLine_237 : aFetch kc_M_readLine 237 = some (237, .goto 8, 3, [], [], [], [(245, [0])]) := rfl
set_option maxRecDepth 100000 in
theorem ft_M_readLine_240 : aFetch kc_M_readLine 240 = some (240, .aload_n 0, 1, [], [], [], []) := rfl
set_option maxRecDepth 100000 in
theorem ft_M_readLine_241 : aFetch kc_M_readLine 241 = some (241, .iconst 2, 1, [], [.int 2], [], []) := rfl
set_option maxRecDepth 100000 in
theorem ft_M_readLine_242 : aFetch kc_M_readLine 242 = some (242, .invokevirtual 288, 3, [171, 2, 0, 1, 10, 2], [], [0], []) := rfl
set_option maxRecDepth 100000 in
theorem ft_M_readLine_245 : aFetch kc_M_readLine 245 = some (245, .aload_n 0, 1, [], [], [], []) := rfl
set_option maxRecDepth 100000 in
theorem ft_M_readLine_246 : aFetch kc_M_readLine 246 = some (246, .getfield 227, 3, [10, 2, 0, 0], [], [], []) := rfl
set_option maxRecDepth 100000 in
theorem ft_M_readLine_249 : aFetch kc_M_readLine 249 = some (249, .ifCond .ne 17, 3, [], [], [], [(266, [0])]) := rfl
set_option maxRecDepth 100000 in
theorem ft_M_readLine_252 : aFetch kc_M_readLine 252 = some (252, .aload_n 0, 1, [], [], [], []) := rfl
set_option maxRecDepth 100000 in
theorem ft_M_readLine_253 : aFetch kc_M_readLine 253 = some (253, .getfield 214, 3, [10, 6, 0, 0], [], [], []) := rfl
set_option maxRecDepth 100000 in
theorem ft_M_readLine_256 : aFetch kc_M_readLine 256 = some (256, .bipush 59, 2, [], [.int 59], [], []) := rfl
set_option maxRecDepth 100000 in
theorem ft_M_readLine_258 : aFetch kc_M_readLine 258 = some (258, .if_icmp .eq 8, 3, [], [], [], [(266, [0])]) := rfl
set_option maxRecDepth 100000 in
theorem ft_M_readLine_261 : aFetch kc_M_readLine 261 = some (261, .aload_n 0, 1, [], [], [], []) := rfl
set_option maxRecDepth 100000 in
theorem ft_M_readLine_262 : aFetch kc_M_readLine 262 = some (262, .iconst 2, 1, [], [.int 2], [], []) := rfl
set_option maxRecDepth 100000 in
theorem ft_M_readLine_263 : aFetch kc_M_readLine 263 = some (263, .invokevirtual 288, 3, [171, 2, 0, 1, 10, 2], [], [0], []) := rfl
set_option maxRecDepth 100000 in
theorem ft_M_readLine_266 : aFetch kc_M_readLine 266 = some (266, .aload_n 0, 1, [], [], [], []) := rfl
set_option maxRecDepth 100000 in
theorem ft_M_readLine_267 : aFetch kc_M_readLine 267 = some (267, .getfield 227, 3, [10, 2, 0, 0], [], [], []) := rfl
set_option maxRecDepth 100000 in
theorem ft_M_readLine_270 : aFetch kc_M_readLine 270 = some (270, .ifCond .ne 7, 3, [], [], [], [(277, [])]) := rfl
set_option maxRecDepth 100000 in
theorem ft_M_readLine_273 : aFetch kc_M_readLine 273 = some (273, .aload_n 0, 1, [], [], [], []) := rfl
set_option maxRecDepth 100000 in
theorem ft_M_readLine_274 : aFetch kc_M_readLine 274 = some (274, .invokevirtual 291, 3, [160, 1, 0, 1, 10, 3], [], [], []) := rfl
set_option maxRecDepth 100000 in
theorem ft_M_readLine_277 : aFetch kc_M_readLine 277 = some (277, .return_, 1, [], [], [], []) := rfl
set_option maxHeartbeats 4000000 in
set_option maxRecDepth 100000 in
theorem q_M_readLine (d : Nat)  (m : aMem) : f_M_readLine (d + 1)  m = ((f_M_isWord d 1919905638 m).bind fun q1 => (if q1.1 = 0 then (b_M_readLine_25 d q1.2) else (if 4 ≤ q1.2.1 120 46 then (b_M_readLine_25 d q1.2) else ((f_M_readRoof d q1.2).bind fun q2 => (b_M_readLine_245 d q2))))) := (show f_M_readLine (d + 1)  m = eV d kc_M_readLine (0, [(0, .ref 120)], []) m from rfl).trans ((g1V ft_M_readLine_0 (fr' := (1, [(0, .ref 120)], [.ref 120])) (m' := m) rfl).trans ((g1V ft_M_readLine_1 (fr' := (4, [(0, .ref 120)], [.long 1919905638, .ref 120])) (m' := m) rfl).trans ((cIV ft_M_readLine_4 (as := [.ref 120, .long 1919905638]) (pc' := 7) (ls' := [(0, .ref 120)]) (st' := []) rfl).trans (bnd2 fun q1 => ((b1V ft_M_readLine_7 (p := q1.1 = 0) (f1 := (25, [(0, .ref 120)], [])) (f2 := (10, [(0, .ref 120)], [])) rfl).trans (ite2 rfl ((g1V ft_M_readLine_10 (fr' := (11, [(0, .ref 120)], [.ref 120])) (m' := q1.2) rfl).trans ((g1V ft_M_readLine_11 (fr' := (14, [(0, .ref 120)], [.int (q1.2.1 120 46)])) (m' := q1.2) rfl).trans ((g1V ft_M_readLine_14 (fr' := (15, [(0, .ref 120)], [.int 4, .int (q1.2.1 120 46)])) (m' := q1.2) rfl).trans ((b1V ft_M_readLine_15 (p := 4 ≤ q1.2.1 120 46) (f1 := (25, [(0, .ref 120)], [])) (f2 := (18, [(0, .ref 120)], [])) rfl).trans (ite2 rfl ((g1V ft_M_readLine_18 (fr' := (19, [(0, .ref 120)], [.ref 120])) (m' := q1.2) rfl).trans ((cVV ft_M_readLine_19 (as := [.ref 120]) (pc' := 22) (ls' := [(0, .ref 120)]) (st' := []) rfl).trans (bnd2 fun q2 => (g1V ft_M_readLine_22 (fr' := (245, [(0, .ref 120)], [])) (m' := q2) rfl)))))))))))))))
set_option maxHeartbeats 4000000 in
set_option maxRecDepth 100000 in
theorem q_M_readLine_25 (d : Nat)  (m : aMem) : b_M_readLine_25 d  m = ((f_M_isWord d 1802073189 m).bind fun q1 => (if q1.1 = 0 then (b_M_readLine_51 d q1.2) else (if 8 ≤ q1.2.1 120 47 then (b_M_readLine_51 d q1.2) else ((f_M_readKite d q1.2).bind fun q2 => (b_M_readLine_245 d q2))))) := ((g1V ft_M_readLine_25 (fr' := (26, [(0, .ref 120)], [.ref 120])) (m' := m) rfl).trans ((g1V ft_M_readLine_26 (fr' := (29, [(0, .ref 120)], [.long 1802073189, .ref 120])) (m' := m) rfl).trans ((cIV ft_M_readLine_29 (as := [.ref 120, .long 1802073189]) (pc' := 32) (ls' := [(0, .ref 120)]) (st' := []) rfl).trans (bnd2 fun q1 => ((b1V ft_M_readLine_32 (p := q1.1 = 0) (f1 := (51, [(0, .ref 120)], [])) (f2 := (35, [(0, .ref 120)], [])) rfl).trans (ite2 rfl ((g1V ft_M_readLine_35 (fr' := (36, [(0, .ref 120)], [.ref 120])) (m' := q1.2) rfl).trans ((g1V ft_M_readLine_36 (fr' := (39, [(0, .ref 120)], [.int (q1.2.1 120 47)])) (m' := q1.2) rfl).trans ((g1V ft_M_readLine_39 (fr' := (41, [(0, .ref 120)], [.int 8, .int (q1.2.1 120 47)])) (m' := q1.2) rfl).trans ((b1V ft_M_readLine_41 (p := 8 ≤ q1.2.1 120 47) (f1 := (51, [(0, .ref 120)], [])) (f2 := (44, [(0, .ref 120)], [])) rfl).trans (ite2 rfl ((g1V ft_M_readLine_44 (fr' := (45, [(0, .ref 120)], [.ref 120])) (m' := q1.2) rfl).trans ((cVV ft_M_readLine_45 (as := [.ref 120]) (pc' := 48) (ls' := [(0, .ref 120)]) (st' := []) rfl).trans (bnd2 fun q2 => (g1V ft_M_readLine_48 (fr' := (245, [(0, .ref 120)], [])) (m' := q2) rfl)))))))))))))))
set_option maxHeartbeats 4000000 in
set_option maxRecDepth 100000 in
theorem q_M_readLine_51 (d : Nat)  (m : aMem) : b_M_readLine_51 d  m = ((f_M_isWord d 6451065 m).bind fun q1 => (if q1.1 = 0 then (b_M_readLine_76 d q1.2) else (if 4 ≤ q1.2.1 120 48 then (b_M_readLine_76 d q1.2) else ((f_M_readBoy d q1.2).bind fun q2 => (b_M_readLine_245 d q2))))) := ((g1V ft_M_readLine_51 (fr' := (52, [(0, .ref 120)], [.ref 120])) (m' := m) rfl).trans ((g1V ft_M_readLine_52 (fr' := (55, [(0, .ref 120)], [.long 6451065, .ref 120])) (m' := m) rfl).trans ((cIV ft_M_readLine_55 (as := [.ref 120, .long 6451065]) (pc' := 58) (ls' := [(0, .ref 120)]) (st' := []) rfl).trans (bnd2 fun q1 => ((b1V ft_M_readLine_58 (p := q1.1 = 0) (f1 := (76, [(0, .ref 120)], [])) (f2 := (61, [(0, .ref 120)], [])) rfl).trans (ite2 rfl ((g1V ft_M_readLine_61 (fr' := (62, [(0, .ref 120)], [.ref 120])) (m' := q1.2) rfl).trans ((g1V ft_M_readLine_62 (fr' := (65, [(0, .ref 120)], [.int (q1.2.1 120 48)])) (m' := q1.2) rfl).trans ((g1V ft_M_readLine_65 (fr' := (66, [(0, .ref 120)], [.int 4, .int (q1.2.1 120 48)])) (m' := q1.2) rfl).trans ((b1V ft_M_readLine_66 (p := 4 ≤ q1.2.1 120 48) (f1 := (76, [(0, .ref 120)], [])) (f2 := (69, [(0, .ref 120)], [])) rfl).trans (ite2 rfl ((g1V ft_M_readLine_69 (fr' := (70, [(0, .ref 120)], [.ref 120])) (m' := q1.2) rfl).trans ((cVV ft_M_readLine_70 (as := [.ref 120]) (pc' := 73) (ls' := [(0, .ref 120)]) (st' := []) rfl).trans (bnd2 fun q2 => (g1V ft_M_readLine_73 (fr' := (245, [(0, .ref 120)], [])) (m' := q2) rfl)))))))))))))))
set_option maxHeartbeats 4000000 in
set_option maxRecDepth 100000 in
theorem q_M_readLine_76 (d : Nat)  (m : aMem) : b_M_readLine_76 d  m = ((f_M_isWord d 448545973363 m).bind fun q1 => (if q1.1 = 0 then ((f_M_isWord d 2003398244 q1.2).bind fun q2 => (if q2.1 = 0 then (b_M_readLine_120 d q2.2) else (if ¬ q2.2.1 131 0 = 0 then (b_M_readLine_120 d q2.2) else ((f_M_formula d 0 q2.2).bind fun q3 => (b_M_readLine_245 d q3))))) else ((f_M_readHolds d q1.2).bind fun q4 => (b_M_readLine_245 d q4)))) := ((g1V ft_M_readLine_76 (fr' := (77, [(0, .ref 120)], [.ref 120])) (m' := m) rfl).trans ((g1V ft_M_readLine_77 (fr' := (80, [(0, .ref 120)], [.long 448545973363, .ref 120])) (m' := m) rfl).trans ((cIV ft_M_readLine_80 (as := [.ref 120, .long 448545973363]) (pc' := 83) (ls' := [(0, .ref 120)]) (st' := []) rfl).trans (bnd2 fun q1 => ((b1V ft_M_readLine_83 (p := q1.1 = 0) (f1 := (93, [(0, .ref 120)], [])) (f2 := (86, [(0, .ref 120)], [])) rfl).trans (ite2 ((g1V ft_M_readLine_93 (fr' := (94, [(0, .ref 120)], [.ref 120])) (m' := q1.2) rfl).trans ((g1V ft_M_readLine_94 (fr' := (97, [(0, .ref 120)], [.long 2003398244, .ref 120])) (m' := q1.2) rfl).trans ((cIV ft_M_readLine_97 (as := [.ref 120, .long 2003398244]) (pc' := 100) (ls' := [(0, .ref 120)]) (st' := []) rfl).trans (bnd2 fun q2 => ((b1V ft_M_readLine_100 (p := q2.1 = 0) (f1 := (120, [(0, .ref 120)], [])) (f2 := (103, [(0, .ref 120)], [])) rfl).trans (ite2 rfl ((g1V ft_M_readLine_103 (fr' := (104, [(0, .ref 120)], [.ref 120])) (m' := q2.2) rfl).trans ((g1V ft_M_readLine_104 (fr' := (107, [(0, .ref 120)], [.ref 131])) (m' := q2.2) rfl).trans ((g1V ft_M_readLine_107 (fr' := (108, [(0, .ref 120)], [.int 0, .ref 131])) (m' := q2.2) rfl).trans ((g1V ft_M_readLine_108 (fr' := (109, [(0, .ref 120)], [.int (q2.2.1 131 0)])) (m' := q2.2) rfl).trans ((b1V ft_M_readLine_109 (p := ¬ q2.2.1 131 0 = 0) (f1 := (120, [(0, .ref 120)], [])) (f2 := (112, [(0, .ref 120)], [])) rfl).trans (ite2 rfl ((g1V ft_M_readLine_112 (fr' := (113, [(0, .ref 120)], [.ref 120])) (m' := q2.2) rfl).trans ((g1V ft_M_readLine_113 (fr' := (114, [(0, .ref 120)], [.int 0, .ref 120])) (m' := q2.2) rfl).trans ((cVV ft_M_readLine_114 (as := [.ref 120, .int 0]) (pc' := 117) (ls' := [(0, .ref 120)]) (st' := []) rfl).trans (bnd2 fun q3 => (g1V ft_M_readLine_117 (fr' := (245, [(0, .ref 120)], [])) (m' := q3) rfl))))))))))))))))) ((g1V ft_M_readLine_86 (fr' := (87, [(0, .ref 120)], [.ref 120])) (m' := q1.2) rfl).trans ((cVV ft_M_readLine_87 (as := [.ref 120]) (pc' := 90) (ls' := [(0, .ref 120)]) (st' := []) rfl).trans (bnd2 fun q4 => (g1V ft_M_readLine_90 (fr' := (245, [(0, .ref 120)], [])) (m' := q4) rfl))))))))))
set_option maxHeartbeats 4000000 in
set_option maxRecDepth 100000 in
theorem q_M_readLine_120 (d : Nat)  (m : aMem) : b_M_readLine_120 d  m = ((f_M_isWord d 1818846836 m).bind fun q1 => (if q1.1 = 0 then (b_M_readLine_147 d q1.2) else (if ¬ q1.2.1 131 1 = 0 then (b_M_readLine_147 d q1.2) else ((f_M_formula d 1 q1.2).bind fun q2 => (b_M_readLine_245 d q2))))) := ((g1V ft_M_readLine_120 (fr' := (121, [(0, .ref 120)], [.ref 120])) (m' := m) rfl).trans ((g1V ft_M_readLine_121 (fr' := (124, [(0, .ref 120)], [.long 1818846836, .ref 120])) (m' := m) rfl).trans ((cIV ft_M_readLine_124 (as := [.ref 120, .long 1818846836]) (pc' := 127) (ls' := [(0, .ref 120)]) (st' := []) rfl).trans (bnd2 fun q1 => ((b1V ft_M_readLine_127 (p := q1.1 = 0) (f1 := (147, [(0, .ref 120)], [])) (f2 := (130, [(0, .ref 120)], [])) rfl).trans (ite2 rfl ((g1V ft_M_readLine_130 (fr' := (131, [(0, .ref 120)], [.ref 120])) (m' := q1.2) rfl).trans ((g1V ft_M_readLine_131 (fr' := (134, [(0, .ref 120)], [.ref 131])) (m' := q1.2) rfl).trans ((g1V ft_M_readLine_134 (fr' := (135, [(0, .ref 120)], [.int 1, .ref 131])) (m' := q1.2) rfl).trans ((g1V ft_M_readLine_135 (fr' := (136, [(0, .ref 120)], [.int (q1.2.1 131 1)])) (m' := q1.2) rfl).trans ((b1V ft_M_readLine_136 (p := ¬ q1.2.1 131 1 = 0) (f1 := (147, [(0, .ref 120)], [])) (f2 := (139, [(0, .ref 120)], [])) rfl).trans (ite2 rfl ((g1V ft_M_readLine_139 (fr' := (140, [(0, .ref 120)], [.ref 120])) (m' := q1.2) rfl).trans ((g1V ft_M_readLine_140 (fr' := (141, [(0, .ref 120)], [.int 1, .ref 120])) (m' := q1.2) rfl).trans ((cVV ft_M_readLine_141 (as := [.ref 120, .int 1]) (pc' := 144) (ls' := [(0, .ref 120)]) (st' := []) rfl).trans (bnd2 fun q2 => (g1V ft_M_readLine_144 (fr' := (245, [(0, .ref 120)], [])) (m' := q2) rfl)))))))))))))))))
set_option maxHeartbeats 4000000 in
set_option maxRecDepth 100000 in
theorem q_M_readLine_147 (d : Nat)  (m : aMem) : b_M_readLine_147 d  m = ((f_M_isWord d 1735750516 m).bind fun q1 => (if q1.1 = 0 then (b_M_readLine_200 d q1.2) else (if ¬ q1.2.1 120 57 = 0 then (b_M_readLine_200 d q1.2) else ((f_M_told d 1735750516 0 100 (aUI q1.2 120 57 1)).bind fun q2 => ((f_M_told d 28518 1 20 (aUI q2.2 120 49 q2.1)).bind fun q3 => (b_M_readLine_245 d (aUI q3.2 120 50 q3.1))))))) := ((g1V ft_M_readLine_147 (fr' := (148, [(0, .ref 120)], [.ref 120])) (m' := m) rfl).trans ((g1V ft_M_readLine_148 (fr' := (151, [(0, .ref 120)], [.long 1735750516, .ref 120])) (m' := m) rfl).trans ((cIV ft_M_readLine_151 (as := [.ref 120, .long 1735750516]) (pc' := 154) (ls' := [(0, .ref 120)]) (st' := []) rfl).trans (bnd2 fun q1 => ((b1V ft_M_readLine_154 (p := q1.1 = 0) (f1 := (200, [(0, .ref 120)], [])) (f2 := (157, [(0, .ref 120)], [])) rfl).trans (ite2 rfl ((g1V ft_M_readLine_157 (fr' := (158, [(0, .ref 120)], [.ref 120])) (m' := q1.2) rfl).trans ((g1V ft_M_readLine_158 (fr' := (161, [(0, .ref 120)], [.int (q1.2.1 120 57)])) (m' := q1.2) rfl).trans ((b1V ft_M_readLine_161 (p := ¬ q1.2.1 120 57 = 0) (f1 := (200, [(0, .ref 120)], [])) (f2 := (164, [(0, .ref 120)], [])) rfl).trans (ite2 rfl ((g1V ft_M_readLine_164 (fr' := (165, [(0, .ref 120)], [.ref 120])) (m' := q1.2) rfl).trans ((g1V ft_M_readLine_165 (fr' := (166, [(0, .ref 120)], [.int 1, .ref 120])) (m' := q1.2) rfl).trans ((g1V ft_M_readLine_166 (fr' := (169, [(0, .ref 120)], [])) (m' := (aUI q1.2 120 57 1)) rfl).trans ((g1V ft_M_readLine_169 (fr' := (170, [(0, .ref 120)], [.ref 120])) (m' := (aUI q1.2 120 57 1)) rfl).trans ((g1V ft_M_readLine_170 (fr' := (171, [(0, .ref 120)], [.ref 120, .ref 120])) (m' := (aUI q1.2 120 57 1)) rfl).trans ((g1V ft_M_readLine_171 (fr' := (174, [(0, .ref 120)], [.long 1735750516, .ref 120, .ref 120])) (m' := (aUI q1.2 120 57 1)) rfl).trans ((g1V ft_M_readLine_174 (fr' := (175, [(0, .ref 120)], [.int 0, .long 1735750516, .ref 120, .ref 120])) (m' := (aUI q1.2 120 57 1)) rfl).trans ((g1V ft_M_readLine_175 (fr' := (177, [(0, .ref 120)], [.int 100, .int 0, .long 1735750516, .ref 120, .ref 120])) (m' := (aUI q1.2 120 57 1)) rfl).trans ((cIV ft_M_readLine_177 (as := [.ref 120, .long 1735750516, .int 0, .int 100]) (pc' := 180) (ls' := [(0, .ref 120)]) (st' := [.ref 120]) rfl).trans (bnd2 fun q2 => ((g1V ft_M_readLine_180 (fr' := (183, [(0, .ref 120)], [])) (m' := (aUI q2.2 120 49 q2.1)) rfl).trans ((g1V ft_M_readLine_183 (fr' := (184, [(0, .ref 120)], [.ref 120])) (m' := (aUI q2.2 120 49 q2.1)) rfl).trans ((g1V ft_M_readLine_184 (fr' := (185, [(0, .ref 120)], [.ref 120, .ref 120])) (m' := (aUI q2.2 120 49 q2.1)) rfl).trans ((g1V ft_M_readLine_185 (fr' := (188, [(0, .ref 120)], [.long 28518, .ref 120, .ref 120])) (m' := (aUI q2.2 120 49 q2.1)) rfl).trans ((g1V ft_M_readLine_188 (fr' := (189, [(0, .ref 120)], [.int 1, .long 28518, .ref 120, .ref 120])) (m' := (aUI q2.2 120 49 q2.1)) rfl).trans ((g1V ft_M_readLine_189 (fr' := (191, [(0, .ref 120)], [.int 20, .int 1, .long 28518, .ref 120, .ref 120])) (m' := (aUI q2.2 120 49 q2.1)) rfl).trans ((cIV ft_M_readLine_191 (as := [.ref 120, .long 28518, .int 1, .int 20]) (pc' := 194) (ls' := [(0, .ref 120)]) (st' := [.ref 120]) rfl).trans (bnd2 fun q3 => ((g1V ft_M_readLine_194 (fr' := (197, [(0, .ref 120)], [])) (m' := (aUI q3.2 120 50 q3.1)) rfl).trans (g1V ft_M_readLine_197 (fr' := (245, [(0, .ref 120)], [])) (m' := (aUI q3.2 120 50 q3.1)) rfl))))))))))))))))))))))))))))))
set_option maxHeartbeats 4000000 in
set_option maxRecDepth 100000 in
theorem q_M_readLine_200 (d : Nat)  (m : aMem) : b_M_readLine_200 d  m = ((f_M_isWord d 1685217655 m).bind fun q1 => (if q1.1 = 0 then (b_M_readLine_240 d q1.2) else (if ¬ q1.2.1 120 58 = 0 then (b_M_readLine_240 d q1.2) else ((f_M_told d 1685217655 0 999 (aUI q1.2 120 58 1)).bind fun q2 => (b_M_readLine_245 d (aUI q2.2 120 51 q2.1)))))) := ((g1V ft_M_readLine_200 (fr' := (201, [(0, .ref 120)], [.ref 120])) (m' := m) rfl).trans ((g1V ft_M_readLine_201 (fr' := (204, [(0, .ref 120)], [.long 1685217655, .ref 120])) (m' := m) rfl).trans ((cIV ft_M_readLine_204 (as := [.ref 120, .long 1685217655]) (pc' := 207) (ls' := [(0, .ref 120)]) (st' := []) rfl).trans (bnd2 fun q1 => ((b1V ft_M_readLine_207 (p := q1.1 = 0) (f1 := (240, [(0, .ref 120)], [])) (f2 := (210, [(0, .ref 120)], [])) rfl).trans (ite2 rfl ((g1V ft_M_readLine_210 (fr' := (211, [(0, .ref 120)], [.ref 120])) (m' := q1.2) rfl).trans ((g1V ft_M_readLine_211 (fr' := (214, [(0, .ref 120)], [.int (q1.2.1 120 58)])) (m' := q1.2) rfl).trans ((b1V ft_M_readLine_214 (p := ¬ q1.2.1 120 58 = 0) (f1 := (240, [(0, .ref 120)], [])) (f2 := (217, [(0, .ref 120)], [])) rfl).trans (ite2 rfl ((g1V ft_M_readLine_217 (fr' := (218, [(0, .ref 120)], [.ref 120])) (m' := q1.2) rfl).trans ((g1V ft_M_readLine_218 (fr' := (219, [(0, .ref 120)], [.int 1, .ref 120])) (m' := q1.2) rfl).trans ((g1V ft_M_readLine_219 (fr' := (222, [(0, .ref 120)], [])) (m' := (aUI q1.2 120 58 1)) rfl).trans ((g1V ft_M_readLine_222 (fr' := (223, [(0, .ref 120)], [.ref 120])) (m' := (aUI q1.2 120 58 1)) rfl).trans ((g1V ft_M_readLine_223 (fr' := (224, [(0, .ref 120)], [.ref 120, .ref 120])) (m' := (aUI q1.2 120 58 1)) rfl).trans ((g1V ft_M_readLine_224 (fr' := (227, [(0, .ref 120)], [.long 1685217655, .ref 120, .ref 120])) (m' := (aUI q1.2 120 58 1)) rfl).trans ((g1V ft_M_readLine_227 (fr' := (228, [(0, .ref 120)], [.int 0, .long 1685217655, .ref 120, .ref 120])) (m' := (aUI q1.2 120 58 1)) rfl).trans ((g1V ft_M_readLine_228 (fr' := (231, [(0, .ref 120)], [.int 999, .int 0, .long 1685217655, .ref 120, .ref 120])) (m' := (aUI q1.2 120 58 1)) rfl).trans ((cIV ft_M_readLine_231 (as := [.ref 120, .long 1685217655, .int 0, .int 999]) (pc' := 234) (ls' := [(0, .ref 120)]) (st' := [.ref 120]) rfl).trans (bnd2 fun q2 => ((g1V ft_M_readLine_234 (fr' := (237, [(0, .ref 120)], [])) (m' := (aUI q2.2 120 51 q2.1)) rfl).trans (g1V ft_M_readLine_237 (fr' := (245, [(0, .ref 120)], [])) (m' := (aUI q2.2 120 51 q2.1)) rfl))))))))))))))))))))))
set_option maxHeartbeats 4000000 in
set_option maxRecDepth 100000 in
theorem q_M_readLine_240 (d : Nat)  (m : aMem) : b_M_readLine_240 d  m = ((f_M_wrong d 2 m).bind fun q1 => (b_M_readLine_245 d q1)) := ((g1V ft_M_readLine_240 (fr' := (241, [(0, .ref 120)], [.ref 120])) (m' := m) rfl).trans ((g1V ft_M_readLine_241 (fr' := (242, [(0, .ref 120)], [.int 2, .ref 120])) (m' := m) rfl).trans (cVV ft_M_readLine_242 (as := [.ref 120, .int 2]) (pc' := 245) (ls' := [(0, .ref 120)]) (st' := []) rfl)))
set_option maxHeartbeats 4000000 in
set_option maxRecDepth 100000 in
theorem q_M_readLine_245 (d : Nat)  (m : aMem) : b_M_readLine_245 d  m = (if ¬ m.1 120 2 = 0 then (b_M_readLine_266 d m) else (if m.1 120 6 = 59 then (b_M_readLine_266 d m) else ((f_M_wrong d 2 m).bind fun q1 => (b_M_readLine_266 d q1)))) := ((g1V ft_M_readLine_245 (fr' := (246, [(0, .ref 120)], [.ref 120])) (m' := m) rfl).trans ((g1V ft_M_readLine_246 (fr' := (249, [(0, .ref 120)], [.int (m.1 120 2)])) (m' := m) rfl).trans ((b1V ft_M_readLine_249 (p := ¬ m.1 120 2 = 0) (f1 := (266, [(0, .ref 120)], [])) (f2 := (252, [(0, .ref 120)], [])) rfl).trans (ite2 rfl ((g1V ft_M_readLine_252 (fr' := (253, [(0, .ref 120)], [.ref 120])) (m' := m) rfl).trans ((g1V ft_M_readLine_253 (fr' := (256, [(0, .ref 120)], [.int (m.1 120 6)])) (m' := m) rfl).trans ((g1V ft_M_readLine_256 (fr' := (258, [(0, .ref 120)], [.int 59, .int (m.1 120 6)])) (m' := m) rfl).trans ((b1V ft_M_readLine_258 (p := m.1 120 6 = 59) (f1 := (266, [(0, .ref 120)], [])) (f2 := (261, [(0, .ref 120)], [])) rfl).trans (ite2 rfl ((g1V ft_M_readLine_261 (fr' := (262, [(0, .ref 120)], [.ref 120])) (m' := m) rfl).trans ((g1V ft_M_readLine_262 (fr' := (263, [(0, .ref 120)], [.int 2, .ref 120])) (m' := m) rfl).trans (cVV ft_M_readLine_263 (as := [.ref 120, .int 2]) (pc' := 266) (ls' := [(0, .ref 120)]) (st' := []) rfl))))))))))))
set_option maxHeartbeats 4000000 in
set_option maxRecDepth 100000 in
theorem q_M_readLine_266 (d : Nat)  (m : aMem) : b_M_readLine_266 d  m = (if ¬ m.1 120 2 = 0 then (some m) else ((f_M_token d m).bind fun q1 => (some q1))) := ((g1V ft_M_readLine_266 (fr' := (267, [(0, .ref 120)], [.ref 120])) (m' := m) rfl).trans ((g1V ft_M_readLine_267 (fr' := (270, [(0, .ref 120)], [.int (m.1 120 2)])) (m' := m) rfl).trans ((b1V ft_M_readLine_270 (p := ¬ m.1 120 2 = 0) (f1 := (277, [(0, .ref 120)], [])) (f2 := (273, [(0, .ref 120)], [])) rfl).trans (ite2 (r1V ft_M_readLine_277 rfl) ((g1V ft_M_readLine_273 (fr' := (274, [(0, .ref 120)], [.ref 120])) (m' := m) rfl).trans ((cVV ft_M_readLine_274 (as := [.ref 120]) (pc' := 277) (ls' := [(0, .ref 120)]) (st' := []) rfl).trans (bnd2 fun q1 => (r1V ft_M_readLine_277 rfl))))))))
theorem ft_M_isWord_0 : aFetch kc_M_isWord 0 = some (0, .aload_n 0, 1, [], [], [], []) := rfl
theorem ft_M_isWord_1 : aFetch kc_M_isWord 1 = some (1, .getfield 214, 3, [10, 6, 0, 0], [], [], []) := rfl
theorem ft_M_isWord_4 : aFetch kc_M_isWord 4 = some (4, .iconst 1, 1, [], [.int 1], [], []) := rfl
theorem ft_M_isWord_5 : aFetch kc_M_isWord 5 = some (5, .if_icmp .ne 16, 3, [], [], [], [(21, [])]) := rfl
theorem ft_M_isWord_8 : aFetch kc_M_isWord 8 = some (8, .aload_n 0, 1, [], [], [], []) := rfl
theorem ft_M_isWord_9 : aFetch kc_M_isWord 9 = some (9, .getfield 207, 3, [10, 9, 1, 0], [], [], []) := rfl
theorem ft_M_isWord_12 : aFetch kc_M_isWord 12 = some (12, .lload_n 1, 1, [], [], [], []) := rfl
theorem ft_M_isWord_13 : aFetch kc_M_isWord 13 = some (13, .lcmp, 1, [], [], [], []) := rfl
theorem ft_M_isWord_14 : aFetch kc_M_isWord 14 = some (14, .ifCond .ne 7, 3, [], [], [], [(21, [])]) := rfl
theorem ft_M_isWord_17 : aFetch kc_M_isWord 17 = some (17, .iconst 1, 1, [], [.int 1], [], []) := rfl
theorem ft_M_isWord_18 : aFetch kc_M_isWord 18 = some (18, .goto 4, 3, [], [], [], [(22, [])]) := rfl
theorem ft_M_isWord_21 : aFetch kc_M_isWord 21 = some (21, .iconst 0, 1, [], [.int 0], [], []) := rfl
theorem ft_M_isWord_22 : aFetch kc_M_isWord 22 = some (22, .ireturn, 1, [1], [], [], []) := rfl
set_option maxHeartbeats 4000000 in
set_option maxRecDepth 100000 in
theorem q_M_isWord (d : Nat) (w1 : Int64) (m : aMem) : f_M_isWord (d + 1) w1 m = (if ¬ m.1 120 6 = 1 then (some (0, m)) else (if ¬ lg_cmp (m.2.1 120 9) w1 = 0 then (some (0, m)) else (some (1, m)))) := (show f_M_isWord (d + 1) w1 m = eI d kc_M_isWord (0, [(0, .ref 120), (1, .long w1)], []) m from rfl).trans ((g1I ft_M_isWord_0 (fr' := (1, [(0, .ref 120), (1, .long w1)], [.ref 120])) (m' := m) rfl).trans ((g1I ft_M_isWord_1 (fr' := (4, [(0, .ref 120), (1, .long w1)], [.int (m.1 120 6)])) (m' := m) rfl).trans ((g1I ft_M_isWord_4 (fr' := (5, [(0, .ref 120), (1, .long w1)], [.int 1, .int (m.1 120 6)])) (m' := m) rfl).trans ((b1I ft_M_isWord_5 (p := ¬ m.1 120 6 = 1) (f1 := (21, [(0, .ref 120), (1, .long w1)], [])) (f2 := (8, [(0, .ref 120), (1, .long w1)], [])) rfl).trans (ite2 ((g1I ft_M_isWord_21 (fr' := (22, [(0, .ref 120), (1, .long w1)], [.int 0])) (m' := m) rfl).trans (r1I ft_M_isWord_22 rfl)) ((g1I ft_M_isWord_8 (fr' := (9, [(0, .ref 120), (1, .long w1)], [.ref 120])) (m' := m) rfl).trans ((g1I ft_M_isWord_9 (fr' := (12, [(0, .ref 120), (1, .long w1)], [.long (m.2.1 120 9)])) (m' := m) rfl).trans ((g1I ft_M_isWord_12 (fr' := (13, [(0, .ref 120), (1, .long w1)], [.long w1, .long (m.2.1 120 9)])) (m' := m) rfl).trans ((g1I ft_M_isWord_13 (fr' := (14, [(0, .ref 120), (1, .long w1)], [.int (lg_cmp (m.2.1 120 9) w1)])) (m' := m) rfl).trans ((b1I ft_M_isWord_14 (p := ¬ lg_cmp (m.2.1 120 9) w1 = 0) (f1 := (21, [(0, .ref 120), (1, .long w1)], [])) (f2 := (17, [(0, .ref 120), (1, .long w1)], [])) rfl).trans (ite2 ((g1I ft_M_isWord_21 (fr' := (22, [(0, .ref 120), (1, .long w1)], [.int 0])) (m' := m) rfl).trans (r1I ft_M_isWord_22 rfl)) ((g1I ft_M_isWord_17 (fr' := (18, [(0, .ref 120), (1, .long w1)], [.int 1])) (m' := m) rfl).trans ((g1I ft_M_isWord_18 (fr' := (22, [(0, .ref 120), (1, .long w1)], [.int 1])) (m' := m) rfl).trans (r1I ft_M_isWord_22 rfl))))))))))))))
set_option maxRecDepth 100000 in
theorem ft_M_readRoof_0 : aFetch kc_M_readRoof 0 = some (0, .aload_n 0, 1, [], [], [], []) := rfl
set_option maxRecDepth 100000 in
theorem ft_M_readRoof_1 : aFetch kc_M_readRoof 1 = some (1, .iconst 0, 1, [], [.int 0], [], []) := rfl
set_option maxRecDepth 100000 in
theorem ft_M_readRoof_2 : aFetch kc_M_readRoof 2 = some (2, .aload_n 0, 1, [], [], [], []) := rfl
set_option maxRecDepth 100000 in
theorem ft_M_readRoof_3 : aFetch kc_M_readRoof 3 = some (3, .getfield 373, 3, [10, 46, 0, 0], [], [], []) := rfl
set_option maxRecDepth 100000 in
theorem ft_M_readRoof_6 : aFetch kc_M_readRoof 6 = some (6, .invokevirtual 376, 3, [168, 3, 0, 1, 10, 3], [], [], []) := rfl
set_option maxRecDepth 100000 in
theorem ft_M_readRoof_9 : aFetch kc_M_readRoof 9 = some (9, .aload_n 0, 1, [], [], [], []) := rfl
set_option maxRecDepth 100000 in
theorem ft_M_readRoof_10 : aFetch kc_M_readRoof 10 = some (10, .getfield 55, 3, [10, 28, 3, 1], [], [], []) := rfl
set_option maxRecDepth 100000 in
theorem ft_M_readRoof_13 : aFetch kc_M_readRoof 13 = some (13, .aload_n 0, 1, [], [], [], []) := rfl
set_option maxRecDepth 100000 in
theorem ft_M_readRoof_14 : aFetch kc_M_readRoof 14 = some (14, .getfield 373, 3, [10, 46, 0, 0], [], [], []) := rfl
set_option maxRecDepth 100000 in
theorem ft_M_readRoof_17 : aFetch kc_M_readRoof 17 = some (17, .aload_n 0, 1, [], [], [], []) := rfl
set_option maxRecDepth 100000 in
theorem ft_M_readRoof_18 : aFetch kc_M_readRoof 18 = some (18, .ldc2_w 232, 3, [], [.long 24948], [], []) := rfl
set_option maxRecDepth 100000 in
theorem ft_M_readRoof_21 : aFetch kc_M_readRoof 21 = some (21, .iconst 0, 1, [], [.int 0], [], []) := rfl
set_option maxRecDepth 100000 in
theorem ft_M_readRoof_22 : aFetch kc_M_readRoof 22 = some (22, .bipush 19, 2, [], [.int 19], [], []) := rfl
set_option maxRecDepth 100000 in
theorem ft_M_readRoof_24 : aFetch kc_M_readRoof 24 = some (24, .invokevirtual 302, 3, [173, 4, 1, 1, 10, 5], [], [], []) := rfl
set_option maxRecDepth 100000 in
theorem ft_M_readRoof_27 : aFetch kc_M_readRoof 27 = some (27, .iastore, 1, [], [], [], []) := rfl
set_option maxRecDepth 100000 in
theorem ft_M_readRoof_28 : aFetch kc_M_readRoof 28 = some (28, .aload_n 0, 1, [], [], [], []) := rfl
set_option maxRecDepth 100000 in
theorem ft_M_readRoof_29 : aFetch kc_M_readRoof 29 = some (29, .getfield 58, 3, [10, 29, 3, 1], [], [], []) := rfl
set_option maxRecDepth 100000 in
theorem ft_M_readRoof_32 : aFetch kc_M_readRoof 32 = some (32, .aload_n 0, 1, [], [], [], []) := rfl
set_option maxRecDepth 100000 in
theorem ft_M_readRoof_33 : aFetch kc_M_readRoof 33 = some (33, .getfield 373, 3, [10, 46, 0, 0], [], [], []) := rfl
set_option maxRecDepth 100000 in
theorem ft_M_readRoof_36 : aFetch kc_M_readRoof 36 = some (36, .aload_n 0, 1, [], [], [], []) := rfl
set_option maxRecDepth 100000 in
theorem ft_M_readRoof_37 : aFetch kc_M_readRoof 37 = some (37, .ldc2_w 234, 3, [], [.long 131277443786868], [], []) := rfl
set_option maxRecDepth 100000 in
theorem ft_M_readRoof_40 : aFetch kc_M_readRoof 40 = some (40, .iconst 0, 1, [], [.int 0], [], []) := rfl
set_option maxRecDepth 100000 in
theorem ft_M_readRoof_41 : aFetch kc_M_readRoof 41 = some (41, .sipush 999, 3, [], [.int 999], [], []) := rfl
set_option maxRecDepth 100000 in
theorem ft_M_readRoof_44 : aFetch kc_M_readRoof 44 = some (44, .invokevirtual 302, 3, [173, 4, 1, 1, 10, 5], [], [], []) := rfl
set_option maxRecDepth 100000 in
theorem ft_M_readRoof_47 : aFetch kc_M_readRoof 47 = some (47, .iastore, 1, [], [], [], []) := rfl
set_option maxRecDepth 100000 in
theorem ft_M_readRoof_48 : aFetch kc_M_readRoof 48 = some (48, .aload_n 0, 1, [], [], [], []) := rfl
set_option maxRecDepth 100000 in
theorem ft_M_readRoof_49 : aFetch kc_M_readRoof 49 = some (49, .getfield 227, 3, [10, 2, 0, 0], [], [], []) := rfl
set_option maxRecDepth 100000 in
theorem ft_M_readRoof_52 : aFetch kc_M_readRoof 52 = some (52, .ifCond .ne 13, 3, [], [], [], [(65, [])]) := rfl
set_option maxRecDepth 100000 in
theorem ft_M_readRoof_55 : aFetch kc_M_readRoof 55 = some (55, .aload_n 0, 1, [], [], [], []) := rfl
set_option maxRecDepth 100000 in
theorem ft_M_readRoof_56 : aFetch kc_M_readRoof 56 = some (56, .dup, 1, [], [], [], []) := rfl
set_option maxRecDepth 100000 in
theorem ft_M_readRoof_57 : aFetch kc_M_readRoof 57 = some (57, .getfield 373, 3, [10, 46, 0, 0], [], [], []) := rfl
set_option maxRecDepth 100000 in
theorem ft_M_readRoof_60 : aFetch kc_M_readRoof 60 = some (60, .iconst 1, 1, [], [.int 1], [], []) := rfl
set_option maxRecDepth 100000 in
theorem ft_M_readRoof_61 : aFetch kc_M_readRoof 61 = some (61, .iadd, 1, [], [], [], []) := rfl
set_option maxRecDepth 100000 in
theorem ft_M_readRoof_62 : aFetch kc_M_readRoof 62 = some (62, .putfield 373, 3, [10, 46, 0, 0], [], [], []) := rfl
set_option maxRecDepth 100000 in
theorem ft_M_readRoof_65 : aFetch kc_M_readRoof 65 = some (65, .return_, 1, [], [], [], []) := rfl
set_option maxHeartbeats 4000000 in
set_option maxRecDepth 100000 in
theorem q_M_readRoof (d : Nat)  (m : aMem) : f_M_readRoof (d + 1)  m = ((f_M_newName d 0 (m.1 120 46) m).bind fun q1 => ((f_M_told d 24948 0 19 q1).bind fun q2 => (grd (inb (q1.1 120 46) 4) ((f_M_told d 131277443786868 0 999 (aUI q2.2 134 ((q1.1 120 46 : Int32).toNatClampNeg) q2.1)).bind fun q3 => (grd (inb (q2.2.1 120 46) 4) (if ¬ q3.2.1 120 2 = 0 then (some (aUI q3.2 135 ((q2.2.1 120 46 : Int32).toNatClampNeg) q3.1)) else (some (aUI (aUI q3.2 135 ((q2.2.1 120 46 : Int32).toNatClampNeg) q3.1) 120 46 ((q3.2.1 120 46) + 1))))))))) := (show f_M_readRoof (d + 1)  m = eV d kc_M_readRoof (0, [(0, .ref 120)], []) m from rfl).trans ((g1V ft_M_readRoof_0 (fr' := (1, [(0, .ref 120)], [.ref 120])) (m' := m) rfl).trans ((g1V ft_M_readRoof_1 (fr' := (2, [(0, .ref 120)], [.int 0, .ref 120])) (m' := m) rfl).trans ((g1V ft_M_readRoof_2 (fr' := (3, [(0, .ref 120)], [.ref 120, .int 0, .ref 120])) (m' := m) rfl).trans ((g1V ft_M_readRoof_3 (fr' := (6, [(0, .ref 120)], [.int (m.1 120 46), .int 0, .ref 120])) (m' := m) rfl).trans ((cVV ft_M_readRoof_6 (as := [.ref 120, .int 0, .int (m.1 120 46)]) (pc' := 9) (ls' := [(0, .ref 120)]) (st' := []) rfl).trans (bnd2 fun q1 => ((g1V ft_M_readRoof_9 (fr' := (10, [(0, .ref 120)], [.ref 120])) (m' := q1) rfl).trans ((g1V ft_M_readRoof_10 (fr' := (13, [(0, .ref 120)], [.ref 134])) (m' := q1) rfl).trans ((g1V ft_M_readRoof_13 (fr' := (14, [(0, .ref 120)], [.ref 120, .ref 134])) (m' := q1) rfl).trans ((g1V ft_M_readRoof_14 (fr' := (17, [(0, .ref 120)], [.int (q1.1 120 46), .ref 134])) (m' := q1) rfl).trans ((g1V ft_M_readRoof_17 (fr' := (18, [(0, .ref 120)], [.ref 120, .int (q1.1 120 46), .ref 134])) (m' := q1) rfl).trans ((g1V ft_M_readRoof_18 (fr' := (21, [(0, .ref 120)], [.long 24948, .ref 120, .int (q1.1 120 46), .ref 134])) (m' := q1) rfl).trans ((g1V ft_M_readRoof_21 (fr' := (22, [(0, .ref 120)], [.int 0, .long 24948, .ref 120, .int (q1.1 120 46), .ref 134])) (m' := q1) rfl).trans ((g1V ft_M_readRoof_22 (fr' := (24, [(0, .ref 120)], [.int 19, .int 0, .long 24948, .ref 120, .int (q1.1 120 46), .ref 134])) (m' := q1) rfl).trans ((cIV ft_M_readRoof_24 (as := [.ref 120, .long 24948, .int 0, .int 19]) (pc' := 27) (ls' := [(0, .ref 120)]) (st' := [.int (q1.1 120 46), .ref 134]) rfl).trans (bnd2 fun q2 => ((g1Vg ft_M_readRoof_27 (g := inb (q1.1 120 46) 4) (fr' := (28, [(0, .ref 120)], [])) (m' := (aUI q2.2 134 ((q1.1 120 46 : Int32).toNatClampNeg) q2.1)) (st_is rfl)).trans (grd2 ((g1V ft_M_readRoof_28 (fr' := (29, [(0, .ref 120)], [.ref 120])) (m' := (aUI q2.2 134 ((q1.1 120 46 : Int32).toNatClampNeg) q2.1)) rfl).trans ((g1V ft_M_readRoof_29 (fr' := (32, [(0, .ref 120)], [.ref 135])) (m' := (aUI q2.2 134 ((q1.1 120 46 : Int32).toNatClampNeg) q2.1)) rfl).trans ((g1V ft_M_readRoof_32 (fr' := (33, [(0, .ref 120)], [.ref 120, .ref 135])) (m' := (aUI q2.2 134 ((q1.1 120 46 : Int32).toNatClampNeg) q2.1)) rfl).trans ((g1V ft_M_readRoof_33 (fr' := (36, [(0, .ref 120)], [.int (q2.2.1 120 46), .ref 135])) (m' := (aUI q2.2 134 ((q1.1 120 46 : Int32).toNatClampNeg) q2.1)) rfl).trans ((g1V ft_M_readRoof_36 (fr' := (37, [(0, .ref 120)], [.ref 120, .int (q2.2.1 120 46), .ref 135])) (m' := (aUI q2.2 134 ((q1.1 120 46 : Int32).toNatClampNeg) q2.1)) rfl).trans ((g1V ft_M_readRoof_37 (fr' := (40, [(0, .ref 120)], [.long 131277443786868, .ref 120, .int (q2.2.1 120 46), .ref 135])) (m' := (aUI q2.2 134 ((q1.1 120 46 : Int32).toNatClampNeg) q2.1)) rfl).trans ((g1V ft_M_readRoof_40 (fr' := (41, [(0, .ref 120)], [.int 0, .long 131277443786868, .ref 120, .int (q2.2.1 120 46), .ref 135])) (m' := (aUI q2.2 134 ((q1.1 120 46 : Int32).toNatClampNeg) q2.1)) rfl).trans ((g1V ft_M_readRoof_41 (fr' := (44, [(0, .ref 120)], [.int 999, .int 0, .long 131277443786868, .ref 120, .int (q2.2.1 120 46), .ref 135])) (m' := (aUI q2.2 134 ((q1.1 120 46 : Int32).toNatClampNeg) q2.1)) rfl).trans ((cIV ft_M_readRoof_44 (as := [.ref 120, .long 131277443786868, .int 0, .int 999]) (pc' := 47) (ls' := [(0, .ref 120)]) (st' := [.int (q2.2.1 120 46), .ref 135]) rfl).trans (bnd2 fun q3 => ((g1Vg ft_M_readRoof_47 (g := inb (q2.2.1 120 46) 4) (fr' := (48, [(0, .ref 120)], [])) (m' := (aUI q3.2 135 ((q2.2.1 120 46 : Int32).toNatClampNeg) q3.1)) (st_is rfl)).trans (grd2 ((g1V ft_M_readRoof_48 (fr' := (49, [(0, .ref 120)], [.ref 120])) (m' := (aUI q3.2 135 ((q2.2.1 120 46 : Int32).toNatClampNeg) q3.1)) rfl).trans ((g1V ft_M_readRoof_49 (fr' := (52, [(0, .ref 120)], [.int (q3.2.1 120 2)])) (m' := (aUI q3.2 135 ((q2.2.1 120 46 : Int32).toNatClampNeg) q3.1)) rfl).trans ((b1V ft_M_readRoof_52 (p := ¬ q3.2.1 120 2 = 0) (f1 := (65, [(0, .ref 120)], [])) (f2 := (55, [(0, .ref 120)], [])) rfl).trans (ite2 (r1V ft_M_readRoof_65 rfl) ((g1V ft_M_readRoof_55 (fr' := (56, [(0, .ref 120)], [.ref 120])) (m' := (aUI q3.2 135 ((q2.2.1 120 46 : Int32).toNatClampNeg) q3.1)) rfl).trans ((g1V ft_M_readRoof_56 (fr' := (57, [(0, .ref 120)], [.ref 120, .ref 120])) (m' := (aUI q3.2 135 ((q2.2.1 120 46 : Int32).toNatClampNeg) q3.1)) rfl).trans ((g1V ft_M_readRoof_57 (fr' := (60, [(0, .ref 120)], [.int (q3.2.1 120 46), .ref 120])) (m' := (aUI q3.2 135 ((q2.2.1 120 46 : Int32).toNatClampNeg) q3.1)) rfl).trans ((g1V ft_M_readRoof_60 (fr' := (61, [(0, .ref 120)], [.int 1, .int (q3.2.1 120 46), .ref 120])) (m' := (aUI q3.2 135 ((q2.2.1 120 46 : Int32).toNatClampNeg) q3.1)) rfl).trans ((g1V ft_M_readRoof_61 (fr' := (62, [(0, .ref 120)], [.int ((q3.2.1 120 46) + 1), .ref 120])) (m' := (aUI q3.2 135 ((q2.2.1 120 46 : Int32).toNatClampNeg) q3.1)) rfl).trans ((g1V ft_M_readRoof_62 (fr' := (65, [(0, .ref 120)], [])) (m' := (aUI (aUI q3.2 135 ((q2.2.1 120 46 : Int32).toNatClampNeg) q3.1) 120 46 ((q3.2.1 120 46) + 1))) rfl).trans (r1V ft_M_readRoof_65 rfl)))))))))))))))))))))))))))))))))))))))))
theorem ft_M_newName_0 : aFetch kc_M_newName 0 = some (0, .aload_n 0, 1, [], [], [], []) := rfl
theorem ft_M_newName_1 : aFetch kc_M_newName 1 = some (1, .invokevirtual 291, 3, [160, 1, 0, 1, 10, 3], [], [], []) := rfl
theorem ft_M_newName_4 : aFetch kc_M_newName 4 = some (4, .aload_n 0, 1, [], [], [], []) := rfl
theorem ft_M_newName_5 : aFetch kc_M_newName 5 = some (5, .invokevirtual 306, 3, [169, 1, 1, 1, 10, 1], [], [], []) := rfl
theorem ft_M_newName_8 : aFetch kc_M_newName 8 = some (8, .ifCond .ne 11, 3, [], [], [], [(19, [])]) := rfl
theorem ft_M_newName_11 : aFetch kc_M_newName 11 = some (11, .aload_n 0, 1, [], [], [], []) := rfl
theorem ft_M_newName_12 : aFetch kc_M_newName 12 = some (12, .iconst 2, 1, [], [.int 2], [], []) := rfl
theorem ft_M_newName_13 : aFetch kc_M_newName 13 = some (13, .invokevirtual 288, 3, [171, 2, 0, 1, 10, 2], [], [], []) := rfl
theorem ft_M_newName_16 : aFetch kc_M_newName 16 = some (16, .goto 17, 3, [], [], [], [(33, [0, 1, 2])]) := rfl
theorem ft_M_newName_19 : aFetch kc_M_newName 19 = some (19, .aload_n 0, 1, [], [], [], []) := rfl
theorem ft_M_newName_20 : aFetch kc_M_newName 20 = some (20, .iload_n 1, 1, [], [], [], []) := rfl
theorem ft_M_newName_21 : aFetch kc_M_newName 21 = some (21, .iload_n 2, 1, [], [], [], []) := rfl
theorem ft_M_newName_22 : aFetch kc_M_newName 22 = some (22, .invokevirtual 309, 3, [172, 3, 1, 1, 10, 5], [], [], []) := rfl
theorem ft_M_newName_25 : aFetch kc_M_newName 25 = some (25, .ifCond .lt 8, 3, [], [], [], [(33, [0, 1, 2])]) := rfl
theorem ft_M_newName_28 : aFetch kc_M_newName 28 = some (28, .aload_n 0, 1, [], [], [], []) := rfl
theorem ft_M_newName_29 : aFetch kc_M_newName 29 = some (29, .iconst 3, 1, [], [.int 3], [], []) := rfl
theorem ft_M_newName_30 : aFetch kc_M_newName 30 = some (30, .invokevirtual 288, 3, [171, 2, 0, 1, 10, 2], [], [0, 1, 2], []) := rfl
theorem ft_M_newName_33 : aFetch kc_M_newName 33 = some (33, .aload_n 0, 1, [], [], [], []) := rfl
theorem ft_M_newName_34 : aFetch kc_M_newName 34 = some (34, .getfield 227, 3, [10, 2, 0, 0], [], [], []) := rfl
theorem ft_M_newName_37 : aFetch kc_M_newName 37 = some (37, .ifCond .le 4, 3, [], [], [], [(41, [])]) := rfl
theorem ft_M_newName_40 : aFetch kc_M_newName 40 = some (40, .return_, 1, [], [], [], []) := rfl
theorem ft_M_newName_41 : aFetch kc_M_newName 41 = some (41, .aload_n 0, 1, [], [], [], []) := rfl
theorem ft_M_newName_42 : aFetch kc_M_newName 42 = some (42, .getfield 17, 3, [10, 10, 3, 1], [], [], []) := rfl
theorem ft_M_newName_45 : aFetch kc_M_newName 45 = some (45, .iload_n 1, 1, [], [], [], []) := rfl
theorem ft_M_newName_46 : aFetch kc_M_newName 46 = some (46, .iload_n 2, 1, [], [], [], []) := rfl
theorem ft_M_newName_47 : aFetch kc_M_newName 47 = some (47, .iadd, 1, [], [], [], []) := rfl
theorem ft_M_newName_48 : aFetch kc_M_newName 48 = some (48, .aload_n 0, 1, [], [], [], []) := rfl
theorem ft_M_newName_49 : aFetch kc_M_newName 49 = some (49, .getfield 207, 3, [10, 9, 1, 0], [], [], []) := rfl
theorem ft_M_newName_52 : aFetch kc_M_newName 52 = some (52, .lastore, 1, [], [], [], []) := rfl
theorem ft_M_newName_53 : aFetch kc_M_newName 53 = some (53, .aload_n 0, 1, [], [], [], []) := rfl
theorem ft_M_newName_54 : aFetch kc_M_newName 54 = some (54, .invokevirtual 291, 3, [160, 1, 0, 1, 10, 3], [], [], []) := rfl
theorem ft_M_newName_57 : aFetch kc_M_newName 57 = some (57, .return_, 1, [], [], [], []) := rfl
set_option maxHeartbeats 4000000 in
set_option maxRecDepth 100000 in
theorem q_M_newName (d : Nat) (x1 : Int32) (x2 : Int32) (m : aMem) : f_M_newName (d + 1) x1 x2 m = ((f_M_token d m).bind fun q1 => ((f_M_isName d q1).bind fun q2 => (if ¬ q2.1 = 0 then ((f_M_find d x1 x2 q2.2).bind fun q3 => (if q3.1 < 0 then (b_M_newName_33 d x1 x2 q3.2) else ((f_M_wrong d 3 q3.2).bind fun q4 => (b_M_newName_33 d x1 x2 q4)))) else ((f_M_wrong d 2 q2.2).bind fun q5 => (b_M_newName_33 d x1 x2 q5))))) := (show f_M_newName (d + 1) x1 x2 m = eV d kc_M_newName (0, [(0, .ref 120), (1, .int x1), (2, .int x2)], []) m from rfl).trans ((g1V ft_M_newName_0 (fr' := (1, [(0, .ref 120), (1, .int x1), (2, .int x2)], [.ref 120])) (m' := m) rfl).trans ((cVV ft_M_newName_1 (as := [.ref 120]) (pc' := 4) (ls' := [(0, .ref 120), (1, .int x1), (2, .int x2)]) (st' := []) rfl).trans (bnd2 fun q1 => ((g1V ft_M_newName_4 (fr' := (5, [(0, .ref 120), (1, .int x1), (2, .int x2)], [.ref 120])) (m' := q1) rfl).trans ((cIV ft_M_newName_5 (as := [.ref 120]) (pc' := 8) (ls' := [(0, .ref 120), (1, .int x1), (2, .int x2)]) (st' := []) rfl).trans (bnd2 fun q2 => ((b1V ft_M_newName_8 (p := ¬ q2.1 = 0) (f1 := (19, [(0, .ref 120), (1, .int x1), (2, .int x2)], [])) (f2 := (11, [(0, .ref 120), (1, .int x1), (2, .int x2)], [])) rfl).trans (ite2 ((g1V ft_M_newName_19 (fr' := (20, [(0, .ref 120), (1, .int x1), (2, .int x2)], [.ref 120])) (m' := q2.2) rfl).trans ((g1V ft_M_newName_20 (fr' := (21, [(0, .ref 120), (1, .int x1), (2, .int x2)], [.int x1, .ref 120])) (m' := q2.2) rfl).trans ((g1V ft_M_newName_21 (fr' := (22, [(0, .ref 120), (1, .int x1), (2, .int x2)], [.int x2, .int x1, .ref 120])) (m' := q2.2) rfl).trans ((cIV ft_M_newName_22 (as := [.ref 120, .int x1, .int x2]) (pc' := 25) (ls' := [(0, .ref 120), (1, .int x1), (2, .int x2)]) (st' := []) rfl).trans (bnd2 fun q3 => ((b1V ft_M_newName_25 (p := q3.1 < 0) (f1 := (33, [(0, .ref 120), (1, .int x1), (2, .int x2)], [])) (f2 := (28, [(0, .ref 120), (1, .int x1), (2, .int x2)], [])) rfl).trans (ite2 rfl ((g1V ft_M_newName_28 (fr' := (29, [(0, .ref 120), (1, .int x1), (2, .int x2)], [.ref 120])) (m' := q3.2) rfl).trans ((g1V ft_M_newName_29 (fr' := (30, [(0, .ref 120), (1, .int x1), (2, .int x2)], [.int 3, .ref 120])) (m' := q3.2) rfl).trans (cVV ft_M_newName_30 (as := [.ref 120, .int 3]) (pc' := 33) (ls' := [(0, .ref 120), (1, .int x1), (2, .int x2)]) (st' := []) rfl)))))))))) ((g1V ft_M_newName_11 (fr' := (12, [(0, .ref 120), (1, .int x1), (2, .int x2)], [.ref 120])) (m' := q2.2) rfl).trans ((g1V ft_M_newName_12 (fr' := (13, [(0, .ref 120), (1, .int x1), (2, .int x2)], [.int 2, .ref 120])) (m' := q2.2) rfl).trans ((cVV ft_M_newName_13 (as := [.ref 120, .int 2]) (pc' := 16) (ls' := [(0, .ref 120), (1, .int x1), (2, .int x2)]) (st' := []) rfl).trans (bnd2 fun q5 => (g1V ft_M_newName_16 (fr' := (33, [(0, .ref 120), (1, .int x1), (2, .int x2)], [])) (m' := q5) rfl)))))))))))))
set_option maxHeartbeats 4000000 in
set_option maxRecDepth 100000 in
theorem q_M_newName_33 (d : Nat) (x1 : Int32) (x2 : Int32) (m : aMem) : b_M_newName_33 d x1 x2 m = (if m.1 120 2 ≤ 0 then (grd (inb (x1 + x2) 16) ((f_M_token d (aUL m 122 ((x1 + x2 : Int32).toNatClampNeg) (m.2.1 120 9))).bind fun q1 => (some q1))) else (some m)) := ((g1V ft_M_newName_33 (fr' := (34, [(0, .ref 120), (1, .int x1), (2, .int x2)], [.ref 120])) (m' := m) rfl).trans ((g1V ft_M_newName_34 (fr' := (37, [(0, .ref 120), (1, .int x1), (2, .int x2)], [.int (m.1 120 2)])) (m' := m) rfl).trans ((b1V ft_M_newName_37 (p := m.1 120 2 ≤ 0) (f1 := (41, [(0, .ref 120), (1, .int x1), (2, .int x2)], [])) (f2 := (40, [(0, .ref 120), (1, .int x1), (2, .int x2)], [])) rfl).trans (ite2 ((g1V ft_M_newName_41 (fr' := (42, [(0, .ref 120), (1, .int x1), (2, .int x2)], [.ref 120])) (m' := m) rfl).trans ((g1V ft_M_newName_42 (fr' := (45, [(0, .ref 120), (1, .int x1), (2, .int x2)], [.ref 122])) (m' := m) rfl).trans ((g1V ft_M_newName_45 (fr' := (46, [(0, .ref 120), (1, .int x1), (2, .int x2)], [.int x1, .ref 122])) (m' := m) rfl).trans ((g1V ft_M_newName_46 (fr' := (47, [(0, .ref 120), (1, .int x1), (2, .int x2)], [.int x2, .int x1, .ref 122])) (m' := m) rfl).trans ((g1V ft_M_newName_47 (fr' := (48, [(0, .ref 120), (1, .int x1), (2, .int x2)], [.int (x1 + x2), .ref 122])) (m' := m) rfl).trans ((g1V ft_M_newName_48 (fr' := (49, [(0, .ref 120), (1, .int x1), (2, .int x2)], [.ref 120, .int (x1 + x2), .ref 122])) (m' := m) rfl).trans ((g1V ft_M_newName_49 (fr' := (52, [(0, .ref 120), (1, .int x1), (2, .int x2)], [.long (m.2.1 120 9), .int (x1 + x2), .ref 122])) (m' := m) rfl).trans ((g1Vg ft_M_newName_52 (g := inb (x1 + x2) 16) (fr' := (53, [(0, .ref 120), (1, .int x1), (2, .int x2)], [])) (m' := (aUL m 122 ((x1 + x2 : Int32).toNatClampNeg) (m.2.1 120 9))) rfl).trans (grd2 ((g1V ft_M_newName_53 (fr' := (54, [(0, .ref 120), (1, .int x1), (2, .int x2)], [.ref 120])) (m' := (aUL m 122 ((x1 + x2 : Int32).toNatClampNeg) (m.2.1 120 9))) rfl).trans ((cVV ft_M_newName_54 (as := [.ref 120]) (pc' := 57) (ls' := [(0, .ref 120), (1, .int x1), (2, .int x2)]) (st' := []) rfl).trans (bnd2 fun q1 => (r1V ft_M_newName_57 rfl))))))))))))) (r1V ft_M_newName_40 rfl)))))
theorem ft_M_isName_0 : aFetch kc_M_isName 0 = some (0, .aload_n 0, 1, [], [], [], []) := rfl
theorem ft_M_isName_1 : aFetch kc_M_isName 1 = some (1, .getfield 214, 3, [10, 6, 0, 0], [], [], []) := rfl
theorem ft_M_isName_4 : aFetch kc_M_isName 4 = some (4, .iconst 1, 1, [], [.int 1], [], []) := rfl
theorem ft_M_isName_5 : aFetch kc_M_isName 5 = some (5, .if_icmp .ne 14, 3, [], [], [], [(19, [])]) := rfl
theorem ft_M_isName_8 : aFetch kc_M_isName 8 = some (8, .aload_n 0, 1, [], [], [], []) := rfl
theorem ft_M_isName_9 : aFetch kc_M_isName 9 = some (9, .invokevirtual 280, 3, [170, 1, 1, 1, 10, 1], [], [], []) := rfl
theorem ft_M_isName_12 : aFetch kc_M_isName 12 = some (12, .ifCond .ne 7, 3, [], [], [], [(19, [])]) := rfl
theorem ft_M_isName_15 : aFetch kc_M_isName 15 = some (15, .iconst 1, 1, [], [.int 1], [], []) := rfl
theorem ft_M_isName_16 : aFetch kc_M_isName 16 = some (16, .goto 4, 3, [], [], [], [(20, [])]) := rfl
theorem ft_M_isName_19 : aFetch kc_M_isName 19 = some (19, .iconst 0, 1, [], [.int 0], [], []) := rfl
theorem ft_M_isName_20 : aFetch kc_M_isName 20 = some (20, .ireturn, 1, [1], [], [], []) := rfl
set_option maxHeartbeats 4000000 in
set_option maxRecDepth 100000 in
theorem q_M_isName (d : Nat)  (m : aMem) : f_M_isName (d + 1)  m = (if ¬ m.1 120 6 = 1 then (some (0, m)) else ((f_M_isOwn d m).bind fun q1 => (if ¬ q1.1 = 0 then (some (0, q1.2)) else (some (1, q1.2))))) := (show f_M_isName (d + 1)  m = eI d kc_M_isName (0, [(0, .ref 120)], []) m from rfl).trans ((g1I ft_M_isName_0 (fr' := (1, [(0, .ref 120)], [.ref 120])) (m' := m) rfl).trans ((g1I ft_M_isName_1 (fr' := (4, [(0, .ref 120)], [.int (m.1 120 6)])) (m' := m) rfl).trans ((g1I ft_M_isName_4 (fr' := (5, [(0, .ref 120)], [.int 1, .int (m.1 120 6)])) (m' := m) rfl).trans ((b1I ft_M_isName_5 (p := ¬ m.1 120 6 = 1) (f1 := (19, [(0, .ref 120)], [])) (f2 := (8, [(0, .ref 120)], [])) rfl).trans (ite2 ((g1I ft_M_isName_19 (fr' := (20, [(0, .ref 120)], [.int 0])) (m' := m) rfl).trans (r1I ft_M_isName_20 rfl)) ((g1I ft_M_isName_8 (fr' := (9, [(0, .ref 120)], [.ref 120])) (m' := m) rfl).trans ((cII ft_M_isName_9 (as := [.ref 120]) (pc' := 12) (ls' := [(0, .ref 120)]) (st' := []) rfl).trans (bnd2 fun q1 => ((b1I ft_M_isName_12 (p := ¬ q1.1 = 0) (f1 := (19, [(0, .ref 120)], [])) (f2 := (15, [(0, .ref 120)], [])) rfl).trans (ite2 ((g1I ft_M_isName_19 (fr' := (20, [(0, .ref 120)], [.int 0])) (m' := q1.2) rfl).trans (r1I ft_M_isName_20 rfl)) ((g1I ft_M_isName_15 (fr' := (16, [(0, .ref 120)], [.int 1])) (m' := q1.2) rfl).trans ((g1I ft_M_isName_16 (fr' := (20, [(0, .ref 120)], [.int 1])) (m' := q1.2) rfl).trans (r1I ft_M_isName_20 rfl)))))))))))))
theorem ft_M_isOwn_0 : aFetch kc_M_isOwn 0 = some (0, .aload_n 0, 1, [], [], [], []) := rfl
theorem ft_M_isOwn_1 : aFetch kc_M_isOwn 1 = some (1, .getfield 207, 3, [10, 9, 1, 0], [], [], []) := rfl
theorem ft_M_isOwn_4 : aFetch kc_M_isOwn 4 = some (4, .ldc2_w 230, 3, [], [.long 1919905638], [], []) := rfl
theorem ft_M_isOwn_7 : aFetch kc_M_isOwn 7 = some (7, .lcmp, 1, [], [], [], []) := rfl
theorem ft_M_isOwn_8 : aFetch kc_M_isOwn 8 = some (8, .ifCond .eq 267, 3, [], [], [], [(275, [])]) := rfl
theorem ft_M_isOwn_11 : aFetch kc_M_isOwn 11 = some (11, .aload_n 0, 1, [], [], [], []) := rfl
theorem ft_M_isOwn_12 : aFetch kc_M_isOwn 12 = some (12, .getfield 207, 3, [10, 9, 1, 0], [], [], []) := rfl
theorem ft_M_isOwn_15 : aFetch kc_M_isOwn 15 = some (15, .ldc2_w 232, 3, [], [.long 24948], [], []) := rfl
theorem ft_M_isOwn_18 : aFetch kc_M_isOwn 18 = some (18, .lcmp, 1, [], [], [], []) := rfl
theorem ft_M_isOwn_19 : aFetch kc_M_isOwn 19 = some (19, .ifCond .eq 256, 3, [], [], [], [(275, [])]) := rfl
theorem ft_M_isOwn_22 : aFetch kc_M_isOwn 22 = some (22, .aload_n 0, 1, [], [], [], []) := rfl
theorem ft_M_isOwn_23 : aFetch kc_M_isOwn 23 = some (23, .getfield 207, 3, [10, 9, 1, 0], [], [], []) := rfl
theorem ft_M_isOwn_26 : aFetch kc_M_isOwn 26 = some (26, .ldc2_w 234, 3, [], [.long 131277443786868], [], []) := rfl
theorem ft_M_isOwn_29 : aFetch kc_M_isOwn 29 = some (29, .lcmp, 1, [], [], [], []) := rfl
theorem ft_M_isOwn_30 : aFetch kc_M_isOwn 30 = some (30, .ifCond .eq 245, 3, [], [], [], [(275, [])]) := rfl
theorem ft_M_isOwn_33 : aFetch kc_M_isOwn 33 = some (33, .aload_n 0, 1, [], [], [], []) := rfl
theorem ft_M_isOwn_34 : aFetch kc_M_isOwn 34 = some (34, .getfield 207, 3, [10, 9, 1, 0], [], [], []) := rfl
theorem ft_M_isOwn_37 : aFetch kc_M_isOwn 37 = some (37, .ldc2_w 236, 3, [], [.long 1802073189], [], []) := rfl
theorem ft_M_isOwn_40 : aFetch kc_M_isOwn 40 = some (40, .lcmp, 1, [], [], [], []) := rfl
theorem ft_M_isOwn_41 : aFetch kc_M_isOwn 41 = some (41, .ifCond .eq 234, 3, [], [], [], [(275, [])]) := rfl
theorem ft_M_isOwn_44 : aFetch kc_M_isOwn 44 = some (44, .aload_n 0, 1, [], [], [], []) := rfl
theorem ft_M_isOwn_45 : aFetch kc_M_isOwn 45 = some (45, .getfield 207, 3, [10, 9, 1, 0], [], [], []) := rfl
theorem ft_M_isOwn_48 : aFetch kc_M_isOwn 48 = some (48, .ldc2_w 238, 3, [], [.long 28518], [], []) := rfl
theorem ft_M_isOwn_51 : aFetch kc_M_isOwn 51 = some (51, .lcmp, 1, [], [], [], []) := rfl
theorem ft_M_isOwn_52 : aFetch kc_M_isOwn 52 = some (52, .ifCond .eq 223, 3, [], [], [], [(275, [])]) := rfl
theorem ft_M_isOwn_55 : aFetch kc_M_isOwn 55 = some (55, .aload_n 0, 1, [], [], [], []) := rfl
theorem ft_M_isOwn_56 : aFetch kc_M_isOwn 56 = some (56, .getfield 207, 3, [10, 9, 1, 0], [], [], []) := rfl
theorem ft_M_isOwn_59 : aFetch kc_M_isOwn 59 = some (59, .ldc2_w 240, 3, [], [.long 1936292453], [], []) := rfl
theorem ft_M_isOwn_62 : aFetch kc_M_isOwn 62 = some (62, .lcmp, 1, [], [], [], []) := rfl
theorem ft_M_isOwn_63 : aFetch kc_M_isOwn 63 = some (63, .ifCond .eq 212, 3, [], [], [], [(275, [])]) := rfl
theorem ft_M_isOwn_66 : aFetch kc_M_isOwn 66 = some (66, .aload_n 0, 1, [], [], [], []) := rfl
theorem ft_M_isOwn_67 : aFetch kc_M_isOwn 67 = some (67, .getfield 207, 3, [10, 9, 1, 0], [], [], []) := rfl
theorem ft_M_isOwn_70 : aFetch kc_M_isOwn 70 = some (70, .ldc2_w 242, 3, [], [.long 1668248164], [], []) := rfl
theorem ft_M_isOwn_73 : aFetch kc_M_isOwn 73 = some (73, .lcmp, 1, [], [], [], []) := rfl
theorem ft_M_isOwn_74 : aFetch kc_M_isOwn 74 = some (74, .ifCond .eq 201, 3, [], [], [], [(275, [])]) := rfl
theorem ft_M_isOwn_77 : aFetch kc_M_isOwn 77 = some (77, .aload_n 0, 1, [], [], [], []) := rfl
theorem ft_M_isOwn_78 : aFetch kc_M_isOwn 78 = some (78, .getfield 207, 3, [10, 9, 1, 0], [], [], []) := rfl
theorem ft_M_isOwn_81 : aFetch kc_M_isOwn 81 = some (81, .ldc2_w 244, 3, [], [.long 114784769370228], [], []) := rfl
theorem ft_M_isOwn_84 : aFetch kc_M_isOwn 84 = some (84, .lcmp, 1, [], [], [], []) := rfl
theorem ft_M_isOwn_85 : aFetch kc_M_isOwn 85 = some (85, .ifCond .eq 190, 3, [], [], [], [(275, [])]) := rfl
theorem ft_M_isOwn_88 : aFetch kc_M_isOwn 88 = some (88, .aload_n 0, 1, [], [], [], []) := rfl
theorem ft_M_isOwn_89 : aFetch kc_M_isOwn 89 = some (89, .getfield 207, 3, [10, 9, 1, 0], [], [], []) := rfl
theorem ft_M_isOwn_92 : aFetch kc_M_isOwn 92 = some (92, .ldc2_w 246, 3, [], [.long 1953064292], [], []) := rfl
theorem ft_M_isOwn_95 : aFetch kc_M_isOwn 95 = some (95, .lcmp, 1, [], [], [], []) := rfl
theorem ft_M_isOwn_96 : aFetch kc_M_isOwn 96 = some (96, .ifCond .eq 179, 3, [], [], [], [(275, [])]) := rfl
theorem ft_M_isOwn_99 : aFetch kc_M_isOwn 99 = some (99, .aload_n 0, 1, [], [], [], []) := rfl
theorem ft_M_isOwn_100 : aFetch kc_M_isOwn 100 = some (100, .getfield 207, 3, [10, 9, 1, 0], [], [], []) := rfl
theorem ft_M_isOwn_103 : aFetch kc_M_isOwn 103 = some (103, .ldc2_w 248, 3, [], [.long 6451065], [], []) := rfl
theorem ft_M_isOwn_106 : aFetch kc_M_isOwn 106 = some (106, .lcmp, 1, [], [], [], []) := rfl
theorem ft_M_isOwn_107 : aFetch kc_M_isOwn 107 = some (107, .ifCond .eq 168, 3, [], [], [], [(275, [])]) := rfl
theorem ft_M_isOwn_110 : aFetch kc_M_isOwn 110 = some (110, .aload_n 0, 1, [], [], [], []) := rfl
theorem ft_M_isOwn_111 : aFetch kc_M_isOwn 111 = some (111, .getfield 207, 3, [10, 9, 1, 0], [], [], []) := rfl
theorem ft_M_isOwn_114 : aFetch kc_M_isOwn 114 = some (114, .ldc2_w 250, 3, [], [.long 1634889075], [], []) := rfl
theorem ft_M_isOwn_117 : aFetch kc_M_isOwn 117 = some (117, .lcmp, 1, [], [], [], []) := rfl
theorem ft_M_isOwn_118 : aFetch kc_M_isOwn 118 = some (118, .ifCond .eq 157, 3, [], [], [], [(275, [])]) := rfl
theorem ft_M_isOwn_121 : aFetch kc_M_isOwn 121 = some (121, .aload_n 0, 1, [], [], [], []) := rfl
theorem ft_M_isOwn_122 : aFetch kc_M_isOwn 122 = some (122, .getfield 207, 3, [10, 9, 1, 0], [], [], []) := rfl
theorem ft_M_isOwn_125 : aFetch kc_M_isOwn 125 = some (125, .ldc2_w 252, 3, [], [.long 448546566771], [], []) := rfl
theorem ft_M_isOwn_128 : aFetch kc_M_isOwn 128 = some (128, .lcmp, 1, [], [], [], []) := rfl
theorem ft_M_isOwn_129 : aFetch kc_M_isOwn 129 = some (129, .ifCond .eq 146, 3, [], [], [], [(275, [])]) := rfl
theorem ft_M_isOwn_132 : aFetch kc_M_isOwn 132 = some (132, .aload_n 0, 1, [], [], [], []) := rfl
theorem ft_M_isOwn_133 : aFetch kc_M_isOwn 133 = some (133, .getfield 207, 3, [10, 9, 1, 0], [], [], []) := rfl
theorem ft_M_isOwn_136 : aFetch kc_M_isOwn 136 = some (136, .ldc2_w 254, 3, [], [.long 448545973363], [], []) := rfl
theorem ft_M_isOwn_139 : aFetch kc_M_isOwn 139 = some (139, .lcmp, 1, [], [], [], []) := rfl
theorem ft_M_isOwn_140 : aFetch kc_M_isOwn 140 = some (140, .ifCond .eq 135, 3, [], [], [], [(275, [])]) := rfl
theorem ft_M_isOwn_143 : aFetch kc_M_isOwn 143 = some (143, .aload_n 0, 1, [], [], [], []) := rfl
theorem ft_M_isOwn_144 : aFetch kc_M_isOwn 144 = some (144, .getfield 207, 3, [10, 9, 1, 0], [], [], []) := rfl
theorem ft_M_isOwn_147 : aFetch kc_M_isOwn 147 = some (147, .ldc2_w 256, 3, [], [.long 2003398244], [], []) := rfl
theorem ft_M_isOwn_150 : aFetch kc_M_isOwn 150 = some (150, .lcmp, 1, [], [], [], []) := rfl
theorem ft_M_isOwn_151 : aFetch kc_M_isOwn 151 = some (151, .ifCond .eq 124, 3, [], [], [], [(275, [])]) := rfl
theorem ft_M_isOwn_154 : aFetch kc_M_isOwn 154 = some (154, .aload_n 0, 1, [], [], [], []) := rfl
theorem ft_M_isOwn_155 : aFetch kc_M_isOwn 155 = some (155, .getfield 207, 3, [10, 9, 1, 0], [], [], []) := rfl
theorem ft_M_isOwn_158 : aFetch kc_M_isOwn 158 = some (158, .ldc2_w 258, 3, [], [.long 1818846836], [], []) := rfl
theorem ft_M_isOwn_161 : aFetch kc_M_isOwn 161 = some (161, .lcmp, 1, [], [], [], []) := rfl
theorem ft_M_isOwn_162 : aFetch kc_M_isOwn 162 = some (162, .ifCond .eq 113, 3, [], [], [], [(275, [])]) := rfl
theorem ft_M_isOwn_165 : aFetch kc_M_isOwn 165 = some (165, .aload_n 0, 1, [], [], [], []) := rfl
theorem ft_M_isOwn_166 : aFetch kc_M_isOwn 166 = some (166, .getfield 207, 3, [10, 9, 1, 0], [], [], []) := rfl
theorem ft_M_isOwn_169 : aFetch kc_M_isOwn 169 = some (169, .ldc2_w 260, 3, [], [.long 1735750516], [], []) := rfl
theorem ft_M_isOwn_172 : aFetch kc_M_isOwn 172 = some (172, .lcmp, 1, [], [], [], []) := rfl
theorem ft_M_isOwn_173 : aFetch kc_M_isOwn 173 = some (173, .ifCond .eq 102, 3, [], [], [], [(275, [])]) := rfl
theorem ft_M_isOwn_176 : aFetch kc_M_isOwn 176 = some (176, .aload_n 0, 1, [], [], [], []) := rfl
theorem ft_M_isOwn_177 : aFetch kc_M_isOwn 177 = some (177, .getfield 207, 3, [10, 9, 1, 0], [], [], []) := rfl
theorem ft_M_isOwn_180 : aFetch kc_M_isOwn 180 = some (180, .ldc2_w 262, 3, [], [.long 1685217655], [], []) := rfl
theorem ft_M_isOwn_183 : aFetch kc_M_isOwn 183 = some (183, .lcmp, 1, [], [], [], []) := rfl
theorem ft_M_isOwn_184 : aFetch kc_M_isOwn 184 = some (184, .ifCond .eq 91, 3, [], [], [], [(275, [])]) := rfl
theorem ft_M_isOwn_187 : aFetch kc_M_isOwn 187 = some (187, .aload_n 0, 1, [], [], [], []) := rfl
theorem ft_M_isOwn_188 : aFetch kc_M_isOwn 188 = some (188, .getfield 207, 3, [10, 9, 1, 0], [], [], []) := rfl
theorem ft_M_isOwn_191 : aFetch kc_M_isOwn 191 = some (191, .ldc2_w 264, 3, [], [.long 1752135026], [], []) := rfl
theorem ft_M_isOwn_194 : aFetch kc_M_isOwn 194 = some (194, .lcmp, 1, [], [], [], []) := rfl
theorem ft_M_isOwn_195 : aFetch kc_M_isOwn 195 = some (195, .ifCond .eq 80, 3, [], [], [], [(275, [])]) := rfl
theorem ft_M_isOwn_198 : aFetch kc_M_isOwn 198 = some (198, .aload_n 0, 1, [], [], [], []) := rfl
theorem ft_M_isOwn_199 : aFetch kc_M_isOwn 199 = some (199, .getfield 207, 3, [10, 9, 1, 0], [], [], []) := rfl
theorem ft_M_isOwn_202 : aFetch kc_M_isOwn 202 = some (202, .ldc2_w 266, 3, [], [.long 6578553], [], []) := rfl
theorem ft_M_isOwn_205 : aFetch kc_M_isOwn 205 = some (205, .lcmp, 1, [], [], [], []) := rfl
theorem ft_M_isOwn_206 : aFetch kc_M_isOwn 206 = some (206, .ifCond .eq 69, 3, [], [], [], [(275, [])]) := rfl
theorem ft_M_isOwn_209 : aFetch kc_M_isOwn 209 = some (209, .aload_n 0, 1, [], [], [], []) := rfl
theorem ft_M_isOwn_210 : aFetch kc_M_isOwn 210 = some (210, .getfield 207, 3, [10, 9, 1, 0], [], [], []) := rfl
theorem ft_M_isOwn_213 : aFetch kc_M_isOwn 213 = some (213, .ldc2_w 268, 3, [], [.long 439956431717], [], []) := rfl
theorem ft_M_isOwn_216 : aFetch kc_M_isOwn 216 = some (216, .lcmp, 1, [], [], [], []) := rfl
theorem ft_M_isOwn_217 : aFetch kc_M_isOwn 217 = some (217, .ifCond .eq 58, 3, [], [], [], [(275, [])]) := rfl
theorem ft_M_isOwn_220 : aFetch kc_M_isOwn 220 = some (220, .aload_n 0, 1, [], [], [], []) := rfl
theorem ft_M_isOwn_221 : aFetch kc_M_isOwn 221 = some (221, .getfield 207, 3, [10, 9, 1, 0], [], [], []) := rfl
theorem ft_M_isOwn_224 : aFetch kc_M_isOwn 224 = some (224, .ldc2_w 270, 3, [], [.long 1852137842], [], []) := rfl
theorem ft_M_isOwn_227 : aFetch kc_M_isOwn 227 = some (227, .lcmp, 1, [], [], [], []) := rfl
theorem ft_M_isOwn_228 : aFetch kc_M_isOwn 228 = some (228, .ifCond .eq 47, 3, [], [], [], [(275, [])]) := rfl
theorem ft_M_isOwn_231 : aFetch kc_M_isOwn 231 = some (231, .aload_n 0, 1, [], [], [], []) := rfl
theorem ft_M_isOwn_232 : aFetch kc_M_isOwn 232 = some (232, .getfield 207, 3, [10, 9, 1, 0], [], [], []) := rfl
theorem ft_M_isOwn_235 : aFetch kc_M_isOwn 235 = some (235, .ldc2_w 272, 3, [], [.long 6383461], [], []) := rfl
theorem ft_M_isOwn_238 : aFetch kc_M_isOwn 238 = some (238, .lcmp, 1, [], [], [], []) := rfl
theorem ft_M_isOwn_239 : aFetch kc_M_isOwn 239 = some (239, .ifCond .eq 36, 3, [], [], [], [(275, [])]) := rfl
theorem ft_M_isOwn_242 : aFetch kc_M_isOwn 242 = some (242, .aload_n 0, 1, [], [], [], []) := rfl
theorem ft_M_isOwn_243 : aFetch kc_M_isOwn 243 = some (243, .getfield 207, 3, [10, 9, 1, 0], [], [], []) := rfl
theorem ft_M_isOwn_246 : aFetch kc_M_isOwn 246 = some (246, .ldc2_w 274, 3, [], [.long 6385252], [], []) := rfl
theorem ft_M_isOwn_249 : aFetch kc_M_isOwn 249 = some (249, .lcmp, 1, [], [], [], []) := rfl
theorem ft_M_isOwn_250 : aFetch kc_M_isOwn 250 = some (250, .ifCond .eq 25, 3, [], [], [], [(275, [])]) := rfl
theorem ft_M_isOwn_253 : aFetch kc_M_isOwn 253 = some (253, .aload_n 0, 1, [], [], [], []) := rfl
theorem ft_M_isOwn_254 : aFetch kc_M_isOwn 254 = some (254, .getfield 207, 3, [10, 9, 1, 0], [], [], []) := rfl
theorem ft_M_isOwn_257 : aFetch kc_M_isOwn 257 = some (257, .ldc2_w 276, 3, [], [.long 28530], [], []) := rfl
theorem ft_M_isOwn_260 : aFetch kc_M_isOwn 260 = some (260, .lcmp, 1, [], [], [], []) := rfl
theorem ft_M_isOwn_261 : aFetch kc_M_isOwn 261 = some (261, .ifCond .eq 14, 3, [], [], [], [(275, [])]) := rfl
theorem ft_M_isOwn_264 : aFetch kc_M_isOwn 264 = some (264, .aload_n 0, 1, [], [], [], []) := rfl
theorem ft_M_isOwn_265 : aFetch kc_M_isOwn 265 = some (265, .getfield 207, 3, [10, 9, 1, 0], [], [], []) := rfl
theorem ft_M_isOwn_268 : aFetch kc_M_isOwn 268 = some (268, .ldc2_w 278, 3, [], [.long 7237492], [], []) := rfl
theorem ft_M_isOwn_271 : aFetch kc_M_isOwn 271 = some (271, .lcmp, 1, [], [], [], []) := rfl
theorem ft_M_isOwn_272 : aFetch kc_M_isOwn 272 = some (272, .ifCond .ne 7, 3, [], [], [], [(279, [])]) := rfl
theorem ft_M_isOwn_275 : aFetch kc_M_isOwn 275 = some (275, .iconst 1, 1, [], [.int 1], [], []) := rfl
theorem ft_M_isOwn_276 : aFetch kc_M_isOwn 276 = some (276, .goto 4, 3, [], [], [], [(280, [])]) := rfl
theorem ft_M_isOwn_279 : aFetch kc_M_isOwn 279 = some (279, .iconst 0, 1, [], [.int 0], [], []) := rfl
theorem ft_M_isOwn_280 : aFetch kc_M_isOwn 280 = some (280, .ireturn, 1, [1], [], [], []) := rfl
set_option maxHeartbeats 4000000 in
set_option maxRecDepth 100000 in
theorem q_M_isOwn (d : Nat)  (m : aMem) : f_M_isOwn (d + 1)  m = (if lg_cmp (m.2.1 120 9) 1919905638 = 0 then (some (1, m)) else (if lg_cmp (m.2.1 120 9) 24948 = 0 then (some (1, m)) else (if lg_cmp (m.2.1 120 9) 131277443786868 = 0 then (some (1, m)) else (if lg_cmp (m.2.1 120 9) 1802073189 = 0 then (some (1, m)) else (if lg_cmp (m.2.1 120 9) 28518 = 0 then (some (1, m)) else (if lg_cmp (m.2.1 120 9) 1936292453 = 0 then (some (1, m)) else (if lg_cmp (m.2.1 120 9) 1668248164 = 0 then (some (1, m)) else (if lg_cmp (m.2.1 120 9) 114784769370228 = 0 then (some (1, m)) else (if lg_cmp (m.2.1 120 9) 1953064292 = 0 then (some (1, m)) else (if lg_cmp (m.2.1 120 9) 6451065 = 0 then (some (1, m)) else (if lg_cmp (m.2.1 120 9) 1634889075 = 0 then (some (1, m)) else (if lg_cmp (m.2.1 120 9) 448546566771 = 0 then (some (1, m)) else (if lg_cmp (m.2.1 120 9) 448545973363 = 0 then (some (1, m)) else (if lg_cmp (m.2.1 120 9) 2003398244 = 0 then (some (1, m)) else (if lg_cmp (m.2.1 120 9) 1818846836 = 0 then (some (1, m)) else (if lg_cmp (m.2.1 120 9) 1735750516 = 0 then (some (1, m)) else (if lg_cmp (m.2.1 120 9) 1685217655 = 0 then (some (1, m)) else (if lg_cmp (m.2.1 120 9) 1752135026 = 0 then (some (1, m)) else (if lg_cmp (m.2.1 120 9) 6578553 = 0 then (some (1, m)) else (if lg_cmp (m.2.1 120 9) 439956431717 = 0 then (some (1, m)) else (if lg_cmp (m.2.1 120 9) 1852137842 = 0 then (some (1, m)) else (if lg_cmp (m.2.1 120 9) 6383461 = 0 then (some (1, m)) else (if lg_cmp (m.2.1 120 9) 6385252 = 0 then (some (1, m)) else (if lg_cmp (m.2.1 120 9) 28530 = 0 then (some (1, m)) else (if ¬ lg_cmp (m.2.1 120 9) 7237492 = 0 then (some (0, m)) else (some (1, m))))))))))))))))))))))))))) := (show f_M_isOwn (d + 1)  m = eI d kc_M_isOwn (0, [(0, .ref 120)], []) m from rfl).trans ((g1I ft_M_isOwn_0 (fr' := (1, [(0, .ref 120)], [.ref 120])) (m' := m) rfl).trans ((g1I ft_M_isOwn_1 (fr' := (4, [(0, .ref 120)], [.long (m.2.1 120 9)])) (m' := m) rfl).trans ((g1I ft_M_isOwn_4 (fr' := (7, [(0, .ref 120)], [.long 1919905638, .long (m.2.1 120 9)])) (m' := m) rfl).trans ((g1I ft_M_isOwn_7 (fr' := (8, [(0, .ref 120)], [.int (lg_cmp (m.2.1 120 9) 1919905638)])) (m' := m) rfl).trans ((b1I ft_M_isOwn_8 (p := lg_cmp (m.2.1 120 9) 1919905638 = 0) (f1 := (275, [(0, .ref 120)], [])) (f2 := (11, [(0, .ref 120)], [])) rfl).trans (ite2 ((g1I ft_M_isOwn_275 (fr' := (276, [(0, .ref 120)], [.int 1])) (m' := m) rfl).trans ((g1I ft_M_isOwn_276 (fr' := (280, [(0, .ref 120)], [.int 1])) (m' := m) rfl).trans (r1I ft_M_isOwn_280 rfl))) ((g1I ft_M_isOwn_11 (fr' := (12, [(0, .ref 120)], [.ref 120])) (m' := m) rfl).trans ((g1I ft_M_isOwn_12 (fr' := (15, [(0, .ref 120)], [.long (m.2.1 120 9)])) (m' := m) rfl).trans ((g1I ft_M_isOwn_15 (fr' := (18, [(0, .ref 120)], [.long 24948, .long (m.2.1 120 9)])) (m' := m) rfl).trans ((g1I ft_M_isOwn_18 (fr' := (19, [(0, .ref 120)], [.int (lg_cmp (m.2.1 120 9) 24948)])) (m' := m) rfl).trans ((b1I ft_M_isOwn_19 (p := lg_cmp (m.2.1 120 9) 24948 = 0) (f1 := (275, [(0, .ref 120)], [])) (f2 := (22, [(0, .ref 120)], [])) rfl).trans (ite2 ((g1I ft_M_isOwn_275 (fr' := (276, [(0, .ref 120)], [.int 1])) (m' := m) rfl).trans ((g1I ft_M_isOwn_276 (fr' := (280, [(0, .ref 120)], [.int 1])) (m' := m) rfl).trans (r1I ft_M_isOwn_280 rfl))) ((g1I ft_M_isOwn_22 (fr' := (23, [(0, .ref 120)], [.ref 120])) (m' := m) rfl).trans ((g1I ft_M_isOwn_23 (fr' := (26, [(0, .ref 120)], [.long (m.2.1 120 9)])) (m' := m) rfl).trans ((g1I ft_M_isOwn_26 (fr' := (29, [(0, .ref 120)], [.long 131277443786868, .long (m.2.1 120 9)])) (m' := m) rfl).trans ((g1I ft_M_isOwn_29 (fr' := (30, [(0, .ref 120)], [.int (lg_cmp (m.2.1 120 9) 131277443786868)])) (m' := m) rfl).trans ((b1I ft_M_isOwn_30 (p := lg_cmp (m.2.1 120 9) 131277443786868 = 0) (f1 := (275, [(0, .ref 120)], [])) (f2 := (33, [(0, .ref 120)], [])) rfl).trans (ite2 ((g1I ft_M_isOwn_275 (fr' := (276, [(0, .ref 120)], [.int 1])) (m' := m) rfl).trans ((g1I ft_M_isOwn_276 (fr' := (280, [(0, .ref 120)], [.int 1])) (m' := m) rfl).trans (r1I ft_M_isOwn_280 rfl))) ((g1I ft_M_isOwn_33 (fr' := (34, [(0, .ref 120)], [.ref 120])) (m' := m) rfl).trans ((g1I ft_M_isOwn_34 (fr' := (37, [(0, .ref 120)], [.long (m.2.1 120 9)])) (m' := m) rfl).trans ((g1I ft_M_isOwn_37 (fr' := (40, [(0, .ref 120)], [.long 1802073189, .long (m.2.1 120 9)])) (m' := m) rfl).trans ((g1I ft_M_isOwn_40 (fr' := (41, [(0, .ref 120)], [.int (lg_cmp (m.2.1 120 9) 1802073189)])) (m' := m) rfl).trans ((b1I ft_M_isOwn_41 (p := lg_cmp (m.2.1 120 9) 1802073189 = 0) (f1 := (275, [(0, .ref 120)], [])) (f2 := (44, [(0, .ref 120)], [])) rfl).trans (ite2 ((g1I ft_M_isOwn_275 (fr' := (276, [(0, .ref 120)], [.int 1])) (m' := m) rfl).trans ((g1I ft_M_isOwn_276 (fr' := (280, [(0, .ref 120)], [.int 1])) (m' := m) rfl).trans (r1I ft_M_isOwn_280 rfl))) ((g1I ft_M_isOwn_44 (fr' := (45, [(0, .ref 120)], [.ref 120])) (m' := m) rfl).trans ((g1I ft_M_isOwn_45 (fr' := (48, [(0, .ref 120)], [.long (m.2.1 120 9)])) (m' := m) rfl).trans ((g1I ft_M_isOwn_48 (fr' := (51, [(0, .ref 120)], [.long 28518, .long (m.2.1 120 9)])) (m' := m) rfl).trans ((g1I ft_M_isOwn_51 (fr' := (52, [(0, .ref 120)], [.int (lg_cmp (m.2.1 120 9) 28518)])) (m' := m) rfl).trans ((b1I ft_M_isOwn_52 (p := lg_cmp (m.2.1 120 9) 28518 = 0) (f1 := (275, [(0, .ref 120)], [])) (f2 := (55, [(0, .ref 120)], [])) rfl).trans (ite2 ((g1I ft_M_isOwn_275 (fr' := (276, [(0, .ref 120)], [.int 1])) (m' := m) rfl).trans ((g1I ft_M_isOwn_276 (fr' := (280, [(0, .ref 120)], [.int 1])) (m' := m) rfl).trans (r1I ft_M_isOwn_280 rfl))) ((g1I ft_M_isOwn_55 (fr' := (56, [(0, .ref 120)], [.ref 120])) (m' := m) rfl).trans ((g1I ft_M_isOwn_56 (fr' := (59, [(0, .ref 120)], [.long (m.2.1 120 9)])) (m' := m) rfl).trans ((g1I ft_M_isOwn_59 (fr' := (62, [(0, .ref 120)], [.long 1936292453, .long (m.2.1 120 9)])) (m' := m) rfl).trans ((g1I ft_M_isOwn_62 (fr' := (63, [(0, .ref 120)], [.int (lg_cmp (m.2.1 120 9) 1936292453)])) (m' := m) rfl).trans ((b1I ft_M_isOwn_63 (p := lg_cmp (m.2.1 120 9) 1936292453 = 0) (f1 := (275, [(0, .ref 120)], [])) (f2 := (66, [(0, .ref 120)], [])) rfl).trans (ite2 ((g1I ft_M_isOwn_275 (fr' := (276, [(0, .ref 120)], [.int 1])) (m' := m) rfl).trans ((g1I ft_M_isOwn_276 (fr' := (280, [(0, .ref 120)], [.int 1])) (m' := m) rfl).trans (r1I ft_M_isOwn_280 rfl))) ((g1I ft_M_isOwn_66 (fr' := (67, [(0, .ref 120)], [.ref 120])) (m' := m) rfl).trans ((g1I ft_M_isOwn_67 (fr' := (70, [(0, .ref 120)], [.long (m.2.1 120 9)])) (m' := m) rfl).trans ((g1I ft_M_isOwn_70 (fr' := (73, [(0, .ref 120)], [.long 1668248164, .long (m.2.1 120 9)])) (m' := m) rfl).trans ((g1I ft_M_isOwn_73 (fr' := (74, [(0, .ref 120)], [.int (lg_cmp (m.2.1 120 9) 1668248164)])) (m' := m) rfl).trans ((b1I ft_M_isOwn_74 (p := lg_cmp (m.2.1 120 9) 1668248164 = 0) (f1 := (275, [(0, .ref 120)], [])) (f2 := (77, [(0, .ref 120)], [])) rfl).trans (ite2 ((g1I ft_M_isOwn_275 (fr' := (276, [(0, .ref 120)], [.int 1])) (m' := m) rfl).trans ((g1I ft_M_isOwn_276 (fr' := (280, [(0, .ref 120)], [.int 1])) (m' := m) rfl).trans (r1I ft_M_isOwn_280 rfl))) ((g1I ft_M_isOwn_77 (fr' := (78, [(0, .ref 120)], [.ref 120])) (m' := m) rfl).trans ((g1I ft_M_isOwn_78 (fr' := (81, [(0, .ref 120)], [.long (m.2.1 120 9)])) (m' := m) rfl).trans ((g1I ft_M_isOwn_81 (fr' := (84, [(0, .ref 120)], [.long 114784769370228, .long (m.2.1 120 9)])) (m' := m) rfl).trans ((g1I ft_M_isOwn_84 (fr' := (85, [(0, .ref 120)], [.int (lg_cmp (m.2.1 120 9) 114784769370228)])) (m' := m) rfl).trans ((b1I ft_M_isOwn_85 (p := lg_cmp (m.2.1 120 9) 114784769370228 = 0) (f1 := (275, [(0, .ref 120)], [])) (f2 := (88, [(0, .ref 120)], [])) rfl).trans (ite2 ((g1I ft_M_isOwn_275 (fr' := (276, [(0, .ref 120)], [.int 1])) (m' := m) rfl).trans ((g1I ft_M_isOwn_276 (fr' := (280, [(0, .ref 120)], [.int 1])) (m' := m) rfl).trans (r1I ft_M_isOwn_280 rfl))) ((g1I ft_M_isOwn_88 (fr' := (89, [(0, .ref 120)], [.ref 120])) (m' := m) rfl).trans ((g1I ft_M_isOwn_89 (fr' := (92, [(0, .ref 120)], [.long (m.2.1 120 9)])) (m' := m) rfl).trans ((g1I ft_M_isOwn_92 (fr' := (95, [(0, .ref 120)], [.long 1953064292, .long (m.2.1 120 9)])) (m' := m) rfl).trans ((g1I ft_M_isOwn_95 (fr' := (96, [(0, .ref 120)], [.int (lg_cmp (m.2.1 120 9) 1953064292)])) (m' := m) rfl).trans ((b1I ft_M_isOwn_96 (p := lg_cmp (m.2.1 120 9) 1953064292 = 0) (f1 := (275, [(0, .ref 120)], [])) (f2 := (99, [(0, .ref 120)], [])) rfl).trans (ite2 ((g1I ft_M_isOwn_275 (fr' := (276, [(0, .ref 120)], [.int 1])) (m' := m) rfl).trans ((g1I ft_M_isOwn_276 (fr' := (280, [(0, .ref 120)], [.int 1])) (m' := m) rfl).trans (r1I ft_M_isOwn_280 rfl))) ((g1I ft_M_isOwn_99 (fr' := (100, [(0, .ref 120)], [.ref 120])) (m' := m) rfl).trans ((g1I ft_M_isOwn_100 (fr' := (103, [(0, .ref 120)], [.long (m.2.1 120 9)])) (m' := m) rfl).trans ((g1I ft_M_isOwn_103 (fr' := (106, [(0, .ref 120)], [.long 6451065, .long (m.2.1 120 9)])) (m' := m) rfl).trans ((g1I ft_M_isOwn_106 (fr' := (107, [(0, .ref 120)], [.int (lg_cmp (m.2.1 120 9) 6451065)])) (m' := m) rfl).trans ((b1I ft_M_isOwn_107 (p := lg_cmp (m.2.1 120 9) 6451065 = 0) (f1 := (275, [(0, .ref 120)], [])) (f2 := (110, [(0, .ref 120)], [])) rfl).trans (ite2 ((g1I ft_M_isOwn_275 (fr' := (276, [(0, .ref 120)], [.int 1])) (m' := m) rfl).trans ((g1I ft_M_isOwn_276 (fr' := (280, [(0, .ref 120)], [.int 1])) (m' := m) rfl).trans (r1I ft_M_isOwn_280 rfl))) ((g1I ft_M_isOwn_110 (fr' := (111, [(0, .ref 120)], [.ref 120])) (m' := m) rfl).trans ((g1I ft_M_isOwn_111 (fr' := (114, [(0, .ref 120)], [.long (m.2.1 120 9)])) (m' := m) rfl).trans ((g1I ft_M_isOwn_114 (fr' := (117, [(0, .ref 120)], [.long 1634889075, .long (m.2.1 120 9)])) (m' := m) rfl).trans ((g1I ft_M_isOwn_117 (fr' := (118, [(0, .ref 120)], [.int (lg_cmp (m.2.1 120 9) 1634889075)])) (m' := m) rfl).trans ((b1I ft_M_isOwn_118 (p := lg_cmp (m.2.1 120 9) 1634889075 = 0) (f1 := (275, [(0, .ref 120)], [])) (f2 := (121, [(0, .ref 120)], [])) rfl).trans (ite2 ((g1I ft_M_isOwn_275 (fr' := (276, [(0, .ref 120)], [.int 1])) (m' := m) rfl).trans ((g1I ft_M_isOwn_276 (fr' := (280, [(0, .ref 120)], [.int 1])) (m' := m) rfl).trans (r1I ft_M_isOwn_280 rfl))) ((g1I ft_M_isOwn_121 (fr' := (122, [(0, .ref 120)], [.ref 120])) (m' := m) rfl).trans ((g1I ft_M_isOwn_122 (fr' := (125, [(0, .ref 120)], [.long (m.2.1 120 9)])) (m' := m) rfl).trans ((g1I ft_M_isOwn_125 (fr' := (128, [(0, .ref 120)], [.long 448546566771, .long (m.2.1 120 9)])) (m' := m) rfl).trans ((g1I ft_M_isOwn_128 (fr' := (129, [(0, .ref 120)], [.int (lg_cmp (m.2.1 120 9) 448546566771)])) (m' := m) rfl).trans ((b1I ft_M_isOwn_129 (p := lg_cmp (m.2.1 120 9) 448546566771 = 0) (f1 := (275, [(0, .ref 120)], [])) (f2 := (132, [(0, .ref 120)], [])) rfl).trans (ite2 ((g1I ft_M_isOwn_275 (fr' := (276, [(0, .ref 120)], [.int 1])) (m' := m) rfl).trans ((g1I ft_M_isOwn_276 (fr' := (280, [(0, .ref 120)], [.int 1])) (m' := m) rfl).trans (r1I ft_M_isOwn_280 rfl))) ((g1I ft_M_isOwn_132 (fr' := (133, [(0, .ref 120)], [.ref 120])) (m' := m) rfl).trans ((g1I ft_M_isOwn_133 (fr' := (136, [(0, .ref 120)], [.long (m.2.1 120 9)])) (m' := m) rfl).trans ((g1I ft_M_isOwn_136 (fr' := (139, [(0, .ref 120)], [.long 448545973363, .long (m.2.1 120 9)])) (m' := m) rfl).trans ((g1I ft_M_isOwn_139 (fr' := (140, [(0, .ref 120)], [.int (lg_cmp (m.2.1 120 9) 448545973363)])) (m' := m) rfl).trans ((b1I ft_M_isOwn_140 (p := lg_cmp (m.2.1 120 9) 448545973363 = 0) (f1 := (275, [(0, .ref 120)], [])) (f2 := (143, [(0, .ref 120)], [])) rfl).trans (ite2 ((g1I ft_M_isOwn_275 (fr' := (276, [(0, .ref 120)], [.int 1])) (m' := m) rfl).trans ((g1I ft_M_isOwn_276 (fr' := (280, [(0, .ref 120)], [.int 1])) (m' := m) rfl).trans (r1I ft_M_isOwn_280 rfl))) ((g1I ft_M_isOwn_143 (fr' := (144, [(0, .ref 120)], [.ref 120])) (m' := m) rfl).trans ((g1I ft_M_isOwn_144 (fr' := (147, [(0, .ref 120)], [.long (m.2.1 120 9)])) (m' := m) rfl).trans ((g1I ft_M_isOwn_147 (fr' := (150, [(0, .ref 120)], [.long 2003398244, .long (m.2.1 120 9)])) (m' := m) rfl).trans ((g1I ft_M_isOwn_150 (fr' := (151, [(0, .ref 120)], [.int (lg_cmp (m.2.1 120 9) 2003398244)])) (m' := m) rfl).trans ((b1I ft_M_isOwn_151 (p := lg_cmp (m.2.1 120 9) 2003398244 = 0) (f1 := (275, [(0, .ref 120)], [])) (f2 := (154, [(0, .ref 120)], [])) rfl).trans (ite2 ((g1I ft_M_isOwn_275 (fr' := (276, [(0, .ref 120)], [.int 1])) (m' := m) rfl).trans ((g1I ft_M_isOwn_276 (fr' := (280, [(0, .ref 120)], [.int 1])) (m' := m) rfl).trans (r1I ft_M_isOwn_280 rfl))) ((g1I ft_M_isOwn_154 (fr' := (155, [(0, .ref 120)], [.ref 120])) (m' := m) rfl).trans ((g1I ft_M_isOwn_155 (fr' := (158, [(0, .ref 120)], [.long (m.2.1 120 9)])) (m' := m) rfl).trans ((g1I ft_M_isOwn_158 (fr' := (161, [(0, .ref 120)], [.long 1818846836, .long (m.2.1 120 9)])) (m' := m) rfl).trans ((g1I ft_M_isOwn_161 (fr' := (162, [(0, .ref 120)], [.int (lg_cmp (m.2.1 120 9) 1818846836)])) (m' := m) rfl).trans ((b1I ft_M_isOwn_162 (p := lg_cmp (m.2.1 120 9) 1818846836 = 0) (f1 := (275, [(0, .ref 120)], [])) (f2 := (165, [(0, .ref 120)], [])) rfl).trans (ite2 ((g1I ft_M_isOwn_275 (fr' := (276, [(0, .ref 120)], [.int 1])) (m' := m) rfl).trans ((g1I ft_M_isOwn_276 (fr' := (280, [(0, .ref 120)], [.int 1])) (m' := m) rfl).trans (r1I ft_M_isOwn_280 rfl))) ((g1I ft_M_isOwn_165 (fr' := (166, [(0, .ref 120)], [.ref 120])) (m' := m) rfl).trans ((g1I ft_M_isOwn_166 (fr' := (169, [(0, .ref 120)], [.long (m.2.1 120 9)])) (m' := m) rfl).trans ((g1I ft_M_isOwn_169 (fr' := (172, [(0, .ref 120)], [.long 1735750516, .long (m.2.1 120 9)])) (m' := m) rfl).trans ((g1I ft_M_isOwn_172 (fr' := (173, [(0, .ref 120)], [.int (lg_cmp (m.2.1 120 9) 1735750516)])) (m' := m) rfl).trans ((b1I ft_M_isOwn_173 (p := lg_cmp (m.2.1 120 9) 1735750516 = 0) (f1 := (275, [(0, .ref 120)], [])) (f2 := (176, [(0, .ref 120)], [])) rfl).trans (ite2 ((g1I ft_M_isOwn_275 (fr' := (276, [(0, .ref 120)], [.int 1])) (m' := m) rfl).trans ((g1I ft_M_isOwn_276 (fr' := (280, [(0, .ref 120)], [.int 1])) (m' := m) rfl).trans (r1I ft_M_isOwn_280 rfl))) ((g1I ft_M_isOwn_176 (fr' := (177, [(0, .ref 120)], [.ref 120])) (m' := m) rfl).trans ((g1I ft_M_isOwn_177 (fr' := (180, [(0, .ref 120)], [.long (m.2.1 120 9)])) (m' := m) rfl).trans ((g1I ft_M_isOwn_180 (fr' := (183, [(0, .ref 120)], [.long 1685217655, .long (m.2.1 120 9)])) (m' := m) rfl).trans ((g1I ft_M_isOwn_183 (fr' := (184, [(0, .ref 120)], [.int (lg_cmp (m.2.1 120 9) 1685217655)])) (m' := m) rfl).trans ((b1I ft_M_isOwn_184 (p := lg_cmp (m.2.1 120 9) 1685217655 = 0) (f1 := (275, [(0, .ref 120)], [])) (f2 := (187, [(0, .ref 120)], [])) rfl).trans (ite2 ((g1I ft_M_isOwn_275 (fr' := (276, [(0, .ref 120)], [.int 1])) (m' := m) rfl).trans ((g1I ft_M_isOwn_276 (fr' := (280, [(0, .ref 120)], [.int 1])) (m' := m) rfl).trans (r1I ft_M_isOwn_280 rfl))) ((g1I ft_M_isOwn_187 (fr' := (188, [(0, .ref 120)], [.ref 120])) (m' := m) rfl).trans ((g1I ft_M_isOwn_188 (fr' := (191, [(0, .ref 120)], [.long (m.2.1 120 9)])) (m' := m) rfl).trans ((g1I ft_M_isOwn_191 (fr' := (194, [(0, .ref 120)], [.long 1752135026, .long (m.2.1 120 9)])) (m' := m) rfl).trans ((g1I ft_M_isOwn_194 (fr' := (195, [(0, .ref 120)], [.int (lg_cmp (m.2.1 120 9) 1752135026)])) (m' := m) rfl).trans ((b1I ft_M_isOwn_195 (p := lg_cmp (m.2.1 120 9) 1752135026 = 0) (f1 := (275, [(0, .ref 120)], [])) (f2 := (198, [(0, .ref 120)], [])) rfl).trans (ite2 ((g1I ft_M_isOwn_275 (fr' := (276, [(0, .ref 120)], [.int 1])) (m' := m) rfl).trans ((g1I ft_M_isOwn_276 (fr' := (280, [(0, .ref 120)], [.int 1])) (m' := m) rfl).trans (r1I ft_M_isOwn_280 rfl))) ((g1I ft_M_isOwn_198 (fr' := (199, [(0, .ref 120)], [.ref 120])) (m' := m) rfl).trans ((g1I ft_M_isOwn_199 (fr' := (202, [(0, .ref 120)], [.long (m.2.1 120 9)])) (m' := m) rfl).trans ((g1I ft_M_isOwn_202 (fr' := (205, [(0, .ref 120)], [.long 6578553, .long (m.2.1 120 9)])) (m' := m) rfl).trans ((g1I ft_M_isOwn_205 (fr' := (206, [(0, .ref 120)], [.int (lg_cmp (m.2.1 120 9) 6578553)])) (m' := m) rfl).trans ((b1I ft_M_isOwn_206 (p := lg_cmp (m.2.1 120 9) 6578553 = 0) (f1 := (275, [(0, .ref 120)], [])) (f2 := (209, [(0, .ref 120)], [])) rfl).trans (ite2 ((g1I ft_M_isOwn_275 (fr' := (276, [(0, .ref 120)], [.int 1])) (m' := m) rfl).trans ((g1I ft_M_isOwn_276 (fr' := (280, [(0, .ref 120)], [.int 1])) (m' := m) rfl).trans (r1I ft_M_isOwn_280 rfl))) ((g1I ft_M_isOwn_209 (fr' := (210, [(0, .ref 120)], [.ref 120])) (m' := m) rfl).trans ((g1I ft_M_isOwn_210 (fr' := (213, [(0, .ref 120)], [.long (m.2.1 120 9)])) (m' := m) rfl).trans ((g1I ft_M_isOwn_213 (fr' := (216, [(0, .ref 120)], [.long 439956431717, .long (m.2.1 120 9)])) (m' := m) rfl).trans ((g1I ft_M_isOwn_216 (fr' := (217, [(0, .ref 120)], [.int (lg_cmp (m.2.1 120 9) 439956431717)])) (m' := m) rfl).trans ((b1I ft_M_isOwn_217 (p := lg_cmp (m.2.1 120 9) 439956431717 = 0) (f1 := (275, [(0, .ref 120)], [])) (f2 := (220, [(0, .ref 120)], [])) rfl).trans (ite2 ((g1I ft_M_isOwn_275 (fr' := (276, [(0, .ref 120)], [.int 1])) (m' := m) rfl).trans ((g1I ft_M_isOwn_276 (fr' := (280, [(0, .ref 120)], [.int 1])) (m' := m) rfl).trans (r1I ft_M_isOwn_280 rfl))) ((g1I ft_M_isOwn_220 (fr' := (221, [(0, .ref 120)], [.ref 120])) (m' := m) rfl).trans ((g1I ft_M_isOwn_221 (fr' := (224, [(0, .ref 120)], [.long (m.2.1 120 9)])) (m' := m) rfl).trans ((g1I ft_M_isOwn_224 (fr' := (227, [(0, .ref 120)], [.long 1852137842, .long (m.2.1 120 9)])) (m' := m) rfl).trans ((g1I ft_M_isOwn_227 (fr' := (228, [(0, .ref 120)], [.int (lg_cmp (m.2.1 120 9) 1852137842)])) (m' := m) rfl).trans ((b1I ft_M_isOwn_228 (p := lg_cmp (m.2.1 120 9) 1852137842 = 0) (f1 := (275, [(0, .ref 120)], [])) (f2 := (231, [(0, .ref 120)], [])) rfl).trans (ite2 ((g1I ft_M_isOwn_275 (fr' := (276, [(0, .ref 120)], [.int 1])) (m' := m) rfl).trans ((g1I ft_M_isOwn_276 (fr' := (280, [(0, .ref 120)], [.int 1])) (m' := m) rfl).trans (r1I ft_M_isOwn_280 rfl))) ((g1I ft_M_isOwn_231 (fr' := (232, [(0, .ref 120)], [.ref 120])) (m' := m) rfl).trans ((g1I ft_M_isOwn_232 (fr' := (235, [(0, .ref 120)], [.long (m.2.1 120 9)])) (m' := m) rfl).trans ((g1I ft_M_isOwn_235 (fr' := (238, [(0, .ref 120)], [.long 6383461, .long (m.2.1 120 9)])) (m' := m) rfl).trans ((g1I ft_M_isOwn_238 (fr' := (239, [(0, .ref 120)], [.int (lg_cmp (m.2.1 120 9) 6383461)])) (m' := m) rfl).trans ((b1I ft_M_isOwn_239 (p := lg_cmp (m.2.1 120 9) 6383461 = 0) (f1 := (275, [(0, .ref 120)], [])) (f2 := (242, [(0, .ref 120)], [])) rfl).trans (ite2 ((g1I ft_M_isOwn_275 (fr' := (276, [(0, .ref 120)], [.int 1])) (m' := m) rfl).trans ((g1I ft_M_isOwn_276 (fr' := (280, [(0, .ref 120)], [.int 1])) (m' := m) rfl).trans (r1I ft_M_isOwn_280 rfl))) ((g1I ft_M_isOwn_242 (fr' := (243, [(0, .ref 120)], [.ref 120])) (m' := m) rfl).trans ((g1I ft_M_isOwn_243 (fr' := (246, [(0, .ref 120)], [.long (m.2.1 120 9)])) (m' := m) rfl).trans ((g1I ft_M_isOwn_246 (fr' := (249, [(0, .ref 120)], [.long 6385252, .long (m.2.1 120 9)])) (m' := m) rfl).trans ((g1I ft_M_isOwn_249 (fr' := (250, [(0, .ref 120)], [.int (lg_cmp (m.2.1 120 9) 6385252)])) (m' := m) rfl).trans ((b1I ft_M_isOwn_250 (p := lg_cmp (m.2.1 120 9) 6385252 = 0) (f1 := (275, [(0, .ref 120)], [])) (f2 := (253, [(0, .ref 120)], [])) rfl).trans (ite2 ((g1I ft_M_isOwn_275 (fr' := (276, [(0, .ref 120)], [.int 1])) (m' := m) rfl).trans ((g1I ft_M_isOwn_276 (fr' := (280, [(0, .ref 120)], [.int 1])) (m' := m) rfl).trans (r1I ft_M_isOwn_280 rfl))) ((g1I ft_M_isOwn_253 (fr' := (254, [(0, .ref 120)], [.ref 120])) (m' := m) rfl).trans ((g1I ft_M_isOwn_254 (fr' := (257, [(0, .ref 120)], [.long (m.2.1 120 9)])) (m' := m) rfl).trans ((g1I ft_M_isOwn_257 (fr' := (260, [(0, .ref 120)], [.long 28530, .long (m.2.1 120 9)])) (m' := m) rfl).trans ((g1I ft_M_isOwn_260 (fr' := (261, [(0, .ref 120)], [.int (lg_cmp (m.2.1 120 9) 28530)])) (m' := m) rfl).trans ((b1I ft_M_isOwn_261 (p := lg_cmp (m.2.1 120 9) 28530 = 0) (f1 := (275, [(0, .ref 120)], [])) (f2 := (264, [(0, .ref 120)], [])) rfl).trans (ite2 ((g1I ft_M_isOwn_275 (fr' := (276, [(0, .ref 120)], [.int 1])) (m' := m) rfl).trans ((g1I ft_M_isOwn_276 (fr' := (280, [(0, .ref 120)], [.int 1])) (m' := m) rfl).trans (r1I ft_M_isOwn_280 rfl))) ((g1I ft_M_isOwn_264 (fr' := (265, [(0, .ref 120)], [.ref 120])) (m' := m) rfl).trans ((g1I ft_M_isOwn_265 (fr' := (268, [(0, .ref 120)], [.long (m.2.1 120 9)])) (m' := m) rfl).trans ((g1I ft_M_isOwn_268 (fr' := (271, [(0, .ref 120)], [.long 7237492, .long (m.2.1 120 9)])) (m' := m) rfl).trans ((g1I ft_M_isOwn_271 (fr' := (272, [(0, .ref 120)], [.int (lg_cmp (m.2.1 120 9) 7237492)])) (m' := m) rfl).trans ((b1I ft_M_isOwn_272 (p := ¬ lg_cmp (m.2.1 120 9) 7237492 = 0) (f1 := (279, [(0, .ref 120)], [])) (f2 := (275, [(0, .ref 120)], [])) rfl).trans (ite2 ((g1I ft_M_isOwn_279 (fr' := (280, [(0, .ref 120)], [.int 0])) (m' := m) rfl).trans (r1I ft_M_isOwn_280 rfl)) ((g1I ft_M_isOwn_275 (fr' := (276, [(0, .ref 120)], [.int 1])) (m' := m) rfl).trans ((g1I ft_M_isOwn_276 (fr' := (280, [(0, .ref 120)], [.int 1])) (m' := m) rfl).trans (r1I ft_M_isOwn_280 rfl)))))))))))))))))))))))))))))))))))))))))))))))))))))))))))))))))))))))))))))))))))))))))))))))))))))))))))))))))))))))))))))))))))))))))))))))))))))))))
theorem ft_M_wrong_0 : aFetch kc_M_wrong 0 = some (0, .aload_n 0, 1, [], [], [], []) := rfl
theorem ft_M_wrong_1 : aFetch kc_M_wrong 1 = some (1, .getfield 227, 3, [10, 2, 0, 0], [], [], []) := rfl
theorem ft_M_wrong_4 : aFetch kc_M_wrong 4 = some (4, .ifCond .le 4, 3, [], [], [], [(8, [])]) := rfl
theorem ft_M_wrong_7 : aFetch kc_M_wrong 7 = some (7, .return_, 1, [], [], [], []) := rfl
theorem ft_M_wrong_8 : aFetch kc_M_wrong 8 = some (8, .aload_n 0, 1, [], [], [], []) := rfl
theorem ft_M_wrong_9 : aFetch kc_M_wrong 9 = some (9, .aload_n 0, 1, [], [], [], []) := rfl
theorem ft_M_wrong_10 : aFetch kc_M_wrong 10 = some (10, .getfield 214, 3, [10, 6, 0, 0], [], [], []) := rfl
theorem ft_M_wrong_13 : aFetch kc_M_wrong 13 = some (13, .iconst 3, 1, [], [.int 3], [], []) := rfl
theorem ft_M_wrong_14 : aFetch kc_M_wrong 14 = some (14, .if_icmp .ne 7, 3, [], [], [], [(21, [])]) := rfl
theorem ft_M_wrong_17 : aFetch kc_M_wrong 17 = some (17, .iconst 1, 1, [], [.int 1], [], []) := rfl
theorem ft_M_wrong_18 : aFetch kc_M_wrong 18 = some (18, .goto 4, 3, [], [], [], [(22, [])]) := rfl
theorem ft_M_wrong_21 : aFetch kc_M_wrong 21 = some (21, .iload_n 1, 1, [], [], [], []) := rfl
theorem ft_M_wrong_22 : aFetch kc_M_wrong 22 = some (22, .putfield 227, 3, [10, 2, 0, 0], [], [], []) := rfl
theorem ft_M_wrong_25 : aFetch kc_M_wrong 25 = some (25, .aload_n 0, 1, [], [], [], []) := rfl
theorem ft_M_wrong_26 : aFetch kc_M_wrong 26 = some (26, .aload_n 0, 1, [], [], [], []) := rfl
theorem ft_M_wrong_27 : aFetch kc_M_wrong 27 = some (27, .getfield 204, 3, [10, 7, 0, 0], [], [], []) := rfl
theorem ft_M_wrong_30 : aFetch kc_M_wrong 30 = some (30, .putfield 13, 3, [10, 3, 0, 0], [], [], []) := rfl
theorem ft_M_wrong_33 : aFetch kc_M_wrong 33 = some (33, .return_, 1, [], [], [], []) := rfl
set_option maxHeartbeats 4000000 in
set_option maxRecDepth 100000 in
theorem q_M_wrong (d : Nat) (x1 : Int32) (m : aMem) : f_M_wrong (d + 1) x1 m = (if m.1 120 2 ≤ 0 then (if ¬ m.1 120 6 = 3 then (some (aUI (aUI m 120 2 x1) 120 3 (m.1 120 7))) else (some (aUI (aUI m 120 2 1) 120 3 (m.1 120 7)))) else (some m)) := (show f_M_wrong (d + 1) x1 m = eV d kc_M_wrong (0, [(0, .ref 120), (1, .int x1)], []) m from rfl).trans ((g1V ft_M_wrong_0 (fr' := (1, [(0, .ref 120), (1, .int x1)], [.ref 120])) (m' := m) rfl).trans ((g1V ft_M_wrong_1 (fr' := (4, [(0, .ref 120), (1, .int x1)], [.int (m.1 120 2)])) (m' := m) rfl).trans ((b1V ft_M_wrong_4 (p := m.1 120 2 ≤ 0) (f1 := (8, [(0, .ref 120), (1, .int x1)], [])) (f2 := (7, [(0, .ref 120), (1, .int x1)], [])) rfl).trans (ite2 ((g1V ft_M_wrong_8 (fr' := (9, [(0, .ref 120), (1, .int x1)], [.ref 120])) (m' := m) rfl).trans ((g1V ft_M_wrong_9 (fr' := (10, [(0, .ref 120), (1, .int x1)], [.ref 120, .ref 120])) (m' := m) rfl).trans ((g1V ft_M_wrong_10 (fr' := (13, [(0, .ref 120), (1, .int x1)], [.int (m.1 120 6), .ref 120])) (m' := m) rfl).trans ((g1V ft_M_wrong_13 (fr' := (14, [(0, .ref 120), (1, .int x1)], [.int 3, .int (m.1 120 6), .ref 120])) (m' := m) rfl).trans ((b1V ft_M_wrong_14 (p := ¬ m.1 120 6 = 3) (f1 := (21, [(0, .ref 120), (1, .int x1)], [.ref 120])) (f2 := (17, [(0, .ref 120), (1, .int x1)], [.ref 120])) rfl).trans (ite2 ((g1V ft_M_wrong_21 (fr' := (22, [(0, .ref 120), (1, .int x1)], [.int x1, .ref 120])) (m' := m) rfl).trans ((g1V ft_M_wrong_22 (fr' := (25, [(0, .ref 120), (1, .int x1)], [])) (m' := (aUI m 120 2 x1)) rfl).trans ((g1V ft_M_wrong_25 (fr' := (26, [(0, .ref 120), (1, .int x1)], [.ref 120])) (m' := (aUI m 120 2 x1)) rfl).trans ((g1V ft_M_wrong_26 (fr' := (27, [(0, .ref 120), (1, .int x1)], [.ref 120, .ref 120])) (m' := (aUI m 120 2 x1)) rfl).trans ((g1V ft_M_wrong_27 (fr' := (30, [(0, .ref 120), (1, .int x1)], [.int (m.1 120 7), .ref 120])) (m' := (aUI m 120 2 x1)) rfl).trans ((g1V ft_M_wrong_30 (fr' := (33, [(0, .ref 120), (1, .int x1)], [])) (m' := (aUI (aUI m 120 2 x1) 120 3 (m.1 120 7))) rfl).trans (r1V ft_M_wrong_33 rfl))))))) ((g1V ft_M_wrong_17 (fr' := (18, [(0, .ref 120), (1, .int x1)], [.int 1, .ref 120])) (m' := m) rfl).trans ((g1V ft_M_wrong_18 (fr' := (22, [(0, .ref 120), (1, .int x1)], [.int 1, .ref 120])) (m' := m) rfl).trans ((g1V ft_M_wrong_22 (fr' := (25, [(0, .ref 120), (1, .int x1)], [])) (m' := (aUI m 120 2 1)) rfl).trans ((g1V ft_M_wrong_25 (fr' := (26, [(0, .ref 120), (1, .int x1)], [.ref 120])) (m' := (aUI m 120 2 1)) rfl).trans ((g1V ft_M_wrong_26 (fr' := (27, [(0, .ref 120), (1, .int x1)], [.ref 120, .ref 120])) (m' := (aUI m 120 2 1)) rfl).trans ((g1V ft_M_wrong_27 (fr' := (30, [(0, .ref 120), (1, .int x1)], [.int (m.1 120 7), .ref 120])) (m' := (aUI m 120 2 1)) rfl).trans ((g1V ft_M_wrong_30 (fr' := (33, [(0, .ref 120), (1, .int x1)], [])) (m' := (aUI (aUI m 120 2 1) 120 3 (m.1 120 7))) rfl).trans (r1V ft_M_wrong_33 rfl)))))))))))))) (r1V ft_M_wrong_7 rfl)))))
theorem ft_M_find_0 : aFetch kc_M_find 0 = some (0, .iconst (-1), 1, [], [.int (-1)], [], []) := rfl
theorem ft_M_find_1 : aFetch kc_M_find 1 = some (1, .istore_n 3, 1, [], [], [], []) := rfl
theorem ft_M_find_2 : aFetch kc_M_find 2 = some (2, .iconst 0, 1, [], [.int 0], [], []) := rfl
theorem ft_M_find_3 : aFetch kc_M_find 3 = some (3, .istore 4, 2, [], [], [0, 1, 2, 3, 4], []) := rfl
theorem ft_M_find_5 : aFetch kc_M_find 5 = some (5, .iload 4, 2, [], [], [], []) := rfl
theorem ft_M_find_7 : aFetch kc_M_find 7 = some (7, .iload_n 2, 1, [], [], [], []) := rfl
theorem ft_M_find_8 : aFetch kc_M_find 8 = some (8, .if_icmp .ge 33, 3, [], [], [], [(41, [])]) := rfl
theorem ft_M_find_11 : aFetch kc_M_find 11 = some (11, .aload_n 0, 1, [], [], [], []) := rfl
theorem ft_M_find_12 : aFetch kc_M_find 12 = some (12, .getfield 17, 3, [10, 10, 3, 1], [], [], []) := rfl
theorem ft_M_find_15 : aFetch kc_M_find 15 = some (15, .iload_n 1, 1, [], [], [], []) := rfl
theorem ft_M_find_16 : aFetch kc_M_find 16 = some (16, .iload 4, 2, [], [], [], []) := rfl
theorem ft_M_find_18 : aFetch kc_M_find 18 = some (18, .iadd, 1, [], [], [], []) := rfl
theorem ft_M_find_19 : aFetch kc_M_find 19 = some (19, .laload, 1, [4], [], [], []) := rfl
theorem ft_M_find_20 : aFetch kc_M_find 20 = some (20, .aload_n 0, 1, [], [], [], []) := rfl
theorem ft_M_find_21 : aFetch kc_M_find 21 = some (21, .getfield 207, 3, [10, 9, 1, 0], [], [], []) := rfl
theorem ft_M_find_24 : aFetch kc_M_find 24 = some (24, .lcmp, 1, [], [], [], []) := rfl
theorem ft_M_find_25 : aFetch kc_M_find 25 = some (25, .ifCond .ne 8, 3, [], [], [], [(33, [])]) := rfl
theorem ft_M_find_28 : aFetch kc_M_find 28 = some (28, .iload 4, 2, [], [], [], []) := rfl
theorem ft_M_find_30 : aFetch kc_M_find 30 = some (30, .goto 4, 3, [], [], [], [(34, [])]) := rfl
theorem ft_M_find_33 : aFetch kc_M_find 33 = some (33, .iload_n 3, 1, [], [], [], []) := rfl
theorem ft_M_find_34 : aFetch kc_M_find 34 = some (34, .istore_n 3, 1, [], [], [], []) := rfl
theorem ft_M_find_35 : aFetch kc_M_find 35 = some (35, .iinc 4 1, 3, [], [.int 1], [], []) := rfl
theorem ft_M_find_38 : aFetch kc_M_find 38 = some (38, .goto (-33), 3, [], [], [], [(5, [0, 1, 2, 3, 4])]) := rfl
theorem ft_M_find_41 : aFetch kc_M_find 41 = some (41, .iload_n 3, 1, [], [], [], []) := rfl
theorem ft_M_find_42 : aFetch kc_M_find 42 = some (42, .ireturn, 1, [0], [], [], []) := rfl
set_option maxHeartbeats 4000000 in
set_option maxRecDepth 100000 in
theorem q_M_find (d : Nat) (x1 : Int32) (x2 : Int32) (m : aMem) : f_M_find (d + 1) x1 x2 m = (b_M_find_5 d x1 x2 (-1) 0 m) := (show f_M_find (d + 1) x1 x2 m = eI d kc_M_find (0, [(0, .ref 120), (1, .int x1), (2, .int x2)], []) m from rfl).trans ((g1I ft_M_find_0 (fr' := (1, [(0, .ref 120), (1, .int x1), (2, .int x2)], [.int (-1)])) (m' := m) rfl).trans ((g1I ft_M_find_1 (fr' := (2, [(3, .int (-1)), (0, .ref 120), (1, .int x1), (2, .int x2)], [])) (m' := m) rfl).trans ((g1I ft_M_find_2 (fr' := (3, [(3, .int (-1)), (0, .ref 120), (1, .int x1), (2, .int x2)], [.int 0])) (m' := m) rfl).trans (g1I ft_M_find_3 (fr' := (5, [(0, .ref 120), (1, .int x1), (2, .int x2), (3, .int (-1)), (4, .int 0)], [])) (m' := m) rfl))))
set_option maxHeartbeats 4000000 in
set_option maxRecDepth 100000 in
theorem q_M_find_5 (d : Nat) (x1 : Int32) (x2 : Int32) (x3 : Int32) (x4 : Int32) (m : aMem) : b_M_find_5 d x1 x2 x3 x4 m = (if x2 ≤ x4 then (some (x3, m)) else (grd (inb (x1 + x4) 16) (if ¬ lg_cmp (m.2.1 122 ((x1 + x4 : Int32).toNatClampNeg)) (m.2.1 120 9) = 0 then (b_M_find_5 d x1 x2 x3 (x4 + 1) m) else (b_M_find_5 d x1 x2 x4 (x4 + 1) m)))) := ((g1I ft_M_find_5 (fr' := (7, [(0, .ref 120), (1, .int x1), (2, .int x2), (3, .int x3), (4, .int x4)], [.int x4])) (m' := m) rfl).trans ((g1I ft_M_find_7 (fr' := (8, [(0, .ref 120), (1, .int x1), (2, .int x2), (3, .int x3), (4, .int x4)], [.int x2, .int x4])) (m' := m) rfl).trans ((b1I ft_M_find_8 (p := x2 ≤ x4) (f1 := (41, [(0, .ref 120), (1, .int x1), (2, .int x2), (3, .int x3), (4, .int x4)], [])) (f2 := (11, [(0, .ref 120), (1, .int x1), (2, .int x2), (3, .int x3), (4, .int x4)], [])) rfl).trans (ite2 ((g1I ft_M_find_41 (fr' := (42, [(0, .ref 120), (1, .int x1), (2, .int x2), (3, .int x3), (4, .int x4)], [.int x3])) (m' := m) rfl).trans (r1I ft_M_find_42 rfl)) ((g1I ft_M_find_11 (fr' := (12, [(0, .ref 120), (1, .int x1), (2, .int x2), (3, .int x3), (4, .int x4)], [.ref 120])) (m' := m) rfl).trans ((g1I ft_M_find_12 (fr' := (15, [(0, .ref 120), (1, .int x1), (2, .int x2), (3, .int x3), (4, .int x4)], [.ref 122])) (m' := m) rfl).trans ((g1I ft_M_find_15 (fr' := (16, [(0, .ref 120), (1, .int x1), (2, .int x2), (3, .int x3), (4, .int x4)], [.int x1, .ref 122])) (m' := m) rfl).trans ((g1I ft_M_find_16 (fr' := (18, [(0, .ref 120), (1, .int x1), (2, .int x2), (3, .int x3), (4, .int x4)], [.int x4, .int x1, .ref 122])) (m' := m) rfl).trans ((g1I ft_M_find_18 (fr' := (19, [(0, .ref 120), (1, .int x1), (2, .int x2), (3, .int x3), (4, .int x4)], [.int (x1 + x4), .ref 122])) (m' := m) rfl).trans ((g1Ig ft_M_find_19 (g := inb (x1 + x4) 16) (fr' := (20, [(0, .ref 120), (1, .int x1), (2, .int x2), (3, .int x3), (4, .int x4)], [.long (m.2.1 122 ((x1 + x4 : Int32).toNatClampNeg))])) (m' := m) rfl).trans (grd2 ((g1I ft_M_find_20 (fr' := (21, [(0, .ref 120), (1, .int x1), (2, .int x2), (3, .int x3), (4, .int x4)], [.ref 120, .long (m.2.1 122 ((x1 + x4 : Int32).toNatClampNeg))])) (m' := m) rfl).trans ((g1I ft_M_find_21 (fr' := (24, [(0, .ref 120), (1, .int x1), (2, .int x2), (3, .int x3), (4, .int x4)], [.long (m.2.1 120 9), .long (m.2.1 122 ((x1 + x4 : Int32).toNatClampNeg))])) (m' := m) rfl).trans ((g1I ft_M_find_24 (fr' := (25, [(0, .ref 120), (1, .int x1), (2, .int x2), (3, .int x3), (4, .int x4)], [.int (lg_cmp (m.2.1 122 ((x1 + x4 : Int32).toNatClampNeg)) (m.2.1 120 9))])) (m' := m) rfl).trans ((b1I ft_M_find_25 (p := ¬ lg_cmp (m.2.1 122 ((x1 + x4 : Int32).toNatClampNeg)) (m.2.1 120 9) = 0) (f1 := (33, [(0, .ref 120), (1, .int x1), (2, .int x2), (3, .int x3), (4, .int x4)], [])) (f2 := (28, [(0, .ref 120), (1, .int x1), (2, .int x2), (3, .int x3), (4, .int x4)], [])) rfl).trans (ite2 ((g1I ft_M_find_33 (fr' := (34, [(0, .ref 120), (1, .int x1), (2, .int x2), (3, .int x3), (4, .int x4)], [.int x3])) (m' := m) rfl).trans ((g1I ft_M_find_34 (fr' := (35, [(3, .int x3), (0, .ref 120), (1, .int x1), (2, .int x2), (4, .int x4)], [])) (m' := m) rfl).trans ((g1I ft_M_find_35 (fr' := (38, [(4, .int (x4 + 1)), (3, .int x3), (0, .ref 120), (1, .int x1), (2, .int x2)], [])) (m' := m) rfl).trans (g1I ft_M_find_38 (fr' := (5, [(0, .ref 120), (1, .int x1), (2, .int x2), (3, .int x3), (4, .int (x4 + 1))], [])) (m' := m) rfl)))) ((g1I ft_M_find_28 (fr' := (30, [(0, .ref 120), (1, .int x1), (2, .int x2), (3, .int x3), (4, .int x4)], [.int x4])) (m' := m) rfl).trans ((g1I ft_M_find_30 (fr' := (34, [(0, .ref 120), (1, .int x1), (2, .int x2), (3, .int x3), (4, .int x4)], [.int x4])) (m' := m) rfl).trans ((g1I ft_M_find_34 (fr' := (35, [(3, .int x4), (0, .ref 120), (1, .int x1), (2, .int x2), (4, .int x4)], [])) (m' := m) rfl).trans ((g1I ft_M_find_35 (fr' := (38, [(4, .int (x4 + 1)), (3, .int x4), (0, .ref 120), (1, .int x1), (2, .int x2)], [])) (m' := m) rfl).trans (g1I ft_M_find_38 (fr' := (5, [(0, .ref 120), (1, .int x1), (2, .int x2), (3, .int x4), (4, .int (x4 + 1))], [])) (m' := m) rfl)))))))))))))))))))))
set_option maxRecDepth 100000 in
theorem ft_M_told_0 : aFetch kc_M_told 0 = some (0, .aload_n 0, 1, [], [], [], []) := rfl
set_option maxRecDepth 100000 in
theorem ft_M_told_1 : aFetch kc_M_told 1 = some (1, .lload_n 1, 1, [], [], [], []) := rfl
set_option maxRecDepth 100000 in
theorem ft_M_told_2 : aFetch kc_M_told 2 = some (2, .invokevirtual 294, 3, [174, 2, 0, 1, 10, 3], [], [], []) := rfl
set_option maxRecDepth 100000 in
theorem ft_M_told_5 : aFetch kc_M_told 5 = some (5, .aload_n 0, 1, [], [], [], []) := rfl
set_option maxRecDepth 100000 in
theorem ft_M_told_6 : aFetch kc_M_told 6 = some (6, .iload_n 3, 1, [], [], [], []) := rfl
set_option maxRecDepth 100000 in
theorem ft_M_told_7 : aFetch kc_M_told 7 = some (7, .iload 4, 2, [], [], [], []) := rfl
set_option maxRecDepth 100000 in
theorem ft_M_told_9 : aFetch kc_M_told 9 = some (9, .invokevirtual 298, 3, [175, 3, 1, 1, 10, 4], [], [], []) := rfl
set_option maxRecDepth 100000 in
theorem ft_M_told_12 : aFetch kc_M_told 12 = some (12, .ireturn, 1, [0], [], [], []) := rfl
set_option maxHeartbeats 4000000 in
set_option maxRecDepth 100000 in
theorem q_M_told (d : Nat) (w1 : Int64) (x3 : Int32) (x4 : Int32) (m : aMem) : f_M_told (d + 1) w1 x3 x4 m = ((f_M_want d w1 m).bind fun q1 => ((f_M_toldNumber d x3 x4 q1).bind fun q2 => (some (q2.1, q2.2)))) := (show f_M_told (d + 1) w1 x3 x4 m = eI d kc_M_told (0, [(0, .ref 120), (1, .long w1), (3, .int x3), (4, .int x4)], []) m from rfl).trans ((g1I ft_M_told_0 (fr' := (1, [(0, .ref 120), (1, .long w1), (3, .int x3), (4, .int x4)], [.ref 120])) (m' := m) rfl).trans ((g1I ft_M_told_1 (fr' := (2, [(0, .ref 120), (1, .long w1), (3, .int x3), (4, .int x4)], [.long w1, .ref 120])) (m' := m) rfl).trans ((cVI ft_M_told_2 (as := [.ref 120, .long w1]) (pc' := 5) (ls' := [(0, .ref 120), (1, .long w1), (3, .int x3), (4, .int x4)]) (st' := []) rfl).trans (bnd2 fun q1 => ((g1I ft_M_told_5 (fr' := (6, [(0, .ref 120), (1, .long w1), (3, .int x3), (4, .int x4)], [.ref 120])) (m' := q1) rfl).trans ((g1I ft_M_told_6 (fr' := (7, [(0, .ref 120), (1, .long w1), (3, .int x3), (4, .int x4)], [.int x3, .ref 120])) (m' := q1) rfl).trans ((g1I ft_M_told_7 (fr' := (9, [(0, .ref 120), (1, .long w1), (3, .int x3), (4, .int x4)], [.int x4, .int x3, .ref 120])) (m' := q1) rfl).trans ((cII ft_M_told_9 (as := [.ref 120, .int x3, .int x4]) (pc' := 12) (ls' := [(0, .ref 120), (1, .long w1), (3, .int x3), (4, .int x4)]) (st' := []) rfl).trans (bnd2 fun q2 => (r1I ft_M_told_12 rfl))))))))))
theorem ft_M_want_0 : aFetch kc_M_want 0 = some (0, .aload_n 0, 1, [], [], [], []) := rfl
theorem ft_M_want_1 : aFetch kc_M_want 1 = some (1, .getfield 227, 3, [10, 2, 0, 0], [], [], []) := rfl
theorem ft_M_want_4 : aFetch kc_M_want 4 = some (4, .ifCond .le 4, 3, [], [], [], [(8, [])]) := rfl
theorem ft_M_want_7 : aFetch kc_M_want 7 = some (7, .return_, 1, [], [], [], []) := rfl
theorem ft_M_want_8 : aFetch kc_M_want 8 = some (8, .aload_n 0, 1, [], [], [], []) := rfl
theorem ft_M_want_9 : aFetch kc_M_want 9 = some (9, .lload_n 1, 1, [], [], [], []) := rfl
theorem ft_M_want_10 : aFetch kc_M_want 10 = some (10, .invokevirtual 284, 3, [166, 2, 1, 1, 10, 3], [], [], []) := rfl
theorem ft_M_want_13 : aFetch kc_M_want 13 = some (13, .ifCond .ne 11, 3, [], [], [], [(24, [])]) := rfl
theorem ft_M_want_16 : aFetch kc_M_want 16 = some (16, .aload_n 0, 1, [], [], [], []) := rfl
theorem ft_M_want_17 : aFetch kc_M_want 17 = some (17, .iconst 2, 1, [], [.int 2], [], []) := rfl
theorem ft_M_want_18 : aFetch kc_M_want 18 = some (18, .invokevirtual 288, 3, [171, 2, 0, 1, 10, 2], [], [], []) := rfl
theorem ft_M_want_21 : aFetch kc_M_want 21 = some (21, .goto 7, 3, [], [], [], [(28, [])]) := rfl
theorem ft_M_want_24 : aFetch kc_M_want 24 = some (24, .aload_n 0, 1, [], [], [], []) := rfl
theorem ft_M_want_25 : aFetch kc_M_want 25 = some (25, .invokevirtual 291, 3, [160, 1, 0, 1, 10, 3], [], [], []) := rfl
theorem ft_M_want_28 : aFetch kc_M_want 28 = some (28, .return_, 1, [], [], [], []) := rfl
set_option maxHeartbeats 4000000 in
set_option maxRecDepth 100000 in
theorem q_M_want (d : Nat) (w1 : Int64) (m : aMem) : f_M_want (d + 1) w1 m = (if m.1 120 2 ≤ 0 then ((f_M_isWord d w1 m).bind fun q1 => (if ¬ q1.1 = 0 then ((f_M_token d q1.2).bind fun q2 => (some q2)) else ((f_M_wrong d 2 q1.2).bind fun q3 => (some q3)))) else (some m)) := (show f_M_want (d + 1) w1 m = eV d kc_M_want (0, [(0, .ref 120), (1, .long w1)], []) m from rfl).trans ((g1V ft_M_want_0 (fr' := (1, [(0, .ref 120), (1, .long w1)], [.ref 120])) (m' := m) rfl).trans ((g1V ft_M_want_1 (fr' := (4, [(0, .ref 120), (1, .long w1)], [.int (m.1 120 2)])) (m' := m) rfl).trans ((b1V ft_M_want_4 (p := m.1 120 2 ≤ 0) (f1 := (8, [(0, .ref 120), (1, .long w1)], [])) (f2 := (7, [(0, .ref 120), (1, .long w1)], [])) rfl).trans (ite2 ((g1V ft_M_want_8 (fr' := (9, [(0, .ref 120), (1, .long w1)], [.ref 120])) (m' := m) rfl).trans ((g1V ft_M_want_9 (fr' := (10, [(0, .ref 120), (1, .long w1)], [.long w1, .ref 120])) (m' := m) rfl).trans ((cIV ft_M_want_10 (as := [.ref 120, .long w1]) (pc' := 13) (ls' := [(0, .ref 120), (1, .long w1)]) (st' := []) rfl).trans (bnd2 fun q1 => ((b1V ft_M_want_13 (p := ¬ q1.1 = 0) (f1 := (24, [(0, .ref 120), (1, .long w1)], [])) (f2 := (16, [(0, .ref 120), (1, .long w1)], [])) rfl).trans (ite2 ((g1V ft_M_want_24 (fr' := (25, [(0, .ref 120), (1, .long w1)], [.ref 120])) (m' := q1.2) rfl).trans ((cVV ft_M_want_25 (as := [.ref 120]) (pc' := 28) (ls' := [(0, .ref 120), (1, .long w1)]) (st' := []) rfl).trans (bnd2 fun q2 => (r1V ft_M_want_28 rfl)))) ((g1V ft_M_want_16 (fr' := (17, [(0, .ref 120), (1, .long w1)], [.ref 120])) (m' := q1.2) rfl).trans ((g1V ft_M_want_17 (fr' := (18, [(0, .ref 120), (1, .long w1)], [.int 2, .ref 120])) (m' := q1.2) rfl).trans ((cVV ft_M_want_18 (as := [.ref 120, .int 2]) (pc' := 21) (ls' := [(0, .ref 120), (1, .long w1)]) (st' := []) rfl).trans (bnd2 fun q3 => ((g1V ft_M_want_21 (fr' := (28, [(0, .ref 120), (1, .long w1)], [])) (m' := q3) rfl).trans (r1V ft_M_want_28 rfl)))))))))))) (r1V ft_M_want_7 rfl)))))
set_option maxRecDepth 100000 in
theorem ft_M_toldNumber_0 : aFetch kc_M_toldNumber 0 = some (0, .aload_n 0, 1, [], [], [], []) := rfl
set_option maxRecDepth 100000 in
theorem ft_M_toldNumber_1 : aFetch kc_M_toldNumber 1 = some (1, .getfield 227, 3, [10, 2, 0, 0], [], [], []) := rfl
set_option maxRecDepth 100000 in
theorem ft_M_toldNumber_4 : aFetch kc_M_toldNumber 4 = some (4, .ifCond .le 5, 3, [], [], [], [(9, [])]) := rfl
set_option maxRecDepth 100000 in
theorem ft_M_toldNumber_7 : aFetch kc_M_toldNumber 7 = some (7, .iconst 0, 1, [], [.int 0], [], []) := rfl
set_option maxRecDepth 100000 in
theorem ft_M_toldNumber_8 : aFetch kc_M_toldNumber 8 = some (8, .ireturn, 1, [0], [], [], []) := rfl
set_option maxRecDepth 100000 in
theorem ft_M_toldNumber_9 : aFetch kc_M_toldNumber 9 = some (9, .aload_n 0, 1, [], [], [], []) := rfl
set_option maxRecDepth 100000 in
theorem ft_M_toldNumber_10 : aFetch kc_M_toldNumber 10 = some (10, .getfield 214, 3, [10, 6, 0, 0], [], [], []) := rfl
set_option maxRecDepth 100000 in
theorem ft_M_toldNumber_13 : aFetch kc_M_toldNumber 13 = some (13, .iconst 2, 1, [], [.int 2], [], []) := rfl
set_option maxRecDepth 100000 in
theorem ft_M_toldNumber_14 : aFetch kc_M_toldNumber 14 = some (14, .if_icmp .eq 11, 3, [], [], [], [(25, [])]) := rfl
set_option maxRecDepth 100000 in
theorem ft_M_toldNumber_17 : aFetch kc_M_toldNumber 17 = some (17, .aload_n 0, 1, [], [], [], []) := rfl
set_option maxRecDepth 100000 in
theorem ft_M_toldNumber_18 : aFetch kc_M_toldNumber 18 = some (18, .iconst 2, 1, [], [.int 2], [], []) := rfl
set_option maxRecDepth 100000 in
theorem ft_M_toldNumber_19 : aFetch kc_M_toldNumber 19 = some (19, .invokevirtual 288, 3, [171, 2, 0, 1, 10, 2], [], [], []) := rfl
set_option maxRecDepth 100000 in
theorem ft_M_toldNumber_22 : aFetch kc_M_toldNumber 22 = some (22, .goto 24, 3, [], [], [], [(46, [0])]) := rfl
set_option maxRecDepth 100000 in
theorem ft_M_toldNumber_25 : aFetch kc_M_toldNumber 25 = some (25, .aload_n 0, 1, [], [], [], []) := rfl
set_option maxRecDepth 100000 in
theorem ft_M_toldNumber_26 : aFetch kc_M_toldNumber 26 = some (26, .getfield 211, 3, [10, 8, 0, 0], [], [], []) := rfl
set_option maxRecDepth 100000 in
theorem ft_M_toldNumber_29 : aFetch kc_M_toldNumber 29 = some (29, .iload_n 1, 1, [], [], [], []) := rfl
set_option maxRecDepth 100000 in
theorem ft_M_toldNumber_30 : aFetch kc_M_toldNumber 30 = some (30, .if_icmp .lt 11, 3, [], [], [], [(41, [0])]) := rfl
set_option maxRecDepth 100000 in
theorem ft_M_toldNumber_33 : aFetch kc_M_toldNumber 33 = some (33, .aload_n 0, 1, [], [], [], []) := rfl
set_option maxRecDepth 100000 in
theorem ft_M_toldNumber_34 : aFetch kc_M_toldNumber 34 = some (34, .getfield 211, 3, [10, 8, 0, 0], [], [], []) := rfl
set_option maxRecDepth 100000 in
theorem ft_M_toldNumber_37 : aFetch kc_M_toldNumber 37 = some (37, .iload_n 2, 1, [], [], [], []) := rfl
set_option maxRecDepth 100000 in
theorem ft_M_toldNumber_38 : aFetch kc_M_toldNumber 38 = some (38, .if_icmp .le 8, 3, [], [], [0], [(46, [0])]) := rfl
set_option maxRecDepth 100000 in
theorem ft_M_toldNumber_41 : aFetch kc_M_toldNumber 41 = some (41, .aload_n 0, 1, [], [], [], []) := rfl
set_option maxRecDepth 100000 in
theorem ft_M_toldNumber_42 : aFetch kc_M_toldNumber 42 = some (42, .iconst 4, 1, [], [.int 4], [], []) := rfl
set_option maxRecDepth 100000 in
theorem ft_M_toldNumber_43 : aFetch kc_M_toldNumber 43 = some (43, .invokevirtual 288, 3, [171, 2, 0, 1, 10, 2], [], [0], []) := rfl
set_option maxRecDepth 100000 in
theorem ft_M_toldNumber_46 : aFetch kc_M_toldNumber 46 = some (46, .aload_n 0, 1, [], [], [], []) := rfl
set_option maxRecDepth 100000 in
theorem ft_M_toldNumber_47 : aFetch kc_M_toldNumber 47 = some (47, .getfield 211, 3, [10, 8, 0, 0], [], [], []) := rfl
set_option maxRecDepth 100000 in
theorem ft_M_toldNumber_50 : aFetch kc_M_toldNumber 50 = some (50, .istore_n 3, 1, [], [], [], []) := rfl
set_option maxRecDepth 100000 in
theorem ft_M_toldNumber_51 : aFetch kc_M_toldNumber 51 = some (51, .aload_n 0, 1, [], [], [], []) := rfl
set_option maxRecDepth 100000 in
theorem ft_M_toldNumber_52 : aFetch kc_M_toldNumber 52 = some (52, .getfield 227, 3, [10, 2, 0, 0], [], [], []) := rfl
set_option maxRecDepth 100000 in
theorem ft_M_toldNumber_55 : aFetch kc_M_toldNumber 55 = some (55, .ifCond .ne 7, 3, [], [], [], [(62, [])]) := rfl
set_option maxRecDepth 100000 in
theorem ft_M_toldNumber_58 : aFetch kc_M_toldNumber 58 = some (58, .aload_n 0, 1, [], [], [], []) := rfl
set_option maxRecDepth 100000 in
theorem ft_M_toldNumber_59 : aFetch kc_M_toldNumber 59 = some (59, .invokevirtual 291, 3, [160, 1, 0, 1, 10, 3], [], [], []) := rfl
set_option maxRecDepth 100000 in
theorem ft_M_toldNumber_62 : aFetch kc_M_toldNumber 62 = some (62, .iload_n 3, 1, [], [], [], []) := rfl
set_option maxRecDepth 100000 in
theorem ft_M_toldNumber_63 : aFetch kc_M_toldNumber 63 = some (63, .ireturn, 1, [0], [], [], []) := rfl
set_option maxHeartbeats 4000000 in
set_option maxRecDepth 100000 in
theorem q_M_toldNumber (d : Nat) (x1 : Int32) (x2 : Int32) (m : aMem) : f_M_toldNumber (d + 1) x1 x2 m = (if m.1 120 2 ≤ 0 then (if m.1 120 6 = 2 then (if m.1 120 8 < x1 then (b_M_toldNumber_41 d m) else (if m.1 120 8 ≤ x2 then (b_M_toldNumber_46 d m) else (b_M_toldNumber_41 d m))) else ((f_M_wrong d 2 m).bind fun q1 => (b_M_toldNumber_46 d q1))) else (some (0, m))) := (show f_M_toldNumber (d + 1) x1 x2 m = eI d kc_M_toldNumber (0, [(0, .ref 120), (1, .int x1), (2, .int x2)], []) m from rfl).trans ((g1I ft_M_toldNumber_0 (fr' := (1, [(0, .ref 120), (1, .int x1), (2, .int x2)], [.ref 120])) (m' := m) rfl).trans ((g1I ft_M_toldNumber_1 (fr' := (4, [(0, .ref 120), (1, .int x1), (2, .int x2)], [.int (m.1 120 2)])) (m' := m) rfl).trans ((b1I ft_M_toldNumber_4 (p := m.1 120 2 ≤ 0) (f1 := (9, [(0, .ref 120), (1, .int x1), (2, .int x2)], [])) (f2 := (7, [(0, .ref 120), (1, .int x1), (2, .int x2)], [])) rfl).trans (ite2 ((g1I ft_M_toldNumber_9 (fr' := (10, [(0, .ref 120), (1, .int x1), (2, .int x2)], [.ref 120])) (m' := m) rfl).trans ((g1I ft_M_toldNumber_10 (fr' := (13, [(0, .ref 120), (1, .int x1), (2, .int x2)], [.int (m.1 120 6)])) (m' := m) rfl).trans ((g1I ft_M_toldNumber_13 (fr' := (14, [(0, .ref 120), (1, .int x1), (2, .int x2)], [.int 2, .int (m.1 120 6)])) (m' := m) rfl).trans ((b1I ft_M_toldNumber_14 (p := m.1 120 6 = 2) (f1 := (25, [(0, .ref 120), (1, .int x1), (2, .int x2)], [])) (f2 := (17, [(0, .ref 120), (1, .int x1), (2, .int x2)], [])) rfl).trans (ite2 ((g1I ft_M_toldNumber_25 (fr' := (26, [(0, .ref 120), (1, .int x1), (2, .int x2)], [.ref 120])) (m' := m) rfl).trans ((g1I ft_M_toldNumber_26 (fr' := (29, [(0, .ref 120), (1, .int x1), (2, .int x2)], [.int (m.1 120 8)])) (m' := m) rfl).trans ((g1I ft_M_toldNumber_29 (fr' := (30, [(0, .ref 120), (1, .int x1), (2, .int x2)], [.int x1, .int (m.1 120 8)])) (m' := m) rfl).trans ((b1I ft_M_toldNumber_30 (p := m.1 120 8 < x1) (f1 := (41, [(0, .ref 120)], [])) (f2 := (33, [(0, .ref 120), (1, .int x1), (2, .int x2)], [])) rfl).trans (ite2 rfl ((g1I ft_M_toldNumber_33 (fr' := (34, [(0, .ref 120), (1, .int x1), (2, .int x2)], [.ref 120])) (m' := m) rfl).trans ((g1I ft_M_toldNumber_34 (fr' := (37, [(0, .ref 120), (1, .int x1), (2, .int x2)], [.int (m.1 120 8)])) (m' := m) rfl).trans ((g1I ft_M_toldNumber_37 (fr' := (38, [(0, .ref 120), (1, .int x1), (2, .int x2)], [.int x2, .int (m.1 120 8)])) (m' := m) rfl).trans (b1I ft_M_toldNumber_38 (p := m.1 120 8 ≤ x2) (f1 := (46, [(0, .ref 120)], [])) (f2 := (41, [(0, .ref 120)], [])) rfl))))))))) ((g1I ft_M_toldNumber_17 (fr' := (18, [(0, .ref 120), (1, .int x1), (2, .int x2)], [.ref 120])) (m' := m) rfl).trans ((g1I ft_M_toldNumber_18 (fr' := (19, [(0, .ref 120), (1, .int x1), (2, .int x2)], [.int 2, .ref 120])) (m' := m) rfl).trans ((cVI ft_M_toldNumber_19 (as := [.ref 120, .int 2]) (pc' := 22) (ls' := [(0, .ref 120), (1, .int x1), (2, .int x2)]) (st' := []) rfl).trans (bnd2 fun q1 => (g1I ft_M_toldNumber_22 (fr' := (46, [(0, .ref 120)], [])) (m' := q1) rfl)))))))))) ((g1I ft_M_toldNumber_7 (fr' := (8, [(0, .ref 120), (1, .int x1), (2, .int x2)], [.int 0])) (m' := m) rfl).trans (r1I ft_M_toldNumber_8 rfl))))))
set_option maxHeartbeats 4000000 in
set_option maxRecDepth 100000 in
theorem q_M_toldNumber_41 (d : Nat)  (m : aMem) : b_M_toldNumber_41 d  m = ((f_M_wrong d 4 m).bind fun q1 => (b_M_toldNumber_46 d q1)) := ((g1I ft_M_toldNumber_41 (fr' := (42, [(0, .ref 120)], [.ref 120])) (m' := m) rfl).trans ((g1I ft_M_toldNumber_42 (fr' := (43, [(0, .ref 120)], [.int 4, .ref 120])) (m' := m) rfl).trans (cVI ft_M_toldNumber_43 (as := [.ref 120, .int 4]) (pc' := 46) (ls' := [(0, .ref 120)]) (st' := []) rfl)))
set_option maxHeartbeats 4000000 in
set_option maxRecDepth 100000 in
theorem q_M_toldNumber_46 (d : Nat)  (m : aMem) : b_M_toldNumber_46 d  m = (if ¬ m.1 120 2 = 0 then (some (m.1 120 8, m)) else ((f_M_token d m).bind fun q1 => (some (m.1 120 8, q1)))) := ((g1I ft_M_toldNumber_46 (fr' := (47, [(0, .ref 120)], [.ref 120])) (m' := m) rfl).trans ((g1I ft_M_toldNumber_47 (fr' := (50, [(0, .ref 120)], [.int (m.1 120 8)])) (m' := m) rfl).trans ((g1I ft_M_toldNumber_50 (fr' := (51, [(3, .int (m.1 120 8)), (0, .ref 120)], [])) (m' := m) rfl).trans ((g1I ft_M_toldNumber_51 (fr' := (52, [(3, .int (m.1 120 8)), (0, .ref 120)], [.ref 120])) (m' := m) rfl).trans ((g1I ft_M_toldNumber_52 (fr' := (55, [(3, .int (m.1 120 8)), (0, .ref 120)], [.int (m.1 120 2)])) (m' := m) rfl).trans ((b1I ft_M_toldNumber_55 (p := ¬ m.1 120 2 = 0) (f1 := (62, [(3, .int (m.1 120 8)), (0, .ref 120)], [])) (f2 := (58, [(3, .int (m.1 120 8)), (0, .ref 120)], [])) rfl).trans (ite2 ((g1I ft_M_toldNumber_62 (fr' := (63, [(3, .int (m.1 120 8)), (0, .ref 120)], [.int (m.1 120 8)])) (m' := m) rfl).trans (r1I ft_M_toldNumber_63 rfl)) ((g1I ft_M_toldNumber_58 (fr' := (59, [(3, .int (m.1 120 8)), (0, .ref 120)], [.ref 120])) (m' := m) rfl).trans ((cVI ft_M_toldNumber_59 (as := [.ref 120]) (pc' := 62) (ls' := [(3, .int (m.1 120 8)), (0, .ref 120)]) (st' := []) rfl).trans (bnd2 fun q1 => ((g1I ft_M_toldNumber_62 (fr' := (63, [(3, .int (m.1 120 8)), (0, .ref 120)], [.int (m.1 120 8)])) (m' := q1) rfl).trans (r1I ft_M_toldNumber_63 rfl))))))))))))
set_option maxRecDepth 100000 in
theorem ft_M_readKite_0 : aFetch kc_M_readKite 0 = some (0, .aload_n 0, 1, [], [], [], []) := rfl
set_option maxRecDepth 100000 in
theorem ft_M_readKite_1 : aFetch kc_M_readKite 1 = some (1, .iconst 4, 1, [], [.int 4], [], []) := rfl
set_option maxRecDepth 100000 in
theorem ft_M_readKite_2 : aFetch kc_M_readKite 2 = some (2, .aload_n 0, 1, [], [], [], []) := rfl
set_option maxRecDepth 100000 in
theorem ft_M_readKite_3 : aFetch kc_M_readKite 3 = some (3, .getfield 379, 3, [10, 47, 0, 0], [], [], []) := rfl
set_option maxRecDepth 100000 in
theorem ft_M_readKite_6 : aFetch kc_M_readKite 6 = some (6, .invokevirtual 376, 3, [168, 3, 0, 1, 10, 3], [], [], []) := rfl
set_option maxRecDepth 100000 in
theorem ft_M_readKite_9 : aFetch kc_M_readKite 9 = some (9, .aload_n 0, 1, [], [], [], []) := rfl
set_option maxRecDepth 100000 in
theorem ft_M_readKite_10 : aFetch kc_M_readKite 10 = some (10, .getfield 379, 3, [10, 47, 0, 0], [], [], []) := rfl
set_option maxRecDepth 100000 in
theorem ft_M_readKite_13 : aFetch kc_M_readKite 13 = some (13, .istore_n 1, 1, [], [], [], []) := rfl
set_option maxRecDepth 100000 in
theorem ft_M_readKite_14 : aFetch kc_M_readKite 14 = some (14, .aload_n 0, 1, [], [], [], []) := rfl
set_option maxRecDepth 100000 in
theorem ft_M_readKite_15 : aFetch kc_M_readKite 15 = some (15, .ldc2_w 238, 3, [], [.long 28518], [], []) := rfl
set_option maxRecDepth 100000 in
theorem ft_M_readKite_18 : aFetch kc_M_readKite 18 = some (18, .invokevirtual 294, 3, [174, 2, 0, 1, 10, 3], [], [], []) := rfl
set_option maxRecDepth 100000 in
theorem ft_M_readKite_21 : aFetch kc_M_readKite 21 = some (21, .aload_n 0, 1, [], [], [], []) := rfl
set_option maxRecDepth 100000 in
theorem ft_M_readKite_22 : aFetch kc_M_readKite 22 = some (22, .getfield 67, 3, [10, 32, 3, 1], [], [], []) := rfl
set_option maxRecDepth 100000 in
theorem ft_M_readKite_25 : aFetch kc_M_readKite 25 = some (25, .iload_n 1, 1, [], [], [], []) := rfl
set_option maxRecDepth 100000 in
theorem ft_M_readKite_26 : aFetch kc_M_readKite 26 = some (26, .aload_n 0, 1, [], [], [], []) := rfl
set_option maxRecDepth 100000 in
theorem ft_M_readKite_27 : aFetch kc_M_readKite 27 = some (27, .iconst 0, 1, [], [.int 0], [], []) := rfl
set_option maxRecDepth 100000 in
theorem ft_M_readKite_28 : aFetch kc_M_readKite 28 = some (28, .aload_n 0, 1, [], [], [], []) := rfl
set_option maxRecDepth 100000 in
theorem ft_M_readKite_29 : aFetch kc_M_readKite 29 = some (29, .getfield 373, 3, [10, 46, 0, 0], [], [], []) := rfl
set_option maxRecDepth 100000 in
theorem ft_M_readKite_32 : aFetch kc_M_readKite 32 = some (32, .invokevirtual 382, 3, [177, 3, 1, 1, 10, 3], [], [], []) := rfl
set_option maxRecDepth 100000 in
theorem ft_M_readKite_35 : aFetch kc_M_readKite 35 = some (35, .iastore, 1, [], [], [], []) := rfl
set_option maxRecDepth 100000 in
theorem ft_M_readKite_36 : aFetch kc_M_readKite 36 = some (36, .aload_n 0, 1, [], [], [], []) := rfl
set_option maxRecDepth 100000 in
theorem ft_M_readKite_37 : aFetch kc_M_readKite 37 = some (37, .getfield 227, 3, [10, 2, 0, 0], [], [], []) := rfl
set_option maxRecDepth 100000 in
theorem ft_M_readKite_40 : aFetch kc_M_readKite 40 = some (40, .ifCond .ne 7, 3, [], [], [], [(47, [0, 1])]) := rfl
set_option maxRecDepth 100000 in
theorem ft_M_readKite_43 : aFetch kc_M_readKite 43 = some (43, .aload_n 0, 1, [], [], [], []) := rfl
set_option maxRecDepth 100000 in
theorem ft_M_readKite_44 : aFetch kc_M_readKite 44 = some (44, .invokevirtual 291, 3, [160, 1, 0, 1, 10, 3], [], [0, 1], []) := rfl
set_option maxRecDepth 100000 in
theorem ft_M_readKite_47 : aFetch kc_M_readKite 47 = some (47, .aload_n 0, 1, [], [], [], []) := rfl
set_option maxRecDepth 100000 in
theorem ft_M_readKite_48 : aFetch kc_M_readKite 48 = some (48, .getfield 70, 3, [10, 33, 3, 1], [], [], []) := rfl
set_option maxRecDepth 100000 in
theorem ft_M_readKite_51 : aFetch kc_M_readKite 51 = some (51, .iload_n 1, 1, [], [], [], []) := rfl
set_option maxRecDepth 100000 in
theorem ft_M_readKite_52 : aFetch kc_M_readKite 52 = some (52, .aload_n 0, 1, [], [], [], []) := rfl
set_option maxRecDepth 100000 in
theorem ft_M_readKite_53 : aFetch kc_M_readKite 53 = some (53, .ldc2_w 232, 3, [], [.long 24948], [], []) := rfl
set_option maxRecDepth 100000 in
theorem ft_M_readKite_56 : aFetch kc_M_readKite 56 = some (56, .iconst 0, 1, [], [.int 0], [], []) := rfl
set_option maxRecDepth 100000 in
theorem ft_M_readKite_57 : aFetch kc_M_readKite 57 = some (57, .bipush 19, 2, [], [.int 19], [], []) := rfl
set_option maxRecDepth 100000 in
theorem ft_M_readKite_59 : aFetch kc_M_readKite 59 = some (59, .invokevirtual 302, 3, [173, 4, 1, 1, 10, 5], [], [], []) := rfl
set_option maxRecDepth 100000 in
theorem ft_M_readKite_62 : aFetch kc_M_readKite 62 = some (62, .iastore, 1, [], [], [], []) := rfl
set_option maxRecDepth 100000 in
theorem ft_M_readKite_63 : aFetch kc_M_readKite 63 = some (63, .aload_n 0, 1, [], [], [], []) := rfl
set_option maxRecDepth 100000 in
theorem ft_M_readKite_64 : aFetch kc_M_readKite 64 = some (64, .getfield 73, 3, [10, 34, 3, 1], [], [], []) := rfl
set_option maxRecDepth 100000 in
theorem ft_M_readKite_67 : aFetch kc_M_readKite 67 = some (67, .iload_n 1, 1, [], [], [], []) := rfl
set_option maxRecDepth 100000 in
theorem ft_M_readKite_68 : aFetch kc_M_readKite 68 = some (68, .aload_n 0, 1, [], [], [], []) := rfl
set_option maxRecDepth 100000 in
theorem ft_M_readKite_69 : aFetch kc_M_readKite 69 = some (69, .ldc2_w 240, 3, [], [.long 1936292453], [], []) := rfl
set_option maxRecDepth 100000 in
theorem ft_M_readKite_72 : aFetch kc_M_readKite 72 = some (72, .iconst 1, 1, [], [.int 1], [], []) := rfl
set_option maxRecDepth 100000 in
theorem ft_M_readKite_73 : aFetch kc_M_readKite 73 = some (73, .bipush 9, 2, [], [.int 9], [], []) := rfl
set_option maxRecDepth 100000 in
theorem ft_M_readKite_75 : aFetch kc_M_readKite 75 = some (75, .invokevirtual 302, 3, [173, 4, 1, 1, 10, 5], [], [], []) := rfl
set_option maxRecDepth 100000 in
theorem ft_M_readKite_78 : aFetch kc_M_readKite 78 = some (78, .iastore, 1, [], [], [], []) := rfl
set_option maxRecDepth 100000 in
theorem ft_M_readKite_79 : aFetch kc_M_readKite 79 = some (79, .aload_n 0, 1, [], [], [], []) := rfl
set_option maxRecDepth 100000 in
theorem ft_M_readKite_80 : aFetch kc_M_readKite 80 = some (80, .getfield 76, 3, [10, 35, 3, 1], [], [], []) := rfl
set_option maxRecDepth 100000 in
theorem ft_M_readKite_83 : aFetch kc_M_readKite 83 = some (83, .iload_n 1, 1, [], [], [], []) := rfl
set_option maxRecDepth 100000 in
theorem ft_M_readKite_84 : aFetch kc_M_readKite 84 = some (84, .aload_n 0, 1, [], [], [], []) := rfl
set_option maxRecDepth 100000 in
theorem ft_M_readKite_85 : aFetch kc_M_readKite 85 = some (85, .ldc2_w 242, 3, [], [.long 1668248164], [], []) := rfl
set_option maxRecDepth 100000 in
theorem ft_M_readKite_88 : aFetch kc_M_readKite 88 = some (88, .iconst 1, 1, [], [.int 1], [], []) := rfl
set_option maxRecDepth 100000 in
theorem ft_M_readKite_89 : aFetch kc_M_readKite 89 = some (89, .sipush 999, 3, [], [.int 999], [], []) := rfl
set_option maxRecDepth 100000 in
theorem ft_M_readKite_92 : aFetch kc_M_readKite 92 = some (92, .invokevirtual 302, 3, [173, 4, 1, 1, 10, 5], [], [], []) := rfl
set_option maxRecDepth 100000 in
theorem ft_M_readKite_95 : aFetch kc_M_readKite 95 = some (95, .iastore, 1, [], [], [], []) := rfl
set_option maxRecDepth 100000 in
theorem ft_M_readKite_96 : aFetch kc_M_readKite 96 = some (96, .aload_n 0, 1, [], [], [], []) := rfl
set_option maxRecDepth 100000 in
theorem ft_M_readKite_97 : aFetch kc_M_readKite 97 = some (97, .getfield 79, 3, [10, 36, 3, 1], [], [], []) := rfl
set_option maxRecDepth 100000 in
theorem ft_M_readKite_100 : aFetch kc_M_readKite 100 = some (100, .iload_n 1, 1, [], [], [], []) := rfl
set_option maxRecDepth 100000 in
theorem ft_M_readKite_101 : aFetch kc_M_readKite 101 = some (101, .aload_n 0, 1, [], [], [], []) := rfl
set_option maxRecDepth 100000 in
theorem ft_M_readKite_102 : aFetch kc_M_readKite 102 = some (102, .ldc2_w 244, 3, [], [.long 114784769370228], [], []) := rfl
set_option maxRecDepth 100000 in
theorem ft_M_readKite_105 : aFetch kc_M_readKite 105 = some (105, .iconst 0, 1, [], [.int 0], [], []) := rfl
set_option maxRecDepth 100000 in
theorem ft_M_readKite_106 : aFetch kc_M_readKite 106 = some (106, .bipush 9, 2, [], [.int 9], [], []) := rfl
set_option maxRecDepth 100000 in
theorem ft_M_readKite_108 : aFetch kc_M_readKite 108 = some (108, .iconst 0, 1, [], [.int 0], [], []) := rfl
set_option maxRecDepth 100000 in
theorem ft_M_readKite_109 : aFetch kc_M_readKite 109 = some (109, .invokevirtual 385, 3, [178, 5, 1, 1, 10, 6], [], [], []) := rfl
set_option maxRecDepth 100000 in
theorem ft_M_readKite_112 : aFetch kc_M_readKite 112 = some (112, .iastore, 1, [], [], [], []) := rfl
set_option maxRecDepth 100000 in
theorem ft_M_readKite_113 : aFetch kc_M_readKite 113 = some (113, .aload_n 0, 1, [], [], [], []) := rfl
set_option maxRecDepth 100000 in
theorem ft_M_readKite_114 : aFetch kc_M_readKite 114 = some (114, .getfield 227, 3, [10, 2, 0, 0], [], [], []) := rfl
set_option maxRecDepth 100000 in
theorem ft_M_readKite_117 : aFetch kc_M_readKite 117 = some (117, .ifCond .ne 17, 3, [], [], [], [(134, [0, 1])]) := rfl
set_option maxRecDepth 100000 in
theorem ft_M_readKite_120 : aFetch kc_M_readKite 120 = some (120, .aload_n 0, 1, [], [], [], []) := rfl
set_option maxRecDepth 100000 in
theorem ft_M_readKite_121 : aFetch kc_M_readKite 121 = some (121, .ldc2_w 246, 3, [], [.long 1953064292], [], []) := rfl
set_option maxRecDepth 100000 in
theorem ft_M_readKite_124 : aFetch kc_M_readKite 124 = some (124, .invokevirtual 284, 3, [166, 2, 1, 1, 10, 3], [], [], []) := rfl
set_option maxRecDepth 100000 in
theorem ft_M_readKite_127 : aFetch kc_M_readKite 127 = some (127, .ifCond .eq 7, 3, [], [], [], [(134, [0, 1])]) := rfl
set_option maxRecDepth 100000 in
theorem ft_M_readKite_130 : aFetch kc_M_readKite 130 = some (130, .iconst 1, 1, [], [.int 1], [], []) := rfl
set_option maxRecDepth 100000 in
theorem ft_M_readKite_131 : aFetch kc_M_readKite 131 = some (131, .goto 4, 3, [], [], [], [(135, [0, 1])]) := rfl
set_option maxRecDepth 100000 in
theorem ft_M_readKite_134 : aFetch kc_M_readKite 134 = some (134, .iconst 0, 1, [], [.int 0], [0, 1], []) := rfl
set_option maxRecDepth 100000 in
theorem ft_M_readKite_135 : aFetch kc_M_readKite 135 = some (135, .istore_n 2, 1, [], [], [], []) := rfl
set_option maxRecDepth 100000 in
theorem ft_M_readKite_136 : aFetch kc_M_readKite 136 = some (136, .aload_n 0, 1, [], [], [], []) := rfl
set_option maxRecDepth 100000 in
theorem ft_M_readKite_137 : aFetch kc_M_readKite 137 = some (137, .getfield 82, 3, [10, 37, 3, 1], [], [], []) := rfl
set_option maxRecDepth 100000 in
theorem ft_M_readKite_140 : aFetch kc_M_readKite 140 = some (140, .iload_n 1, 1, [], [], [], []) := rfl
set_option maxRecDepth 100000 in
theorem ft_M_readKite_141 : aFetch kc_M_readKite 141 = some (141, .iload_n 2, 1, [], [], [], []) := rfl
set_option maxRecDepth 100000 in
theorem ft_M_readKite_142 : aFetch kc_M_readKite 142 = some (142, .ifCond .eq 8, 3, [], [], [], [(150, [])]) := rfl
set_option maxRecDepth 100000 in
theorem ft_M_readKite_145 : aFetch kc_M_readKite 145 = some (145, .bipush (-2), 2, [], [.int (-2)], [], []) := rfl
set_option maxRecDepth 100000 in
theorem ft_M_readKite_147 : aFetch kc_M_readKite 147 = some (147, .goto 4, 3, [], [], [], [(151, [0, 2])]) := rfl
set_option maxRecDepth 100000 in
theorem ft_M_readKite_150 : aFetch kc_M_readKite 150 = some (150, .iconst (-1), 1, [], [.int (-1)], [0, 2], []) := rfl
set_option maxRecDepth 100000 in
theorem ft_M_readKite_151 : aFetch kc_M_readKite 151 = some (151, .iastore, 1, [], [], [], []) := rfl
set_option maxRecDepth 100000 in
theorem ft_M_readKite_152 : aFetch kc_M_readKite 152 = some (152, .iload_n 2, 1, [], [], [], []) := rfl
set_option maxRecDepth 100000 in
theorem ft_M_readKite_153 : aFetch kc_M_readKite 153 = some (153, .ifCond .eq 7, 3, [], [], [], [(160, [0])]) := rfl
set_option maxRecDepth 100000 in
theorem ft_M_readKite_156 : aFetch kc_M_readKite 156 = some (156, .aload_n 0, 1, [], [], [], []) := rfl
set_option maxRecDepth 100000 in
theorem ft_M_readKite_157 : aFetch kc_M_readKite 157 = some (157, .invokevirtual 291, 3, [160, 1, 0, 1, 10, 3], [], [0], []) := rfl
set_option maxRecDepth 100000 in
theorem ft_M_readKite_160 : aFetch kc_M_readKite 160 = some (160, .aload_n 0, 1, [], [], [], []) := rfl
set_option maxRecDepth 100000 in
theorem ft_M_readKite_161 : aFetch kc_M_readKite 161 = some (161, .getfield 227, 3, [10, 2, 0, 0], [], [], []) := rfl
set_option maxRecDepth 100000 in
theorem ft_M_readKite_164 : aFetch kc_M_readKite 164 = some (164, .ifCond .ne 13, 3, [], [], [], [(177, [])]) := rfl
set_option maxRecDepth 100000 in
theorem ft_M_readKite_167 : aFetch kc_M_readKite 167 = some (167, .aload_n 0, 1, [], [], [], []) := rfl
set_option maxRecDepth 100000 in
theorem ft_M_readKite_168 : aFetch kc_M_readKite 168 = some (168, .dup, 1, [], [], [], []) := rfl
set_option maxRecDepth 100000 in
theorem ft_M_readKite_169 : aFetch kc_M_readKite 169 = some (169, .getfield 379, 3, [10, 47, 0, 0], [], [], []) := rfl
set_option maxRecDepth 100000 in
theorem ft_M_readKite_172 : aFetch kc_M_readKite 172 = some (172, .iconst 1, 1, [], [.int 1], [], []) := rfl
set_option maxRecDepth 100000 in
theorem ft_M_readKite_173 : aFetch kc_M_readKite 173 = some (173, .iadd, 1, [], [], [], []) := rfl
set_option maxRecDepth 100000 in
theorem ft_M_readKite_174 : aFetch kc_M_readKite 174 = some (174, .putfield 379, 3, [10, 47, 0, 0], [], [], []) := rfl
set_option maxRecDepth 100000 in
theorem ft_M_readKite_177 : aFetch kc_M_readKite 177 = some (177, .return_, 1, [], [], [], []) := rfl
set_option maxHeartbeats 4000000 in
set_option maxRecDepth 100000 in
theorem q_M_readKite (d : Nat)  (m : aMem) : f_M_readKite (d + 1)  m = ((f_M_newName d 4 (m.1 120 47) m).bind fun q1 => ((f_M_want d 28518 q1).bind fun q2 => ((f_M_oldName d 0 (q2.1 120 46) q2).bind fun q3 => (grd (inb (q1.1 120 47) 8) (if ¬ q3.2.1 120 2 = 0 then (b_M_readKite_47 d (q1.1 120 47) (aUI q3.2 138 ((q1.1 120 47 : Int32).toNatClampNeg) q3.1)) else ((f_M_token d (aUI q3.2 138 ((q1.1 120 47 : Int32).toNatClampNeg) q3.1)).bind fun q4 => (b_M_readKite_47 d (q1.1 120 47) q4))))))) := (show f_M_readKite (d + 1)  m = eV d kc_M_readKite (0, [(0, .ref 120)], []) m from rfl).trans ((g1V ft_M_readKite_0 (fr' := (1, [(0, .ref 120)], [.ref 120])) (m' := m) rfl).trans ((g1V ft_M_readKite_1 (fr' := (2, [(0, .ref 120)], [.int 4, .ref 120])) (m' := m) rfl).trans ((g1V ft_M_readKite_2 (fr' := (3, [(0, .ref 120)], [.ref 120, .int 4, .ref 120])) (m' := m) rfl).trans ((g1V ft_M_readKite_3 (fr' := (6, [(0, .ref 120)], [.int (m.1 120 47), .int 4, .ref 120])) (m' := m) rfl).trans ((cVV ft_M_readKite_6 (as := [.ref 120, .int 4, .int (m.1 120 47)]) (pc' := 9) (ls' := [(0, .ref 120)]) (st' := []) rfl).trans (bnd2 fun q1 => ((g1V ft_M_readKite_9 (fr' := (10, [(0, .ref 120)], [.ref 120])) (m' := q1) rfl).trans ((g1V ft_M_readKite_10 (fr' := (13, [(0, .ref 120)], [.int (q1.1 120 47)])) (m' := q1) rfl).trans ((g1V ft_M_readKite_13 (fr' := (14, [(1, .int (q1.1 120 47)), (0, .ref 120)], [])) (m' := q1) rfl).trans ((g1V ft_M_readKite_14 (fr' := (15, [(1, .int (q1.1 120 47)), (0, .ref 120)], [.ref 120])) (m' := q1) rfl).trans ((g1V ft_M_readKite_15 (fr' := (18, [(1, .int (q1.1 120 47)), (0, .ref 120)], [.long 28518, .ref 120])) (m' := q1) rfl).trans ((cVV ft_M_readKite_18 (as := [.ref 120, .long 28518]) (pc' := 21) (ls' := [(1, .int (q1.1 120 47)), (0, .ref 120)]) (st' := []) rfl).trans (bnd2 fun q2 => ((g1V ft_M_readKite_21 (fr' := (22, [(1, .int (q1.1 120 47)), (0, .ref 120)], [.ref 120])) (m' := q2) rfl).trans ((g1V ft_M_readKite_22 (fr' := (25, [(1, .int (q1.1 120 47)), (0, .ref 120)], [.ref 138])) (m' := q2) rfl).trans ((g1V ft_M_readKite_25 (fr' := (26, [(1, .int (q1.1 120 47)), (0, .ref 120)], [.int (q1.1 120 47), .ref 138])) (m' := q2) rfl).trans ((g1V ft_M_readKite_26 (fr' := (27, [(1, .int (q1.1 120 47)), (0, .ref 120)], [.ref 120, .int (q1.1 120 47), .ref 138])) (m' := q2) rfl).trans ((g1V ft_M_readKite_27 (fr' := (28, [(1, .int (q1.1 120 47)), (0, .ref 120)], [.int 0, .ref 120, .int (q1.1 120 47), .ref 138])) (m' := q2) rfl).trans ((g1V ft_M_readKite_28 (fr' := (29, [(1, .int (q1.1 120 47)), (0, .ref 120)], [.ref 120, .int 0, .ref 120, .int (q1.1 120 47), .ref 138])) (m' := q2) rfl).trans ((g1V ft_M_readKite_29 (fr' := (32, [(1, .int (q1.1 120 47)), (0, .ref 120)], [.int (q2.1 120 46), .int 0, .ref 120, .int (q1.1 120 47), .ref 138])) (m' := q2) rfl).trans ((cIV ft_M_readKite_32 (as := [.ref 120, .int 0, .int (q2.1 120 46)]) (pc' := 35) (ls' := [(1, .int (q1.1 120 47)), (0, .ref 120)]) (st' := [.int (q1.1 120 47), .ref 138]) rfl).trans (bnd2 fun q3 => ((g1Vg ft_M_readKite_35 (g := inb (q1.1 120 47) 8) (fr' := (36, [(1, .int (q1.1 120 47)), (0, .ref 120)], [])) (m' := (aUI q3.2 138 ((q1.1 120 47 : Int32).toNatClampNeg) q3.1)) (st_is rfl)).trans (grd2 ((g1V ft_M_readKite_36 (fr' := (37, [(1, .int (q1.1 120 47)), (0, .ref 120)], [.ref 120])) (m' := (aUI q3.2 138 ((q1.1 120 47 : Int32).toNatClampNeg) q3.1)) rfl).trans ((g1V ft_M_readKite_37 (fr' := (40, [(1, .int (q1.1 120 47)), (0, .ref 120)], [.int (q3.2.1 120 2)])) (m' := (aUI q3.2 138 ((q1.1 120 47 : Int32).toNatClampNeg) q3.1)) rfl).trans ((b1V ft_M_readKite_40 (p := ¬ q3.2.1 120 2 = 0) (f1 := (47, [(0, .ref 120), (1, .int (q1.1 120 47))], [])) (f2 := (43, [(1, .int (q1.1 120 47)), (0, .ref 120)], [])) rfl).trans (ite2 rfl ((g1V ft_M_readKite_43 (fr' := (44, [(1, .int (q1.1 120 47)), (0, .ref 120)], [.ref 120])) (m' := (aUI q3.2 138 ((q1.1 120 47 : Int32).toNatClampNeg) q3.1)) rfl).trans (cVV ft_M_readKite_44 (as := [.ref 120]) (pc' := 47) (ls' := [(0, .ref 120), (1, .int (q1.1 120 47))]) (st' := []) rfl))))))))))))))))))))))))))))))
set_option maxHeartbeats 4000000 in
set_option maxRecDepth 100000 in
theorem q_M_readKite_47 (d : Nat) (x1 : Int32) (m : aMem) : b_M_readKite_47 d x1 m = ((f_M_told d 24948 0 19 m).bind fun q1 => (grd (inb x1 8) ((f_M_told d 1936292453 1 9 (aUI q1.2 139 x1.toNatClampNeg q1.1)).bind fun q2 => (grd (inb x1 8) ((f_M_told d 1668248164 1 999 (aUI q2.2 140 x1.toNatClampNeg q2.1)).bind fun q3 => (grd (inb x1 8) ((f_M_option d 114784769370228 0 9 0 (aUI q3.2 141 x1.toNatClampNeg q3.1)).bind fun q4 => (grd (inb x1 8) (if ¬ q4.2.1 120 2 = 0 then (b_M_readKite_134 d x1 (aUI q4.2 142 x1.toNatClampNeg q4.1)) else ((f_M_isWord d 1953064292 (aUI q4.2 142 x1.toNatClampNeg q4.1)).bind fun q5 => (if q5.1 = 0 then (b_M_readKite_134 d x1 q5.2) else (b_M_readKite_135 d x1 1 q5.2)))))))))))) := ((g1V ft_M_readKite_47 (fr' := (48, [(0, .ref 120), (1, .int x1)], [.ref 120])) (m' := m) rfl).trans ((g1V ft_M_readKite_48 (fr' := (51, [(0, .ref 120), (1, .int x1)], [.ref 139])) (m' := m) rfl).trans ((g1V ft_M_readKite_51 (fr' := (52, [(0, .ref 120), (1, .int x1)], [.int x1, .ref 139])) (m' := m) rfl).trans ((g1V ft_M_readKite_52 (fr' := (53, [(0, .ref 120), (1, .int x1)], [.ref 120, .int x1, .ref 139])) (m' := m) rfl).trans ((g1V ft_M_readKite_53 (fr' := (56, [(0, .ref 120), (1, .int x1)], [.long 24948, .ref 120, .int x1, .ref 139])) (m' := m) rfl).trans ((g1V ft_M_readKite_56 (fr' := (57, [(0, .ref 120), (1, .int x1)], [.int 0, .long 24948, .ref 120, .int x1, .ref 139])) (m' := m) rfl).trans ((g1V ft_M_readKite_57 (fr' := (59, [(0, .ref 120), (1, .int x1)], [.int 19, .int 0, .long 24948, .ref 120, .int x1, .ref 139])) (m' := m) rfl).trans ((cIV ft_M_readKite_59 (as := [.ref 120, .long 24948, .int 0, .int 19]) (pc' := 62) (ls' := [(0, .ref 120), (1, .int x1)]) (st' := [.int x1, .ref 139]) rfl).trans (bnd2 fun q1 => ((g1Vg ft_M_readKite_62 (g := inb x1 8) (fr' := (63, [(0, .ref 120), (1, .int x1)], [])) (m' := (aUI q1.2 139 x1.toNatClampNeg q1.1)) (st_is rfl)).trans (grd2 ((g1V ft_M_readKite_63 (fr' := (64, [(0, .ref 120), (1, .int x1)], [.ref 120])) (m' := (aUI q1.2 139 x1.toNatClampNeg q1.1)) rfl).trans ((g1V ft_M_readKite_64 (fr' := (67, [(0, .ref 120), (1, .int x1)], [.ref 140])) (m' := (aUI q1.2 139 x1.toNatClampNeg q1.1)) rfl).trans ((g1V ft_M_readKite_67 (fr' := (68, [(0, .ref 120), (1, .int x1)], [.int x1, .ref 140])) (m' := (aUI q1.2 139 x1.toNatClampNeg q1.1)) rfl).trans ((g1V ft_M_readKite_68 (fr' := (69, [(0, .ref 120), (1, .int x1)], [.ref 120, .int x1, .ref 140])) (m' := (aUI q1.2 139 x1.toNatClampNeg q1.1)) rfl).trans ((g1V ft_M_readKite_69 (fr' := (72, [(0, .ref 120), (1, .int x1)], [.long 1936292453, .ref 120, .int x1, .ref 140])) (m' := (aUI q1.2 139 x1.toNatClampNeg q1.1)) rfl).trans ((g1V ft_M_readKite_72 (fr' := (73, [(0, .ref 120), (1, .int x1)], [.int 1, .long 1936292453, .ref 120, .int x1, .ref 140])) (m' := (aUI q1.2 139 x1.toNatClampNeg q1.1)) rfl).trans ((g1V ft_M_readKite_73 (fr' := (75, [(0, .ref 120), (1, .int x1)], [.int 9, .int 1, .long 1936292453, .ref 120, .int x1, .ref 140])) (m' := (aUI q1.2 139 x1.toNatClampNeg q1.1)) rfl).trans ((cIV ft_M_readKite_75 (as := [.ref 120, .long 1936292453, .int 1, .int 9]) (pc' := 78) (ls' := [(0, .ref 120), (1, .int x1)]) (st' := [.int x1, .ref 140]) rfl).trans (bnd2 fun q2 => ((g1Vg ft_M_readKite_78 (g := inb x1 8) (fr' := (79, [(0, .ref 120), (1, .int x1)], [])) (m' := (aUI q2.2 140 x1.toNatClampNeg q2.1)) (st_is rfl)).trans (grd2 ((g1V ft_M_readKite_79 (fr' := (80, [(0, .ref 120), (1, .int x1)], [.ref 120])) (m' := (aUI q2.2 140 x1.toNatClampNeg q2.1)) rfl).trans ((g1V ft_M_readKite_80 (fr' := (83, [(0, .ref 120), (1, .int x1)], [.ref 141])) (m' := (aUI q2.2 140 x1.toNatClampNeg q2.1)) rfl).trans ((g1V ft_M_readKite_83 (fr' := (84, [(0, .ref 120), (1, .int x1)], [.int x1, .ref 141])) (m' := (aUI q2.2 140 x1.toNatClampNeg q2.1)) rfl).trans ((g1V ft_M_readKite_84 (fr' := (85, [(0, .ref 120), (1, .int x1)], [.ref 120, .int x1, .ref 141])) (m' := (aUI q2.2 140 x1.toNatClampNeg q2.1)) rfl).trans ((g1V ft_M_readKite_85 (fr' := (88, [(0, .ref 120), (1, .int x1)], [.long 1668248164, .ref 120, .int x1, .ref 141])) (m' := (aUI q2.2 140 x1.toNatClampNeg q2.1)) rfl).trans ((g1V ft_M_readKite_88 (fr' := (89, [(0, .ref 120), (1, .int x1)], [.int 1, .long 1668248164, .ref 120, .int x1, .ref 141])) (m' := (aUI q2.2 140 x1.toNatClampNeg q2.1)) rfl).trans ((g1V ft_M_readKite_89 (fr' := (92, [(0, .ref 120), (1, .int x1)], [.int 999, .int 1, .long 1668248164, .ref 120, .int x1, .ref 141])) (m' := (aUI q2.2 140 x1.toNatClampNeg q2.1)) rfl).trans ((cIV ft_M_readKite_92 (as := [.ref 120, .long 1668248164, .int 1, .int 999]) (pc' := 95) (ls' := [(0, .ref 120), (1, .int x1)]) (st' := [.int x1, .ref 141]) rfl).trans (bnd2 fun q3 => ((g1Vg ft_M_readKite_95 (g := inb x1 8) (fr' := (96, [(0, .ref 120), (1, .int x1)], [])) (m' := (aUI q3.2 141 x1.toNatClampNeg q3.1)) (st_is rfl)).trans (grd2 ((g1V ft_M_readKite_96 (fr' := (97, [(0, .ref 120), (1, .int x1)], [.ref 120])) (m' := (aUI q3.2 141 x1.toNatClampNeg q3.1)) rfl).trans ((g1V ft_M_readKite_97 (fr' := (100, [(0, .ref 120), (1, .int x1)], [.ref 142])) (m' := (aUI q3.2 141 x1.toNatClampNeg q3.1)) rfl).trans ((g1V ft_M_readKite_100 (fr' := (101, [(0, .ref 120), (1, .int x1)], [.int x1, .ref 142])) (m' := (aUI q3.2 141 x1.toNatClampNeg q3.1)) rfl).trans ((g1V ft_M_readKite_101 (fr' := (102, [(0, .ref 120), (1, .int x1)], [.ref 120, .int x1, .ref 142])) (m' := (aUI q3.2 141 x1.toNatClampNeg q3.1)) rfl).trans ((g1V ft_M_readKite_102 (fr' := (105, [(0, .ref 120), (1, .int x1)], [.long 114784769370228, .ref 120, .int x1, .ref 142])) (m' := (aUI q3.2 141 x1.toNatClampNeg q3.1)) rfl).trans ((g1V ft_M_readKite_105 (fr' := (106, [(0, .ref 120), (1, .int x1)], [.int 0, .long 114784769370228, .ref 120, .int x1, .ref 142])) (m' := (aUI q3.2 141 x1.toNatClampNeg q3.1)) rfl).trans ((g1V ft_M_readKite_106 (fr' := (108, [(0, .ref 120), (1, .int x1)], [.int 9, .int 0, .long 114784769370228, .ref 120, .int x1, .ref 142])) (m' := (aUI q3.2 141 x1.toNatClampNeg q3.1)) rfl).trans ((g1V ft_M_readKite_108 (fr' := (109, [(0, .ref 120), (1, .int x1)], [.int 0, .int 9, .int 0, .long 114784769370228, .ref 120, .int x1, .ref 142])) (m' := (aUI q3.2 141 x1.toNatClampNeg q3.1)) rfl).trans ((cIV ft_M_readKite_109 (as := [.ref 120, .long 114784769370228, .int 0, .int 9, .int 0]) (pc' := 112) (ls' := [(0, .ref 120), (1, .int x1)]) (st' := [.int x1, .ref 142]) rfl).trans (bnd2 fun q4 => ((g1Vg ft_M_readKite_112 (g := inb x1 8) (fr' := (113, [(0, .ref 120), (1, .int x1)], [])) (m' := (aUI q4.2 142 x1.toNatClampNeg q4.1)) (st_is rfl)).trans (grd2 ((g1V ft_M_readKite_113 (fr' := (114, [(0, .ref 120), (1, .int x1)], [.ref 120])) (m' := (aUI q4.2 142 x1.toNatClampNeg q4.1)) rfl).trans ((g1V ft_M_readKite_114 (fr' := (117, [(0, .ref 120), (1, .int x1)], [.int (q4.2.1 120 2)])) (m' := (aUI q4.2 142 x1.toNatClampNeg q4.1)) rfl).trans ((b1V ft_M_readKite_117 (p := ¬ q4.2.1 120 2 = 0) (f1 := (134, [(0, .ref 120), (1, .int x1)], [])) (f2 := (120, [(0, .ref 120), (1, .int x1)], [])) rfl).trans (ite2 rfl ((g1V ft_M_readKite_120 (fr' := (121, [(0, .ref 120), (1, .int x1)], [.ref 120])) (m' := (aUI q4.2 142 x1.toNatClampNeg q4.1)) rfl).trans ((g1V ft_M_readKite_121 (fr' := (124, [(0, .ref 120), (1, .int x1)], [.long 1953064292, .ref 120])) (m' := (aUI q4.2 142 x1.toNatClampNeg q4.1)) rfl).trans ((cIV ft_M_readKite_124 (as := [.ref 120, .long 1953064292]) (pc' := 127) (ls' := [(0, .ref 120), (1, .int x1)]) (st' := []) rfl).trans (bnd2 fun q5 => ((b1V ft_M_readKite_127 (p := q5.1 = 0) (f1 := (134, [(0, .ref 120), (1, .int x1)], [])) (f2 := (130, [(0, .ref 120), (1, .int x1)], [])) rfl).trans (ite2 rfl ((g1V ft_M_readKite_130 (fr' := (131, [(0, .ref 120), (1, .int x1)], [.int 1])) (m' := q5.2) rfl).trans (g1V ft_M_readKite_131 (fr' := (135, [(0, .ref 120), (1, .int x1)], [.int 1])) (m' := q5.2) rfl)))))))))))))))))))))))))))))))))))))))))))))))))))))))))
set_option maxHeartbeats 4000000 in
set_option maxRecDepth 100000 in
theorem q_M_readKite_134 (d : Nat) (x1 : Int32) (m : aMem) : b_M_readKite_134 d x1 m = (b_M_readKite_135 d x1 0 m) := (g1V ft_M_readKite_134 (fr' := (135, [(0, .ref 120), (1, .int x1)], [.int 0])) (m' := m) rfl)
set_option maxHeartbeats 4000000 in
set_option maxRecDepth 100000 in
theorem q_M_readKite_135 (d : Nat) (x1 : Int32) (s0 : Int32) (m : aMem) : b_M_readKite_135 d x1 s0 m = (if s0 = 0 then (b_M_readKite_151 d s0 x1 (-1) m) else (b_M_readKite_151 d s0 x1 (-2) m)) := ((g1V ft_M_readKite_135 (fr' := (136, [(2, .int s0), (0, .ref 120), (1, .int x1)], [])) (m' := m) rfl).trans ((g1V ft_M_readKite_136 (fr' := (137, [(2, .int s0), (0, .ref 120), (1, .int x1)], [.ref 120])) (m' := m) rfl).trans ((g1V ft_M_readKite_137 (fr' := (140, [(2, .int s0), (0, .ref 120), (1, .int x1)], [.ref 143])) (m' := m) rfl).trans ((g1V ft_M_readKite_140 (fr' := (141, [(2, .int s0), (0, .ref 120), (1, .int x1)], [.int x1, .ref 143])) (m' := m) rfl).trans ((g1V ft_M_readKite_141 (fr' := (142, [(2, .int s0), (0, .ref 120), (1, .int x1)], [.int s0, .int x1, .ref 143])) (m' := m) rfl).trans ((b1V ft_M_readKite_142 (p := s0 = 0) (f1 := (150, [(2, .int s0), (0, .ref 120), (1, .int x1)], [.int x1, .ref 143])) (f2 := (145, [(2, .int s0), (0, .ref 120), (1, .int x1)], [.int x1, .ref 143])) rfl).trans (ite2 (g1V ft_M_readKite_150 (fr' := (151, [(0, .ref 120), (2, .int s0)], [.int (-1), .int x1, .ref 143])) (m' := m) rfl) ((g1V ft_M_readKite_145 (fr' := (147, [(2, .int s0), (0, .ref 120), (1, .int x1)], [.int (-2), .int x1, .ref 143])) (m' := m) rfl).trans (g1V ft_M_readKite_147 (fr' := (151, [(0, .ref 120), (2, .int s0)], [.int (-2), .int x1, .ref 143])) (m' := m) rfl)))))))))
set_option maxHeartbeats 4000000 in
set_option maxRecDepth 100000 in
theorem q_M_readKite_151 (d : Nat) (x2 : Int32) (s1 : Int32) (s2 : Int32) (m : aMem) : b_M_readKite_151 d x2 s1 s2 m = (grd (inb s1 8) (if x2 = 0 then (b_M_readKite_160 d (aUI m 143 s1.toNatClampNeg s2)) else ((f_M_token d (aUI m 143 s1.toNatClampNeg s2)).bind fun q1 => (b_M_readKite_160 d q1)))) := ((g1Vg ft_M_readKite_151 (g := inb s1 8) (fr' := (152, [(0, .ref 120), (2, .int x2)], [])) (m' := (aUI m 143 s1.toNatClampNeg s2)) (st_is rfl)).trans (grd2 ((g1V ft_M_readKite_152 (fr' := (153, [(0, .ref 120), (2, .int x2)], [.int x2])) (m' := (aUI m 143 s1.toNatClampNeg s2)) rfl).trans ((b1V ft_M_readKite_153 (p := x2 = 0) (f1 := (160, [(0, .ref 120)], [])) (f2 := (156, [(0, .ref 120), (2, .int x2)], [])) rfl).trans (ite2 rfl ((g1V ft_M_readKite_156 (fr' := (157, [(0, .ref 120), (2, .int x2)], [.ref 120])) (m' := (aUI m 143 s1.toNatClampNeg s2)) rfl).trans (cVV ft_M_readKite_157 (as := [.ref 120]) (pc' := 160) (ls' := [(0, .ref 120)]) (st' := []) rfl)))))))
set_option maxHeartbeats 4000000 in
set_option maxRecDepth 100000 in
theorem q_M_readKite_160 (d : Nat)  (m : aMem) : b_M_readKite_160 d  m = (if ¬ m.1 120 2 = 0 then (some m) else (some (aUI m 120 47 ((m.1 120 47) + 1)))) := ((g1V ft_M_readKite_160 (fr' := (161, [(0, .ref 120)], [.ref 120])) (m' := m) rfl).trans ((g1V ft_M_readKite_161 (fr' := (164, [(0, .ref 120)], [.int (m.1 120 2)])) (m' := m) rfl).trans ((b1V ft_M_readKite_164 (p := ¬ m.1 120 2 = 0) (f1 := (177, [(0, .ref 120)], [])) (f2 := (167, [(0, .ref 120)], [])) rfl).trans (ite2 (r1V ft_M_readKite_177 rfl) ((g1V ft_M_readKite_167 (fr' := (168, [(0, .ref 120)], [.ref 120])) (m' := m) rfl).trans ((g1V ft_M_readKite_168 (fr' := (169, [(0, .ref 120)], [.ref 120, .ref 120])) (m' := m) rfl).trans ((g1V ft_M_readKite_169 (fr' := (172, [(0, .ref 120)], [.int (m.1 120 47), .ref 120])) (m' := m) rfl).trans ((g1V ft_M_readKite_172 (fr' := (173, [(0, .ref 120)], [.int 1, .int (m.1 120 47), .ref 120])) (m' := m) rfl).trans ((g1V ft_M_readKite_173 (fr' := (174, [(0, .ref 120)], [.int ((m.1 120 47) + 1), .ref 120])) (m' := m) rfl).trans ((g1V ft_M_readKite_174 (fr' := (177, [(0, .ref 120)], [])) (m' := (aUI m 120 47 ((m.1 120 47) + 1))) rfl).trans (r1V ft_M_readKite_177 rfl)))))))))))
theorem ft_M_oldName_0 : aFetch kc_M_oldName 0 = some (0, .aload_n 0, 1, [], [], [], []) := rfl
theorem ft_M_oldName_1 : aFetch kc_M_oldName 1 = some (1, .getfield 227, 3, [10, 2, 0, 0], [], [], []) := rfl
theorem ft_M_oldName_4 : aFetch kc_M_oldName 4 = some (4, .ifCond .le 5, 3, [], [], [], [(9, [])]) := rfl
theorem ft_M_oldName_7 : aFetch kc_M_oldName 7 = some (7, .iconst 0, 1, [], [.int 0], [], []) := rfl
theorem ft_M_oldName_8 : aFetch kc_M_oldName 8 = some (8, .ireturn, 1, [0], [], [], []) := rfl
theorem ft_M_oldName_9 : aFetch kc_M_oldName 9 = some (9, .aload_n 0, 1, [], [], [], []) := rfl
theorem ft_M_oldName_10 : aFetch kc_M_oldName 10 = some (10, .invokevirtual 306, 3, [169, 1, 1, 1, 10, 1], [], [], []) := rfl
theorem ft_M_oldName_13 : aFetch kc_M_oldName 13 = some (13, .ifCond .ne 11, 3, [], [], [], [(24, [])]) := rfl
theorem ft_M_oldName_16 : aFetch kc_M_oldName 16 = some (16, .aload_n 0, 1, [], [], [], []) := rfl
theorem ft_M_oldName_17 : aFetch kc_M_oldName 17 = some (17, .iconst 2, 1, [], [.int 2], [], []) := rfl
theorem ft_M_oldName_18 : aFetch kc_M_oldName 18 = some (18, .invokevirtual 288, 3, [171, 2, 0, 1, 10, 2], [], [], []) := rfl
theorem ft_M_oldName_21 : aFetch kc_M_oldName 21 = some (21, .goto 17, 3, [], [], [], [(38, [0, 1, 2])]) := rfl
theorem ft_M_oldName_24 : aFetch kc_M_oldName 24 = some (24, .aload_n 0, 1, [], [], [], []) := rfl
theorem ft_M_oldName_25 : aFetch kc_M_oldName 25 = some (25, .iload_n 1, 1, [], [], [], []) := rfl
theorem ft_M_oldName_26 : aFetch kc_M_oldName 26 = some (26, .iload_n 2, 1, [], [], [], []) := rfl
theorem ft_M_oldName_27 : aFetch kc_M_oldName 27 = some (27, .invokevirtual 309, 3, [172, 3, 1, 1, 10, 5], [], [], []) := rfl
theorem ft_M_oldName_30 : aFetch kc_M_oldName 30 = some (30, .ifCond .ge 8, 3, [], [], [], [(38, [0, 1, 2])]) := rfl
theorem ft_M_oldName_33 : aFetch kc_M_oldName 33 = some (33, .aload_n 0, 1, [], [], [], []) := rfl
theorem ft_M_oldName_34 : aFetch kc_M_oldName 34 = some (34, .iconst 5, 1, [], [.int 5], [], []) := rfl
theorem ft_M_oldName_35 : aFetch kc_M_oldName 35 = some (35, .invokevirtual 288, 3, [171, 2, 0, 1, 10, 2], [], [0, 1, 2], []) := rfl
theorem ft_M_oldName_38 : aFetch kc_M_oldName 38 = some (38, .aload_n 0, 1, [], [], [], []) := rfl
theorem ft_M_oldName_39 : aFetch kc_M_oldName 39 = some (39, .getfield 227, 3, [10, 2, 0, 0], [], [], []) := rfl
theorem ft_M_oldName_42 : aFetch kc_M_oldName 42 = some (42, .ifCond .le 7, 3, [], [], [], [(49, [])]) := rfl
theorem ft_M_oldName_45 : aFetch kc_M_oldName 45 = some (45, .iconst 0, 1, [], [.int 0], [], []) := rfl
theorem ft_M_oldName_46 : aFetch kc_M_oldName 46 = some (46, .goto 9, 3, [], [], [], [(55, [])]) := rfl
theorem ft_M_oldName_49 : aFetch kc_M_oldName 49 = some (49, .aload_n 0, 1, [], [], [], []) := rfl
theorem ft_M_oldName_50 : aFetch kc_M_oldName 50 = some (50, .iload_n 1, 1, [], [], [], []) := rfl
theorem ft_M_oldName_51 : aFetch kc_M_oldName 51 = some (51, .iload_n 2, 1, [], [], [], []) := rfl
theorem ft_M_oldName_52 : aFetch kc_M_oldName 52 = some (52, .invokevirtual 309, 3, [172, 3, 1, 1, 10, 5], [], [], []) := rfl
theorem ft_M_oldName_55 : aFetch kc_M_oldName 55 = some (55, .ireturn, 1, [0], [], [], []) := rfl
set_option maxHeartbeats 4000000 in
set_option maxRecDepth 100000 in
theorem q_M_oldName (d : Nat) (x1 : Int32) (x2 : Int32) (m : aMem) : f_M_oldName (d + 1) x1 x2 m = (if m.1 120 2 ≤ 0 then ((f_M_isName d m).bind fun q1 => (if ¬ q1.1 = 0 then ((f_M_find d x1 x2 q1.2).bind fun q2 => (if 0 ≤ q2.1 then (b_M_oldName_38 d x1 x2 q2.2) else ((f_M_wrong d 5 q2.2).bind fun q3 => (b_M_oldName_38 d x1 x2 q3)))) else ((f_M_wrong d 2 q1.2).bind fun q4 => (b_M_oldName_38 d x1 x2 q4)))) else (some (0, m))) := (show f_M_oldName (d + 1) x1 x2 m = eI d kc_M_oldName (0, [(0, .ref 120), (1, .int x1), (2, .int x2)], []) m from rfl).trans ((g1I ft_M_oldName_0 (fr' := (1, [(0, .ref 120), (1, .int x1), (2, .int x2)], [.ref 120])) (m' := m) rfl).trans ((g1I ft_M_oldName_1 (fr' := (4, [(0, .ref 120), (1, .int x1), (2, .int x2)], [.int (m.1 120 2)])) (m' := m) rfl).trans ((b1I ft_M_oldName_4 (p := m.1 120 2 ≤ 0) (f1 := (9, [(0, .ref 120), (1, .int x1), (2, .int x2)], [])) (f2 := (7, [(0, .ref 120), (1, .int x1), (2, .int x2)], [])) rfl).trans (ite2 ((g1I ft_M_oldName_9 (fr' := (10, [(0, .ref 120), (1, .int x1), (2, .int x2)], [.ref 120])) (m' := m) rfl).trans ((cII ft_M_oldName_10 (as := [.ref 120]) (pc' := 13) (ls' := [(0, .ref 120), (1, .int x1), (2, .int x2)]) (st' := []) rfl).trans (bnd2 fun q1 => ((b1I ft_M_oldName_13 (p := ¬ q1.1 = 0) (f1 := (24, [(0, .ref 120), (1, .int x1), (2, .int x2)], [])) (f2 := (16, [(0, .ref 120), (1, .int x1), (2, .int x2)], [])) rfl).trans (ite2 ((g1I ft_M_oldName_24 (fr' := (25, [(0, .ref 120), (1, .int x1), (2, .int x2)], [.ref 120])) (m' := q1.2) rfl).trans ((g1I ft_M_oldName_25 (fr' := (26, [(0, .ref 120), (1, .int x1), (2, .int x2)], [.int x1, .ref 120])) (m' := q1.2) rfl).trans ((g1I ft_M_oldName_26 (fr' := (27, [(0, .ref 120), (1, .int x1), (2, .int x2)], [.int x2, .int x1, .ref 120])) (m' := q1.2) rfl).trans ((cII ft_M_oldName_27 (as := [.ref 120, .int x1, .int x2]) (pc' := 30) (ls' := [(0, .ref 120), (1, .int x1), (2, .int x2)]) (st' := []) rfl).trans (bnd2 fun q2 => ((b1I ft_M_oldName_30 (p := 0 ≤ q2.1) (f1 := (38, [(0, .ref 120), (1, .int x1), (2, .int x2)], [])) (f2 := (33, [(0, .ref 120), (1, .int x1), (2, .int x2)], [])) rfl).trans (ite2 rfl ((g1I ft_M_oldName_33 (fr' := (34, [(0, .ref 120), (1, .int x1), (2, .int x2)], [.ref 120])) (m' := q2.2) rfl).trans ((g1I ft_M_oldName_34 (fr' := (35, [(0, .ref 120), (1, .int x1), (2, .int x2)], [.int 5, .ref 120])) (m' := q2.2) rfl).trans (cVI ft_M_oldName_35 (as := [.ref 120, .int 5]) (pc' := 38) (ls' := [(0, .ref 120), (1, .int x1), (2, .int x2)]) (st' := []) rfl)))))))))) ((g1I ft_M_oldName_16 (fr' := (17, [(0, .ref 120), (1, .int x1), (2, .int x2)], [.ref 120])) (m' := q1.2) rfl).trans ((g1I ft_M_oldName_17 (fr' := (18, [(0, .ref 120), (1, .int x1), (2, .int x2)], [.int 2, .ref 120])) (m' := q1.2) rfl).trans ((cVI ft_M_oldName_18 (as := [.ref 120, .int 2]) (pc' := 21) (ls' := [(0, .ref 120), (1, .int x1), (2, .int x2)]) (st' := []) rfl).trans (bnd2 fun q4 => (g1I ft_M_oldName_21 (fr' := (38, [(0, .ref 120), (1, .int x1), (2, .int x2)], [])) (m' := q4) rfl)))))))))) ((g1I ft_M_oldName_7 (fr' := (8, [(0, .ref 120), (1, .int x1), (2, .int x2)], [.int 0])) (m' := m) rfl).trans (r1I ft_M_oldName_8 rfl))))))
set_option maxHeartbeats 4000000 in
set_option maxRecDepth 100000 in
theorem q_M_oldName_38 (d : Nat) (x1 : Int32) (x2 : Int32) (m : aMem) : b_M_oldName_38 d x1 x2 m = (if m.1 120 2 ≤ 0 then ((f_M_find d x1 x2 m).bind fun q1 => (some (q1.1, q1.2))) else (some (0, m))) := ((g1I ft_M_oldName_38 (fr' := (39, [(0, .ref 120), (1, .int x1), (2, .int x2)], [.ref 120])) (m' := m) rfl).trans ((g1I ft_M_oldName_39 (fr' := (42, [(0, .ref 120), (1, .int x1), (2, .int x2)], [.int (m.1 120 2)])) (m' := m) rfl).trans ((b1I ft_M_oldName_42 (p := m.1 120 2 ≤ 0) (f1 := (49, [(0, .ref 120), (1, .int x1), (2, .int x2)], [])) (f2 := (45, [(0, .ref 120), (1, .int x1), (2, .int x2)], [])) rfl).trans (ite2 ((g1I ft_M_oldName_49 (fr' := (50, [(0, .ref 120), (1, .int x1), (2, .int x2)], [.ref 120])) (m' := m) rfl).trans ((g1I ft_M_oldName_50 (fr' := (51, [(0, .ref 120), (1, .int x1), (2, .int x2)], [.int x1, .ref 120])) (m' := m) rfl).trans ((g1I ft_M_oldName_51 (fr' := (52, [(0, .ref 120), (1, .int x1), (2, .int x2)], [.int x2, .int x1, .ref 120])) (m' := m) rfl).trans ((cII ft_M_oldName_52 (as := [.ref 120, .int x1, .int x2]) (pc' := 55) (ls' := [(0, .ref 120), (1, .int x1), (2, .int x2)]) (st' := []) rfl).trans (bnd2 fun q1 => (r1I ft_M_oldName_55 rfl)))))) ((g1I ft_M_oldName_45 (fr' := (46, [(0, .ref 120), (1, .int x1), (2, .int x2)], [.int 0])) (m' := m) rfl).trans ((g1I ft_M_oldName_46 (fr' := (55, [(0, .ref 120), (1, .int x1), (2, .int x2)], [.int 0])) (m' := m) rfl).trans (r1I ft_M_oldName_55 rfl)))))))
theorem ft_M_option_0 : aFetch kc_M_option 0 = some (0, .aload_n 0, 1, [], [], [], []) := rfl
theorem ft_M_option_1 : aFetch kc_M_option 1 = some (1, .getfield 227, 3, [10, 2, 0, 0], [], [], []) := rfl
theorem ft_M_option_4 : aFetch kc_M_option 4 = some (4, .ifCond .ne 22, 3, [], [], [], [(26, [])]) := rfl
theorem ft_M_option_7 : aFetch kc_M_option 7 = some (7, .aload_n 0, 1, [], [], [], []) := rfl
theorem ft_M_option_8 : aFetch kc_M_option 8 = some (8, .lload_n 1, 1, [], [], [], []) := rfl
theorem ft_M_option_9 : aFetch kc_M_option 9 = some (9, .invokevirtual 284, 3, [166, 2, 1, 1, 10, 3], [], [], []) := rfl
theorem ft_M_option_12 : aFetch kc_M_option 12 = some (12, .ifCond .eq 14, 3, [], [], [], [(26, [])]) := rfl
theorem ft_M_option_15 : aFetch kc_M_option 15 = some (15, .aload_n 0, 1, [], [], [], []) := rfl
theorem ft_M_option_16 : aFetch kc_M_option 16 = some (16, .lload_n 1, 1, [], [], [], []) := rfl
theorem ft_M_option_17 : aFetch kc_M_option 17 = some (17, .iload_n 3, 1, [], [], [], []) := rfl
theorem ft_M_option_18 : aFetch kc_M_option 18 = some (18, .iload 4, 2, [], [], [], []) := rfl
theorem ft_M_option_20 : aFetch kc_M_option 20 = some (20, .invokevirtual 302, 3, [173, 4, 1, 1, 10, 5], [], [], []) := rfl
theorem ft_M_option_23 : aFetch kc_M_option 23 = some (23, .goto 5, 3, [], [], [], [(28, [])]) := rfl
theorem ft_M_option_26 : aFetch kc_M_option 26 = some (26, .iload 5, 2, [], [], [], []) := rfl
theorem ft_M_option_28 : aFetch kc_M_option 28 = some (28, .ireturn, 1, [0], [], [], []) := rfl
set_option maxHeartbeats 4000000 in
set_option maxRecDepth 100000 in
theorem q_M_option (d : Nat) (w1 : Int64) (x3 : Int32) (x4 : Int32) (x5 : Int32) (m : aMem) : f_M_option (d + 1) w1 x3 x4 x5 m = (if ¬ m.1 120 2 = 0 then (some (x5, m)) else ((f_M_isWord d w1 m).bind fun q1 => (if q1.1 = 0 then (some (x5, q1.2)) else ((f_M_told d w1 x3 x4 q1.2).bind fun q2 => (some (q2.1, q2.2)))))) := (show f_M_option (d + 1) w1 x3 x4 x5 m = eI d kc_M_option (0, [(0, .ref 120), (1, .long w1), (3, .int x3), (4, .int x4), (5, .int x5)], []) m from rfl).trans ((g1I ft_M_option_0 (fr' := (1, [(0, .ref 120), (1, .long w1), (3, .int x3), (4, .int x4), (5, .int x5)], [.ref 120])) (m' := m) rfl).trans ((g1I ft_M_option_1 (fr' := (4, [(0, .ref 120), (1, .long w1), (3, .int x3), (4, .int x4), (5, .int x5)], [.int (m.1 120 2)])) (m' := m) rfl).trans ((b1I ft_M_option_4 (p := ¬ m.1 120 2 = 0) (f1 := (26, [(0, .ref 120), (1, .long w1), (3, .int x3), (4, .int x4), (5, .int x5)], [])) (f2 := (7, [(0, .ref 120), (1, .long w1), (3, .int x3), (4, .int x4), (5, .int x5)], [])) rfl).trans (ite2 ((g1I ft_M_option_26 (fr' := (28, [(0, .ref 120), (1, .long w1), (3, .int x3), (4, .int x4), (5, .int x5)], [.int x5])) (m' := m) rfl).trans (r1I ft_M_option_28 rfl)) ((g1I ft_M_option_7 (fr' := (8, [(0, .ref 120), (1, .long w1), (3, .int x3), (4, .int x4), (5, .int x5)], [.ref 120])) (m' := m) rfl).trans ((g1I ft_M_option_8 (fr' := (9, [(0, .ref 120), (1, .long w1), (3, .int x3), (4, .int x4), (5, .int x5)], [.long w1, .ref 120])) (m' := m) rfl).trans ((cII ft_M_option_9 (as := [.ref 120, .long w1]) (pc' := 12) (ls' := [(0, .ref 120), (1, .long w1), (3, .int x3), (4, .int x4), (5, .int x5)]) (st' := []) rfl).trans (bnd2 fun q1 => ((b1I ft_M_option_12 (p := q1.1 = 0) (f1 := (26, [(0, .ref 120), (1, .long w1), (3, .int x3), (4, .int x4), (5, .int x5)], [])) (f2 := (15, [(0, .ref 120), (1, .long w1), (3, .int x3), (4, .int x4), (5, .int x5)], [])) rfl).trans (ite2 ((g1I ft_M_option_26 (fr' := (28, [(0, .ref 120), (1, .long w1), (3, .int x3), (4, .int x4), (5, .int x5)], [.int x5])) (m' := q1.2) rfl).trans (r1I ft_M_option_28 rfl)) ((g1I ft_M_option_15 (fr' := (16, [(0, .ref 120), (1, .long w1), (3, .int x3), (4, .int x4), (5, .int x5)], [.ref 120])) (m' := q1.2) rfl).trans ((g1I ft_M_option_16 (fr' := (17, [(0, .ref 120), (1, .long w1), (3, .int x3), (4, .int x4), (5, .int x5)], [.long w1, .ref 120])) (m' := q1.2) rfl).trans ((g1I ft_M_option_17 (fr' := (18, [(0, .ref 120), (1, .long w1), (3, .int x3), (4, .int x4), (5, .int x5)], [.int x3, .long w1, .ref 120])) (m' := q1.2) rfl).trans ((g1I ft_M_option_18 (fr' := (20, [(0, .ref 120), (1, .long w1), (3, .int x3), (4, .int x4), (5, .int x5)], [.int x4, .int x3, .long w1, .ref 120])) (m' := q1.2) rfl).trans ((cII ft_M_option_20 (as := [.ref 120, .long w1, .int x3, .int x4]) (pc' := 23) (ls' := [(0, .ref 120), (1, .long w1), (3, .int x3), (4, .int x4), (5, .int x5)]) (st' := []) rfl).trans (bnd2 fun q2 => ((g1I ft_M_option_23 (fr' := (28, [(0, .ref 120), (1, .long w1), (3, .int x3), (4, .int x4), (5, .int x5)], [.int q2.1])) (m' := q2.2) rfl).trans (r1I ft_M_option_28 rfl))))))))))))))))))
set_option maxRecDepth 100000 in
theorem ft_M_readBoy_0 : aFetch kc_M_readBoy 0 = some (0, .aload_n 0, 1, [], [], [], []) := rfl
set_option maxRecDepth 100000 in
theorem ft_M_readBoy_1 : aFetch kc_M_readBoy 1 = some (1, .bipush 12, 2, [], [.int 12], [], []) := rfl
set_option maxRecDepth 100000 in
theorem ft_M_readBoy_3 : aFetch kc_M_readBoy 3 = some (3, .aload_n 0, 1, [], [], [], []) := rfl
set_option maxRecDepth 100000 in
theorem ft_M_readBoy_4 : aFetch kc_M_readBoy 4 = some (4, .getfield 389, 3, [10, 48, 0, 0], [], [], []) := rfl
set_option maxRecDepth 100000 in
theorem ft_M_readBoy_7 : aFetch kc_M_readBoy 7 = some (7, .invokevirtual 376, 3, [168, 3, 0, 1, 10, 3], [], [], []) := rfl
set_option maxRecDepth 100000 in
theorem ft_M_readBoy_10 : aFetch kc_M_readBoy 10 = some (10, .aload_n 0, 1, [], [], [], []) := rfl
set_option maxRecDepth 100000 in
theorem ft_M_readBoy_11 : aFetch kc_M_readBoy 11 = some (11, .getfield 97, 3, [10, 42, 3, 1], [], [], []) := rfl
set_option maxRecDepth 100000 in
theorem ft_M_readBoy_14 : aFetch kc_M_readBoy 14 = some (14, .aload_n 0, 1, [], [], [], []) := rfl
set_option maxRecDepth 100000 in
theorem ft_M_readBoy_15 : aFetch kc_M_readBoy 15 = some (15, .getfield 389, 3, [10, 48, 0, 0], [], [], []) := rfl
set_option maxRecDepth 100000 in
theorem ft_M_readBoy_18 : aFetch kc_M_readBoy 18 = some (18, .aload_n 0, 1, [], [], [], []) := rfl
set_option maxRecDepth 100000 in
theorem ft_M_readBoy_19 : aFetch kc_M_readBoy 19 = some (19, .ldc2_w 250, 3, [], [.long 1634889075], [], []) := rfl
set_option maxRecDepth 100000 in
theorem ft_M_readBoy_22 : aFetch kc_M_readBoy 22 = some (22, .iconst 1, 1, [], [.int 1], [], []) := rfl
set_option maxRecDepth 100000 in
theorem ft_M_readBoy_23 : aFetch kc_M_readBoy 23 = some (23, .sipush 999, 3, [], [.int 999], [], []) := rfl
set_option maxRecDepth 100000 in
theorem ft_M_readBoy_26 : aFetch kc_M_readBoy 26 = some (26, .invokevirtual 302, 3, [173, 4, 1, 1, 10, 5], [], [], []) := rfl
set_option maxRecDepth 100000 in
theorem ft_M_readBoy_29 : aFetch kc_M_readBoy 29 = some (29, .iastore, 1, [], [], [], []) := rfl
set_option maxRecDepth 100000 in
theorem ft_M_readBoy_30 : aFetch kc_M_readBoy 30 = some (30, .aload_n 0, 1, [], [], [], []) := rfl
set_option maxRecDepth 100000 in
theorem ft_M_readBoy_31 : aFetch kc_M_readBoy 31 = some (31, .getfield 100, 3, [10, 43, 3, 1], [], [], []) := rfl
set_option maxRecDepth 100000 in
theorem ft_M_readBoy_34 : aFetch kc_M_readBoy 34 = some (34, .aload_n 0, 1, [], [], [], []) := rfl
set_option maxRecDepth 100000 in
theorem ft_M_readBoy_35 : aFetch kc_M_readBoy 35 = some (35, .getfield 389, 3, [10, 48, 0, 0], [], [], []) := rfl
set_option maxRecDepth 100000 in
theorem ft_M_readBoy_38 : aFetch kc_M_readBoy 38 = some (38, .aload_n 0, 1, [], [], [], []) := rfl
set_option maxRecDepth 100000 in
theorem ft_M_readBoy_39 : aFetch kc_M_readBoy 39 = some (39, .ldc2_w 252, 3, [], [.long 448546566771], [], []) := rfl
set_option maxRecDepth 100000 in
theorem ft_M_readBoy_42 : aFetch kc_M_readBoy 42 = some (42, .iconst 1, 1, [], [.int 1], [], []) := rfl
set_option maxRecDepth 100000 in
theorem ft_M_readBoy_43 : aFetch kc_M_readBoy 43 = some (43, .bipush 24, 2, [], [.int 24], [], []) := rfl
set_option maxRecDepth 100000 in
theorem ft_M_readBoy_45 : aFetch kc_M_readBoy 45 = some (45, .iconst 4, 1, [], [.int 4], [], []) := rfl
set_option maxRecDepth 100000 in
theorem ft_M_readBoy_46 : aFetch kc_M_readBoy 46 = some (46, .invokevirtual 385, 3, [178, 5, 1, 1, 10, 6], [], [], []) := rfl
set_option maxRecDepth 100000 in
theorem ft_M_readBoy_49 : aFetch kc_M_readBoy 49 = some (49, .iastore, 1, [], [], [], []) := rfl
set_option maxRecDepth 100000 in
theorem ft_M_readBoy_50 : aFetch kc_M_readBoy 50 = some (50, .aload_n 0, 1, [], [], [], []) := rfl
set_option maxRecDepth 100000 in
theorem ft_M_readBoy_51 : aFetch kc_M_readBoy 51 = some (51, .getfield 227, 3, [10, 2, 0, 0], [], [], []) := rfl
set_option maxRecDepth 100000 in
theorem ft_M_readBoy_54 : aFetch kc_M_readBoy 54 = some (54, .ifCond .ne 13, 3, [], [], [], [(67, [])]) := rfl
set_option maxRecDepth 100000 in
theorem ft_M_readBoy_57 : aFetch kc_M_readBoy 57 = some (57, .aload_n 0, 1, [], [], [], []) := rfl
set_option maxRecDepth 100000 in
theorem ft_M_readBoy_58 : aFetch kc_M_readBoy 58 = some (58, .dup, 1, [], [], [], []) := rfl
set_option maxRecDepth 100000 in
theorem ft_M_readBoy_59 : aFetch kc_M_readBoy 59 = some (59, .getfield 389, 3, [10, 48, 0, 0], [], [], []) := rfl
set_option maxRecDepth 100000 in
theorem ft_M_readBoy_62 : aFetch kc_M_readBoy 62 = some (62, .iconst 1, 1, [], [.int 1], [], []) := rfl
set_option maxRecDepth 100000 in
theorem ft_M_readBoy_63 : aFetch kc_M_readBoy 63 = some (63, .iadd, 1, [], [], [], []) := rfl
set_option maxRecDepth 100000 in
theorem ft_M_readBoy_64 : aFetch kc_M_readBoy 64 = some (64, .putfield 389, 3, [10, 48, 0, 0], [], [], []) := rfl
set_option maxRecDepth 100000 in
theorem ft_M_readBoy_67 : aFetch kc_M_readBoy 67 = some (67, .return_, 1, [], [], [], []) := rfl
set_option maxHeartbeats 4000000 in
set_option maxRecDepth 100000 in
theorem q_M_readBoy (d : Nat)  (m : aMem) : f_M_readBoy (d + 1)  m = ((f_M_newName d 12 (m.1 120 48) m).bind fun q1 => ((f_M_told d 1634889075 1 999 q1).bind fun q2 => (grd (inb (q1.1 120 48) 4) ((f_M_option d 448546566771 1 24 4 (aUI q2.2 148 ((q1.1 120 48 : Int32).toNatClampNeg) q2.1)).bind fun q3 => (grd (inb (q2.2.1 120 48) 4) (if ¬ q3.2.1 120 2 = 0 then (some (aUI q3.2 149 ((q2.2.1 120 48 : Int32).toNatClampNeg) q3.1)) else (some (aUI (aUI q3.2 149 ((q2.2.1 120 48 : Int32).toNatClampNeg) q3.1) 120 48 ((q3.2.1 120 48) + 1))))))))) := (show f_M_readBoy (d + 1)  m = eV d kc_M_readBoy (0, [(0, .ref 120)], []) m from rfl).trans ((g1V ft_M_readBoy_0 (fr' := (1, [(0, .ref 120)], [.ref 120])) (m' := m) rfl).trans ((g1V ft_M_readBoy_1 (fr' := (3, [(0, .ref 120)], [.int 12, .ref 120])) (m' := m) rfl).trans ((g1V ft_M_readBoy_3 (fr' := (4, [(0, .ref 120)], [.ref 120, .int 12, .ref 120])) (m' := m) rfl).trans ((g1V ft_M_readBoy_4 (fr' := (7, [(0, .ref 120)], [.int (m.1 120 48), .int 12, .ref 120])) (m' := m) rfl).trans ((cVV ft_M_readBoy_7 (as := [.ref 120, .int 12, .int (m.1 120 48)]) (pc' := 10) (ls' := [(0, .ref 120)]) (st' := []) rfl).trans (bnd2 fun q1 => ((g1V ft_M_readBoy_10 (fr' := (11, [(0, .ref 120)], [.ref 120])) (m' := q1) rfl).trans ((g1V ft_M_readBoy_11 (fr' := (14, [(0, .ref 120)], [.ref 148])) (m' := q1) rfl).trans ((g1V ft_M_readBoy_14 (fr' := (15, [(0, .ref 120)], [.ref 120, .ref 148])) (m' := q1) rfl).trans ((g1V ft_M_readBoy_15 (fr' := (18, [(0, .ref 120)], [.int (q1.1 120 48), .ref 148])) (m' := q1) rfl).trans ((g1V ft_M_readBoy_18 (fr' := (19, [(0, .ref 120)], [.ref 120, .int (q1.1 120 48), .ref 148])) (m' := q1) rfl).trans ((g1V ft_M_readBoy_19 (fr' := (22, [(0, .ref 120)], [.long 1634889075, .ref 120, .int (q1.1 120 48), .ref 148])) (m' := q1) rfl).trans ((g1V ft_M_readBoy_22 (fr' := (23, [(0, .ref 120)], [.int 1, .long 1634889075, .ref 120, .int (q1.1 120 48), .ref 148])) (m' := q1) rfl).trans ((g1V ft_M_readBoy_23 (fr' := (26, [(0, .ref 120)], [.int 999, .int 1, .long 1634889075, .ref 120, .int (q1.1 120 48), .ref 148])) (m' := q1) rfl).trans ((cIV ft_M_readBoy_26 (as := [.ref 120, .long 1634889075, .int 1, .int 999]) (pc' := 29) (ls' := [(0, .ref 120)]) (st' := [.int (q1.1 120 48), .ref 148]) rfl).trans (bnd2 fun q2 => ((g1Vg ft_M_readBoy_29 (g := inb (q1.1 120 48) 4) (fr' := (30, [(0, .ref 120)], [])) (m' := (aUI q2.2 148 ((q1.1 120 48 : Int32).toNatClampNeg) q2.1)) (st_is rfl)).trans (grd2 ((g1V ft_M_readBoy_30 (fr' := (31, [(0, .ref 120)], [.ref 120])) (m' := (aUI q2.2 148 ((q1.1 120 48 : Int32).toNatClampNeg) q2.1)) rfl).trans ((g1V ft_M_readBoy_31 (fr' := (34, [(0, .ref 120)], [.ref 149])) (m' := (aUI q2.2 148 ((q1.1 120 48 : Int32).toNatClampNeg) q2.1)) rfl).trans ((g1V ft_M_readBoy_34 (fr' := (35, [(0, .ref 120)], [.ref 120, .ref 149])) (m' := (aUI q2.2 148 ((q1.1 120 48 : Int32).toNatClampNeg) q2.1)) rfl).trans ((g1V ft_M_readBoy_35 (fr' := (38, [(0, .ref 120)], [.int (q2.2.1 120 48), .ref 149])) (m' := (aUI q2.2 148 ((q1.1 120 48 : Int32).toNatClampNeg) q2.1)) rfl).trans ((g1V ft_M_readBoy_38 (fr' := (39, [(0, .ref 120)], [.ref 120, .int (q2.2.1 120 48), .ref 149])) (m' := (aUI q2.2 148 ((q1.1 120 48 : Int32).toNatClampNeg) q2.1)) rfl).trans ((g1V ft_M_readBoy_39 (fr' := (42, [(0, .ref 120)], [.long 448546566771, .ref 120, .int (q2.2.1 120 48), .ref 149])) (m' := (aUI q2.2 148 ((q1.1 120 48 : Int32).toNatClampNeg) q2.1)) rfl).trans ((g1V ft_M_readBoy_42 (fr' := (43, [(0, .ref 120)], [.int 1, .long 448546566771, .ref 120, .int (q2.2.1 120 48), .ref 149])) (m' := (aUI q2.2 148 ((q1.1 120 48 : Int32).toNatClampNeg) q2.1)) rfl).trans ((g1V ft_M_readBoy_43 (fr' := (45, [(0, .ref 120)], [.int 24, .int 1, .long 448546566771, .ref 120, .int (q2.2.1 120 48), .ref 149])) (m' := (aUI q2.2 148 ((q1.1 120 48 : Int32).toNatClampNeg) q2.1)) rfl).trans ((g1V ft_M_readBoy_45 (fr' := (46, [(0, .ref 120)], [.int 4, .int 24, .int 1, .long 448546566771, .ref 120, .int (q2.2.1 120 48), .ref 149])) (m' := (aUI q2.2 148 ((q1.1 120 48 : Int32).toNatClampNeg) q2.1)) rfl).trans ((cIV ft_M_readBoy_46 (as := [.ref 120, .long 448546566771, .int 1, .int 24, .int 4]) (pc' := 49) (ls' := [(0, .ref 120)]) (st' := [.int (q2.2.1 120 48), .ref 149]) rfl).trans (bnd2 fun q3 => ((g1Vg ft_M_readBoy_49 (g := inb (q2.2.1 120 48) 4) (fr' := (50, [(0, .ref 120)], [])) (m' := (aUI q3.2 149 ((q2.2.1 120 48 : Int32).toNatClampNeg) q3.1)) (st_is rfl)).trans (grd2 ((g1V ft_M_readBoy_50 (fr' := (51, [(0, .ref 120)], [.ref 120])) (m' := (aUI q3.2 149 ((q2.2.1 120 48 : Int32).toNatClampNeg) q3.1)) rfl).trans ((g1V ft_M_readBoy_51 (fr' := (54, [(0, .ref 120)], [.int (q3.2.1 120 2)])) (m' := (aUI q3.2 149 ((q2.2.1 120 48 : Int32).toNatClampNeg) q3.1)) rfl).trans ((b1V ft_M_readBoy_54 (p := ¬ q3.2.1 120 2 = 0) (f1 := (67, [(0, .ref 120)], [])) (f2 := (57, [(0, .ref 120)], [])) rfl).trans (ite2 (r1V ft_M_readBoy_67 rfl) ((g1V ft_M_readBoy_57 (fr' := (58, [(0, .ref 120)], [.ref 120])) (m' := (aUI q3.2 149 ((q2.2.1 120 48 : Int32).toNatClampNeg) q3.1)) rfl).trans ((g1V ft_M_readBoy_58 (fr' := (59, [(0, .ref 120)], [.ref 120, .ref 120])) (m' := (aUI q3.2 149 ((q2.2.1 120 48 : Int32).toNatClampNeg) q3.1)) rfl).trans ((g1V ft_M_readBoy_59 (fr' := (62, [(0, .ref 120)], [.int (q3.2.1 120 48), .ref 120])) (m' := (aUI q3.2 149 ((q2.2.1 120 48 : Int32).toNatClampNeg) q3.1)) rfl).trans ((g1V ft_M_readBoy_62 (fr' := (63, [(0, .ref 120)], [.int 1, .int (q3.2.1 120 48), .ref 120])) (m' := (aUI q3.2 149 ((q2.2.1 120 48 : Int32).toNatClampNeg) q3.1)) rfl).trans ((g1V ft_M_readBoy_63 (fr' := (64, [(0, .ref 120)], [.int ((q3.2.1 120 48) + 1), .ref 120])) (m' := (aUI q3.2 149 ((q2.2.1 120 48 : Int32).toNatClampNeg) q3.1)) rfl).trans ((g1V ft_M_readBoy_64 (fr' := (67, [(0, .ref 120)], [])) (m' := (aUI (aUI q3.2 149 ((q2.2.1 120 48 : Int32).toNatClampNeg) q3.1) 120 48 ((q3.2.1 120 48) + 1))) rfl).trans (r1V ft_M_readBoy_67 rfl))))))))))))))))))))))))))))))))))))))))))
set_option maxRecDepth 100000 in
theorem ft_M_readHolds_0 : aFetch kc_M_readHolds 0 = some (0, .aload_n 0, 1, [], [], [], []) := rfl
set_option maxRecDepth 100000 in
theorem ft_M_readHolds_1 : aFetch kc_M_readHolds 1 = some (1, .invokevirtual 291, 3, [160, 1, 0, 1, 10, 3], [], [], []) := rfl
set_option maxRecDepth 100000 in
theorem ft_M_readHolds_4 : aFetch kc_M_readHolds 4 = some (4, .aload_n 0, 1, [], [], [], []) := rfl
set_option maxRecDepth 100000 in
theorem ft_M_readHolds_5 : aFetch kc_M_readHolds 5 = some (5, .bipush 12, 2, [], [.int 12], [], []) := rfl
set_option maxRecDepth 100000 in
theorem ft_M_readHolds_7 : aFetch kc_M_readHolds 7 = some (7, .aload_n 0, 1, [], [], [], []) := rfl
set_option maxRecDepth 100000 in
theorem ft_M_readHolds_8 : aFetch kc_M_readHolds 8 = some (8, .getfield 389, 3, [10, 48, 0, 0], [], [], []) := rfl
set_option maxRecDepth 100000 in
theorem ft_M_readHolds_11 : aFetch kc_M_readHolds 11 = some (11, .invokevirtual 382, 3, [177, 3, 1, 1, 10, 3], [], [], []) := rfl
set_option maxRecDepth 100000 in
theorem ft_M_readHolds_14 : aFetch kc_M_readHolds 14 = some (14, .istore_n 1, 1, [], [], [], []) := rfl
set_option maxRecDepth 100000 in
theorem ft_M_readHolds_15 : aFetch kc_M_readHolds 15 = some (15, .aload_n 0, 1, [], [], [], []) := rfl
set_option maxRecDepth 100000 in
theorem ft_M_readHolds_16 : aFetch kc_M_readHolds 16 = some (16, .getfield 227, 3, [10, 2, 0, 0], [], [], []) := rfl
set_option maxRecDepth 100000 in
theorem ft_M_readHolds_19 : aFetch kc_M_readHolds 19 = some (19, .ifCond .ne 7, 3, [], [], [], [(26, [0, 1])]) := rfl
set_option maxRecDepth 100000 in
theorem ft_M_readHolds_22 : aFetch kc_M_readHolds 22 = some (22, .aload_n 0, 1, [], [], [], []) := rfl
set_option maxRecDepth 100000 in
theorem ft_M_readHolds_23 : aFetch kc_M_readHolds 23 = some (23, .invokevirtual 291, 3, [160, 1, 0, 1, 10, 3], [], [0, 1], []) := rfl
set_option maxRecDepth 100000 in
theorem ft_M_readHolds_26 : aFetch kc_M_readHolds 26 = some (26, .aload_n 0, 1, [], [], [], []) := rfl
set_option maxRecDepth 100000 in
theorem ft_M_readHolds_27 : aFetch kc_M_readHolds 27 = some (27, .iconst 4, 1, [], [.int 4], [], []) := rfl
set_option maxRecDepth 100000 in
theorem ft_M_readHolds_28 : aFetch kc_M_readHolds 28 = some (28, .aload_n 0, 1, [], [], [], []) := rfl
set_option maxRecDepth 100000 in
theorem ft_M_readHolds_29 : aFetch kc_M_readHolds 29 = some (29, .getfield 379, 3, [10, 47, 0, 0], [], [], []) := rfl
set_option maxRecDepth 100000 in
theorem ft_M_readHolds_32 : aFetch kc_M_readHolds 32 = some (32, .invokevirtual 382, 3, [177, 3, 1, 1, 10, 3], [], [], []) := rfl
set_option maxRecDepth 100000 in
theorem ft_M_readHolds_35 : aFetch kc_M_readHolds 35 = some (35, .istore_n 2, 1, [], [], [], []) := rfl
set_option maxRecDepth 100000 in
theorem ft_M_readHolds_36 : aFetch kc_M_readHolds 36 = some (36, .aload_n 0, 1, [], [], [], []) := rfl
set_option maxRecDepth 100000 in
theorem ft_M_readHolds_37 : aFetch kc_M_readHolds 37 = some (37, .getfield 227, 3, [10, 2, 0, 0], [], [], []) := rfl
set_option maxRecDepth 100000 in
theorem ft_M_readHolds_40 : aFetch kc_M_readHolds 40 = some (40, .ifCond .ne 18, 3, [], [], [], [(58, [0, 1, 2])]) := rfl
set_option maxRecDepth 100000 in
theorem ft_M_readHolds_43 : aFetch kc_M_readHolds 43 = some (43, .aload_n 0, 1, [], [], [], []) := rfl
set_option maxRecDepth 100000 in
theorem ft_M_readHolds_44 : aFetch kc_M_readHolds 44 = some (44, .getfield 82, 3, [10, 37, 3, 1], [], [], []) := rfl
set_option maxRecDepth 100000 in
theorem ft_M_readHolds_47 : aFetch kc_M_readHolds 47 = some (47, .iload_n 2, 1, [], [], [], []) := rfl
set_option maxRecDepth 100000 in
theorem ft_M_readHolds_48 : aFetch kc_M_readHolds 48 = some (48, .iaload, 1, [1], [], [], []) := rfl
set_option maxRecDepth 100000 in
theorem ft_M_readHolds_49 : aFetch kc_M_readHolds 49 = some (49, .iconst (-1), 1, [], [.int (-1)], [], []) := rfl
set_option maxRecDepth 100000 in
theorem ft_M_readHolds_50 : aFetch kc_M_readHolds 50 = some (50, .if_icmp .eq 8, 3, [], [], [], [(58, [0, 1, 2])]) := rfl
set_option maxRecDepth 100000 in
theorem ft_M_readHolds_53 : aFetch kc_M_readHolds 53 = some (53, .aload_n 0, 1, [], [], [], []) := rfl
set_option maxRecDepth 100000 in
theorem ft_M_readHolds_54 : aFetch kc_M_readHolds 54 = some (54, .iconst 3, 1, [], [.int 3], [], []) := rfl
set_option maxRecDepth 100000 in
theorem ft_M_readHolds_55 : aFetch kc_M_readHolds 55 = some (55, .invokevirtual 288, 3, [171, 2, 0, 1, 10, 2], [], [0, 1, 2], []) := rfl
set_option maxRecDepth 100000 in
theorem ft_M_readHolds_58 : aFetch kc_M_readHolds 58 = some (58, .aload_n 0, 1, [], [], [], []) := rfl
set_option maxRecDepth 100000 in
theorem ft_M_readHolds_59 : aFetch kc_M_readHolds 59 = some (59, .getfield 227, 3, [10, 2, 0, 0], [], [], []) := rfl
set_option maxRecDepth 100000 in
theorem ft_M_readHolds_62 : aFetch kc_M_readHolds 62 = some (62, .ifCond .le 4, 3, [], [], [], [(66, [])]) := rfl
set_option maxRecDepth 100000 in
theorem ft_M_readHolds_65 : aFetch kc_M_readHolds 65 = some (65, .return_, 1, [], [], [], []) := rfl
set_option maxRecDepth 100000 in
theorem ft_M_readHolds_66 : aFetch kc_M_readHolds 66 = some (66, .aload_n 0, 1, [], [], [], []) := rfl
set_option maxRecDepth 100000 in
theorem ft_M_readHolds_67 : aFetch kc_M_readHolds 67 = some (67, .getfield 82, 3, [10, 37, 3, 1], [], [], []) := rfl
set_option maxRecDepth 100000 in
theorem ft_M_readHolds_70 : aFetch kc_M_readHolds 70 = some (70, .iload_n 2, 1, [], [], [], []) := rfl
set_option maxRecDepth 100000 in
theorem ft_M_readHolds_71 : aFetch kc_M_readHolds 71 = some (71, .iload_n 1, 1, [], [], [], []) := rfl
set_option maxRecDepth 100000 in
theorem ft_M_readHolds_72 : aFetch kc_M_readHolds 72 = some (72, .iastore, 1, [], [], [], []) := rfl
set_option maxRecDepth 100000 in
theorem ft_M_readHolds_73 : aFetch kc_M_readHolds 73 = some (73, .aload_n 0, 1, [], [], [], []) := rfl
set_option maxRecDepth 100000 in
theorem ft_M_readHolds_74 : aFetch kc_M_readHolds 74 = some (74, .invokevirtual 291, 3, [160, 1, 0, 1, 10, 3], [], [], []) := rfl
set_option maxRecDepth 100000 in
theorem ft_M_readHolds_77 : aFetch kc_M_readHolds 77 = some (77, .return_, 1, [], [], [], []) := rfl
set_option maxHeartbeats 4000000 in
set_option maxRecDepth 100000 in
theorem q_M_readHolds (d : Nat)  (m : aMem) : f_M_readHolds (d + 1)  m = ((f_M_token d m).bind fun q1 => ((f_M_oldName d 12 (q1.1 120 48) q1).bind fun q2 => (if ¬ q2.2.1 120 2 = 0 then (b_M_readHolds_26 d q2.1 q2.2) else ((f_M_token d q2.2).bind fun q3 => (b_M_readHolds_26 d q2.1 q3))))) := (show f_M_readHolds (d + 1)  m = eV d kc_M_readHolds (0, [(0, .ref 120)], []) m from rfl).trans ((g1V ft_M_readHolds_0 (fr' := (1, [(0, .ref 120)], [.ref 120])) (m' := m) rfl).trans ((cVV ft_M_readHolds_1 (as := [.ref 120]) (pc' := 4) (ls' := [(0, .ref 120)]) (st' := []) rfl).trans (bnd2 fun q1 => ((g1V ft_M_readHolds_4 (fr' := (5, [(0, .ref 120)], [.ref 120])) (m' := q1) rfl).trans ((g1V ft_M_readHolds_5 (fr' := (7, [(0, .ref 120)], [.int 12, .ref 120])) (m' := q1) rfl).trans ((g1V ft_M_readHolds_7 (fr' := (8, [(0, .ref 120)], [.ref 120, .int 12, .ref 120])) (m' := q1) rfl).trans ((g1V ft_M_readHolds_8 (fr' := (11, [(0, .ref 120)], [.int (q1.1 120 48), .int 12, .ref 120])) (m' := q1) rfl).trans ((cIV ft_M_readHolds_11 (as := [.ref 120, .int 12, .int (q1.1 120 48)]) (pc' := 14) (ls' := [(0, .ref 120)]) (st' := []) rfl).trans (bnd2 fun q2 => ((g1V ft_M_readHolds_14 (fr' := (15, [(1, .int q2.1), (0, .ref 120)], [])) (m' := q2.2) rfl).trans ((g1V ft_M_readHolds_15 (fr' := (16, [(1, .int q2.1), (0, .ref 120)], [.ref 120])) (m' := q2.2) rfl).trans ((g1V ft_M_readHolds_16 (fr' := (19, [(1, .int q2.1), (0, .ref 120)], [.int (q2.2.1 120 2)])) (m' := q2.2) rfl).trans ((b1V ft_M_readHolds_19 (p := ¬ q2.2.1 120 2 = 0) (f1 := (26, [(0, .ref 120), (1, .int q2.1)], [])) (f2 := (22, [(1, .int q2.1), (0, .ref 120)], [])) rfl).trans (ite2 rfl ((g1V ft_M_readHolds_22 (fr' := (23, [(1, .int q2.1), (0, .ref 120)], [.ref 120])) (m' := q2.2) rfl).trans (cVV ft_M_readHolds_23 (as := [.ref 120]) (pc' := 26) (ls' := [(0, .ref 120), (1, .int q2.1)]) (st' := []) rfl))))))))))))))))
set_option maxHeartbeats 4000000 in
set_option maxRecDepth 100000 in
theorem q_M_readHolds_26 (d : Nat) (x1 : Int32) (m : aMem) : b_M_readHolds_26 d x1 m = ((f_M_oldName d 4 (m.1 120 47) m).bind fun q1 => (if ¬ q1.2.1 120 2 = 0 then (b_M_readHolds_58 d x1 q1.1 q1.2) else (grd (inb q1.1 8) (if q1.2.1 143 ((q1.1 : Int32).toNatClampNeg) = (-1) then (b_M_readHolds_58 d x1 q1.1 q1.2) else ((f_M_wrong d 3 q1.2).bind fun q2 => (b_M_readHolds_58 d x1 q1.1 q2)))))) := ((g1V ft_M_readHolds_26 (fr' := (27, [(0, .ref 120), (1, .int x1)], [.ref 120])) (m' := m) rfl).trans ((g1V ft_M_readHolds_27 (fr' := (28, [(0, .ref 120), (1, .int x1)], [.int 4, .ref 120])) (m' := m) rfl).trans ((g1V ft_M_readHolds_28 (fr' := (29, [(0, .ref 120), (1, .int x1)], [.ref 120, .int 4, .ref 120])) (m' := m) rfl).trans ((g1V ft_M_readHolds_29 (fr' := (32, [(0, .ref 120), (1, .int x1)], [.int (m.1 120 47), .int 4, .ref 120])) (m' := m) rfl).trans ((cIV ft_M_readHolds_32 (as := [.ref 120, .int 4, .int (m.1 120 47)]) (pc' := 35) (ls' := [(0, .ref 120), (1, .int x1)]) (st' := []) rfl).trans (bnd2 fun q1 => ((g1V ft_M_readHolds_35 (fr' := (36, [(2, .int q1.1), (0, .ref 120), (1, .int x1)], [])) (m' := q1.2) rfl).trans ((g1V ft_M_readHolds_36 (fr' := (37, [(2, .int q1.1), (0, .ref 120), (1, .int x1)], [.ref 120])) (m' := q1.2) rfl).trans ((g1V ft_M_readHolds_37 (fr' := (40, [(2, .int q1.1), (0, .ref 120), (1, .int x1)], [.int (q1.2.1 120 2)])) (m' := q1.2) rfl).trans ((b1V ft_M_readHolds_40 (p := ¬ q1.2.1 120 2 = 0) (f1 := (58, [(0, .ref 120), (1, .int x1), (2, .int q1.1)], [])) (f2 := (43, [(2, .int q1.1), (0, .ref 120), (1, .int x1)], [])) rfl).trans (ite2 rfl ((g1V ft_M_readHolds_43 (fr' := (44, [(2, .int q1.1), (0, .ref 120), (1, .int x1)], [.ref 120])) (m' := q1.2) rfl).trans ((g1V ft_M_readHolds_44 (fr' := (47, [(2, .int q1.1), (0, .ref 120), (1, .int x1)], [.ref 143])) (m' := q1.2) rfl).trans ((g1V ft_M_readHolds_47 (fr' := (48, [(2, .int q1.1), (0, .ref 120), (1, .int x1)], [.int q1.1, .ref 143])) (m' := q1.2) rfl).trans ((g1Vg ft_M_readHolds_48 (g := inb q1.1 8) (fr' := (49, [(2, .int q1.1), (0, .ref 120), (1, .int x1)], [.int (q1.2.1 143 ((q1.1 : Int32).toNatClampNeg))])) (m' := q1.2) (st_ia rfl)).trans (grd2 ((g1V ft_M_readHolds_49 (fr' := (50, [(2, .int q1.1), (0, .ref 120), (1, .int x1)], [.int (-1), .int (q1.2.1 143 ((q1.1 : Int32).toNatClampNeg))])) (m' := q1.2) rfl).trans ((b1V ft_M_readHolds_50 (p := q1.2.1 143 ((q1.1 : Int32).toNatClampNeg) = (-1)) (f1 := (58, [(0, .ref 120), (1, .int x1), (2, .int q1.1)], [])) (f2 := (53, [(2, .int q1.1), (0, .ref 120), (1, .int x1)], [])) rfl).trans (ite2 rfl ((g1V ft_M_readHolds_53 (fr' := (54, [(2, .int q1.1), (0, .ref 120), (1, .int x1)], [.ref 120])) (m' := q1.2) rfl).trans ((g1V ft_M_readHolds_54 (fr' := (55, [(2, .int q1.1), (0, .ref 120), (1, .int x1)], [.int 3, .ref 120])) (m' := q1.2) rfl).trans (cVV ft_M_readHolds_55 (as := [.ref 120, .int 3]) (pc' := 58) (ls' := [(0, .ref 120), (1, .int x1), (2, .int q1.1)]) (st' := []) rfl))))))))))))))))))))))
set_option maxHeartbeats 4000000 in
set_option maxRecDepth 100000 in
theorem q_M_readHolds_58 (d : Nat) (x1 : Int32) (x2 : Int32) (m : aMem) : b_M_readHolds_58 d x1 x2 m = (if m.1 120 2 ≤ 0 then (grd (inb x2 8) ((f_M_token d (aUI m 143 x2.toNatClampNeg x1)).bind fun q1 => (some q1))) else (some m)) := ((g1V ft_M_readHolds_58 (fr' := (59, [(0, .ref 120), (1, .int x1), (2, .int x2)], [.ref 120])) (m' := m) rfl).trans ((g1V ft_M_readHolds_59 (fr' := (62, [(0, .ref 120), (1, .int x1), (2, .int x2)], [.int (m.1 120 2)])) (m' := m) rfl).trans ((b1V ft_M_readHolds_62 (p := m.1 120 2 ≤ 0) (f1 := (66, [(0, .ref 120), (1, .int x1), (2, .int x2)], [])) (f2 := (65, [(0, .ref 120), (1, .int x1), (2, .int x2)], [])) rfl).trans (ite2 ((g1V ft_M_readHolds_66 (fr' := (67, [(0, .ref 120), (1, .int x1), (2, .int x2)], [.ref 120])) (m' := m) rfl).trans ((g1V ft_M_readHolds_67 (fr' := (70, [(0, .ref 120), (1, .int x1), (2, .int x2)], [.ref 143])) (m' := m) rfl).trans ((g1V ft_M_readHolds_70 (fr' := (71, [(0, .ref 120), (1, .int x1), (2, .int x2)], [.int x2, .ref 143])) (m' := m) rfl).trans ((g1V ft_M_readHolds_71 (fr' := (72, [(0, .ref 120), (1, .int x1), (2, .int x2)], [.int x1, .int x2, .ref 143])) (m' := m) rfl).trans ((g1Vg ft_M_readHolds_72 (g := inb x2 8) (fr' := (73, [(0, .ref 120), (1, .int x1), (2, .int x2)], [])) (m' := (aUI m 143 x2.toNatClampNeg x1)) (st_is rfl)).trans (grd2 ((g1V ft_M_readHolds_73 (fr' := (74, [(0, .ref 120), (1, .int x1), (2, .int x2)], [.ref 120])) (m' := (aUI m 143 x2.toNatClampNeg x1)) rfl).trans ((cVV ft_M_readHolds_74 (as := [.ref 120]) (pc' := 77) (ls' := [(0, .ref 120), (1, .int x1), (2, .int x2)]) (st' := []) rfl).trans (bnd2 fun q1 => (r1V ft_M_readHolds_77 rfl)))))))))) (r1V ft_M_readHolds_65 rfl)))))
