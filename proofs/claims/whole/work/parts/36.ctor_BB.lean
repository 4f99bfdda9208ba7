theorem pb_g {P T : List Sh} {o : Sh} {L : Nat} (hL : P.length = L) : (P ++ o :: T)[L]? = some o := by subst hL; rw [app_get0]; rfl
theorem pb_s {P T : List Sh} {o x : Sh} {L : Nat} (hL : P.length = L) : (P ++ o :: T).set L x = P ++ x :: T := by subst hL; rw [app_set0]; rfl
theorem pb_n {P T : List Sh} {o : Sh} {L c : Nat} (hL : P.length = L) (hm : T.length + 1 = c) : (P ++ o :: T).length = L + c := by subst hL; rw [List.length_append, List.length_cons, hm]
theorem pb_push {P T X : List Sh} {o : Sh} : (P ++ o :: T) ++ X = P ++ o :: (T ++ X) := by simp
theorem pb_t {P T : List Sh} {o x : Sh} {L j : Nat} (hL : P.length = L) (h : T[j]? = some x) : (P ++ o :: T)[L + (j + 1)]? = some x := by subst hL; rw [app_get]; exact h
theorem pb_st {P T : List Sh} {o x : Sh} {L j : Nat} (hL : P.length = L) : (P ++ o :: T).set (L + (j + 1)) x = P ++ o :: T.set j x := by subst hL; rw [app_set]; rfl
theorem d_BB_init_0 : decode c_BB_init 0 = .ok (.aload_n 0, 1) := by decide +kernel
theorem d_BB_init_1 : decode c_BB_init 1 = .ok (.invokespecial 1, 3) := by decide +kernel
theorem d_BB_init_4 : decode c_BB_init 4 = .ok (.aload_n 0, 1) := by decide +kernel
theorem d_BB_init_5 : decode c_BB_init 5 = .ok (.new 7, 3) := by decide +kernel
theorem d_BB_init_8 : decode c_BB_init 8 = .ok (.dup, 1) := by decide +kernel
theorem d_BB_init_9 : decode c_BB_init 9 = .ok (.invokespecial 9, 3) := by decide +kernel
theorem d_BB_init_12 : decode c_BB_init 12 = .ok (.putfield 10, 3) := by decide +kernel
theorem d_BB_init_15 : decode c_BB_init 15 = .ok (.aload_n 0, 1) := by decide +kernel
theorem d_BB_init_16 : decode c_BB_init 16 = .ok (.new 16, 3) := by decide +kernel
theorem d_BB_init_19 : decode c_BB_init 19 = .ok (.dup, 1) := by decide +kernel
theorem d_BB_init_20 : decode c_BB_init 20 = .ok (.invokespecial 18, 3) := by decide +kernel
theorem d_BB_init_23 : decode c_BB_init 23 = .ok (.putfield 19, 3) := by decide +kernel
theorem d_BB_init_26 : decode c_BB_init 26 = .ok (.aload_n 0, 1) := by decide +kernel
theorem d_BB_init_27 : decode c_BB_init 27 = .ok (.new 23, 3) := by decide +kernel
theorem d_BB_init_30 : decode c_BB_init 30 = .ok (.dup, 1) := by decide +kernel
theorem d_BB_init_31 : decode c_BB_init 31 = .ok (.invokespecial 25, 3) := by decide +kernel
theorem d_BB_init_34 : decode c_BB_init 34 = .ok (.putfield 26, 3) := by decide +kernel
theorem d_BB_init_37 : decode c_BB_init 37 = .ok (.aload_n 0, 1) := by decide +kernel
theorem d_BB_init_38 : decode c_BB_init 38 = .ok (.new 30, 3) := by decide +kernel
theorem d_BB_init_41 : decode c_BB_init 41 = .ok (.dup, 1) := by decide +kernel
theorem d_BB_init_42 : decode c_BB_init 42 = .ok (.invokespecial 32, 3) := by decide +kernel
theorem d_BB_init_45 : decode c_BB_init 45 = .ok (.putfield 33, 3) := by decide +kernel
theorem d_BB_init_48 : decode c_BB_init 48 = .ok (.aload_n 0, 1) := by decide +kernel
theorem d_BB_init_49 : decode c_BB_init 49 = .ok (.new 37, 3) := by decide +kernel
theorem d_BB_init_52 : decode c_BB_init 52 = .ok (.dup, 1) := by decide +kernel
theorem d_BB_init_53 : decode c_BB_init 53 = .ok (.aload_n 0, 1) := by decide +kernel
theorem d_BB_init_54 : decode c_BB_init 54 = .ok (.getfield 33, 3) := by decide +kernel
theorem d_BB_init_57 : decode c_BB_init 57 = .ok (.invokespecial 39, 3) := by decide +kernel
theorem d_BB_init_60 : decode c_BB_init 60 = .ok (.putfield 42, 3) := by decide +kernel
theorem d_BB_init_63 : decode c_BB_init 63 = .ok (.aload_n 0, 1) := by decide +kernel
theorem d_BB_init_64 : decode c_BB_init 64 = .ok (.new 46, 3) := by decide +kernel
theorem d_BB_init_67 : decode c_BB_init 67 = .ok (.dup, 1) := by decide +kernel
theorem d_BB_init_68 : decode c_BB_init 68 = .ok (.aload_n 0, 1) := by decide +kernel
theorem d_BB_init_69 : decode c_BB_init 69 = .ok (.getfield 33, 3) := by decide +kernel
theorem d_BB_init_72 : decode c_BB_init 72 = .ok (.invokespecial 48, 3) := by decide +kernel
theorem d_BB_init_75 : decode c_BB_init 75 = .ok (.putfield 49, 3) := by decide +kernel
theorem d_BB_init_78 : decode c_BB_init 78 = .ok (.aload_n 0, 1) := by decide +kernel
theorem d_BB_init_79 : decode c_BB_init 79 = .ok (.new 53, 3) := by decide +kernel
theorem d_BB_init_82 : decode c_BB_init 82 = .ok (.dup, 1) := by decide +kernel
theorem d_BB_init_83 : decode c_BB_init 83 = .ok (.aload_n 0, 1) := by decide +kernel
theorem d_BB_init_84 : decode c_BB_init 84 = .ok (.getfield 33, 3) := by decide +kernel
theorem d_BB_init_87 : decode c_BB_init 87 = .ok (.invokespecial 55, 3) := by decide +kernel
theorem d_BB_init_90 : decode c_BB_init 90 = .ok (.putfield 56, 3) := by decide +kernel
theorem d_BB_init_93 : decode c_BB_init 93 = .ok (.aload_n 0, 1) := by decide +kernel
theorem d_BB_init_94 : decode c_BB_init 94 = .ok (.new 60, 3) := by decide +kernel
theorem d_BB_init_97 : decode c_BB_init 97 = .ok (.dup, 1) := by decide +kernel
theorem d_BB_init_98 : decode c_BB_init 98 = .ok (.aload_n 0, 1) := by decide +kernel
theorem d_BB_init_99 : decode c_BB_init 99 = .ok (.getfield 33, 3) := by decide +kernel
theorem d_BB_init_102 : decode c_BB_init 102 = .ok (.invokespecial 62, 3) := by decide +kernel
theorem d_BB_init_105 : decode c_BB_init 105 = .ok (.putfield 63, 3) := by decide +kernel
theorem d_BB_init_108 : decode c_BB_init 108 = .ok (.aload_n 0, 1) := by decide +kernel
theorem d_BB_init_109 : decode c_BB_init 109 = .ok (.new 67, 3) := by decide +kernel
theorem d_BB_init_112 : decode c_BB_init 112 = .ok (.dup, 1) := by decide +kernel
theorem d_BB_init_113 : decode c_BB_init 113 = .ok (.aload_n 0, 1) := by decide +kernel
theorem d_BB_init_114 : decode c_BB_init 114 = .ok (.getfield 33, 3) := by decide +kernel
theorem d_BB_init_117 : decode c_BB_init 117 = .ok (.invokespecial 69, 3) := by decide +kernel
theorem d_BB_init_120 : decode c_BB_init 120 = .ok (.putfield 70, 3) := by decide +kernel
theorem d_BB_init_123 : decode c_BB_init 123 = .ok (.aload_n 0, 1) := by decide +kernel
theorem d_BB_init_124 : decode c_BB_init 124 = .ok (.new 74, 3) := by decide +kernel
theorem d_BB_init_127 : decode c_BB_init 127 = .ok (.dup, 1) := by decide +kernel
theorem d_BB_init_128 : decode c_BB_init 128 = .ok (.invokespecial 76, 3) := by decide +kernel
theorem d_BB_init_131 : decode c_BB_init 131 = .ok (.putfield 77, 3) := by decide +kernel
theorem d_BB_init_134 : decode c_BB_init 134 = .ok (.aload_n 0, 1) := by decide +kernel
theorem d_BB_init_135 : decode c_BB_init 135 = .ok (.iconst 4, 1) := by decide +kernel
theorem d_BB_init_136 : decode c_BB_init 136 = .ok (.anewarray 74, 3) := by decide +kernel
theorem d_BB_init_139 : decode c_BB_init 139 = .ok (.putfield 81, 3) := by decide +kernel
theorem d_BB_init_142 : decode c_BB_init 142 = .ok (.aload_n 0, 1) := by decide +kernel
theorem d_BB_init_143 : decode c_BB_init 143 = .ok (.bipush 8, 2) := by decide +kernel
theorem d_BB_init_145 : decode c_BB_init 145 = .ok (.anewarray 74, 3) := by decide +kernel
theorem d_BB_init_148 : decode c_BB_init 148 = .ok (.putfield 85, 3) := by decide +kernel
theorem d_BB_init_151 : decode c_BB_init 151 = .ok (.aload_n 0, 1) := by decide +kernel
theorem d_BB_init_152 : decode c_BB_init 152 = .ok (.bipush 8, 2) := by decide +kernel
theorem d_BB_init_154 : decode c_BB_init 154 = .ok (.newarray .int, 2) := by decide +kernel
theorem d_BB_init_156 : decode c_BB_init 156 = .ok (.putfield 88, 3) := by decide +kernel
theorem d_BB_init_159 : decode c_BB_init 159 = .ok (.iconst 0, 1) := by decide +kernel
theorem d_BB_init_160 : decode c_BB_init 160 = .ok (.istore_n 1, 1) := by decide +kernel
theorem d_BB_init_161 : decode c_BB_init 161 = .ok (.iload_n 1, 1) := by decide +kernel
theorem d_BB_init_162 : decode c_BB_init 162 = .ok (.iconst 4, 1) := by decide +kernel
theorem d_BB_init_163 : decode c_BB_init 163 = .ok (.if_icmp .ge 22, 3) := by decide +kernel
theorem d_BB_init_166 : decode c_BB_init 166 = .ok (.aload_n 0, 1) := by decide +kernel
theorem d_BB_init_167 : decode c_BB_init 167 = .ok (.getfield 81, 3) := by decide +kernel
theorem d_BB_init_170 : decode c_BB_init 170 = .ok (.iload_n 1, 1) := by decide +kernel
theorem d_BB_init_171 : decode c_BB_init 171 = .ok (.new 74, 3) := by decide +kernel
theorem d_BB_init_174 : decode c_BB_init 174 = .ok (.dup, 1) := by decide +kernel
theorem d_BB_init_175 : decode c_BB_init 175 = .ok (.invokespecial 76, 3) := by decide +kernel
theorem d_BB_init_178 : decode c_BB_init 178 = .ok (.aastore, 1) := by decide +kernel
theorem d_BB_init_179 : decode c_BB_init 179 = .ok (.iinc 1 1, 3) := by decide +kernel
theorem d_BB_init_182 : decode c_BB_init 182 = .ok (.goto (-21), 3) := by decide +kernel
theorem d_BB_init_185 : decode c_BB_init 185 = .ok (.iconst 0, 1) := by decide +kernel
theorem d_BB_init_186 : decode c_BB_init 186 = .ok (.istore_n 1, 1) := by decide +kernel
theorem d_BB_init_187 : decode c_BB_init 187 = .ok (.iload_n 1, 1) := by decide +kernel
theorem d_BB_init_188 : decode c_BB_init 188 = .ok (.bipush 8, 2) := by decide +kernel
theorem d_BB_init_190 : decode c_BB_init 190 = .ok (.if_icmp .ge 22, 3) := by decide +kernel
theorem d_BB_init_193 : decode c_BB_init 193 = .ok (.aload_n 0, 1) := by decide +kernel
theorem d_BB_init_194 : decode c_BB_init 194 = .ok (.getfield 85, 3) := by decide +kernel
theorem d_BB_init_197 : decode c_BB_init 197 = .ok (.iload_n 1, 1) := by decide +kernel
theorem d_BB_init_198 : decode c_BB_init 198 = .ok (.new 74, 3) := by decide +kernel
theorem d_BB_init_201 : decode c_BB_init 201 = .ok (.dup, 1) := by decide +kernel
theorem d_BB_init_202 : decode c_BB_init 202 = .ok (.invokespecial 76, 3) := by decide +kernel
theorem d_BB_init_205 : decode c_BB_init 205 = .ok (.aastore, 1) := by decide +kernel
theorem d_BB_init_206 : decode c_BB_init 206 = .ok (.iinc 1 1, 3) := by decide +kernel
theorem d_BB_init_209 : decode c_BB_init 209 = .ok (.goto (-22), 3) := by decide +kernel
theorem d_BB_init_212 : decode c_BB_init 212 = .ok (.return_, 1) := by decide +kernel
def RT_BB_init_0 (_ : Nat) : List Sh := []
def RT_BB_init_1 (L : Nat) : List Sh := (RT_BB_init_0 L) ++ [.inl (9, [(2, (L + 2)), (0, 0), (0, 0), (0, 0)]), .inr (0, 400, [])]
def RT_BB_init_2 (L : Nat) : List Sh := (RT_BB_init_1 L) ++ [.inl (0, [(2, (L + 4))]), .inl (8, [(0, 0), (0, 0), (0, 0), (0, 0), (0, 0), (0, 0), (0, 0), (0, 0), (0, 0), (0, 0), (0, 0), (2, (L + 5)), (2, (L + 6)), (2, (L + 7)), (2, (L + 8))]), .inr (0, 64, []), .inr (0, 3, []), .inr (0, 8, []), .inr (0, 8, [])]
def RT_BB_init_3 (L : Nat) : List Sh := (RT_BB_init_2 L) ++ [.inl (6, [(2, (L + 10)), (2, (L + 11)), (0, 0), (0, 0), (0, 0), (0, 0), (2, (L + 12))]), .inr (0, 401, []), .inr (0, 401, []), .inl (5, [(2, (L + 13)), (2, (L + 14)), (2, (L + 15)), (2, (L + 16)), (0, 0), (0, 0), (0, 0)]), .inr (0, 400, []), .inr (0, 12, []), .inr (0, 12, []), .inr (1, 64, [])]
def RT_BB_init_4 (L : Nat) : List Sh := (RT_BB_init_3 L) ++ [.inl (4, [(2, (L + 18)), (2, (L + 19)), (2, (L + 20)), (2, (L + 21)), (0, 0), (0, 0), (0, 0), (0, 0)]), .inr (4, 6, [(L + 22) + 1, (L + 27) + 1, (L + 32) + 1, (L + 37) + 1, (L + 42) + 1, (L + 47) + 1]), .inr (1, 8, []), .inr (1, 3, []), .inr (0, 3, []), .inl (5, [(2, (L + 23)), (2, (L + 24)), (2, (L + 25)), (2, (L + 26)), (0, 0), (0, 0), (0, 0)]), .inr (0, 400, []), .inr (0, 12, []), .inr (0, 12, []), .inr (1, 64, []), .inl (5, [(2, (L + 28)), (2, (L + 29)), (2, (L + 30)), (2, (L + 31)), (0, 0), (0, 0), (0, 0)]), .inr (0, 400, []), .inr (0, 12, []), .inr (0, 12, []), .inr (1, 64, []), .inl (5, [(2, (L + 33)), (2, (L + 34)), (2, (L + 35)), (2, (L + 36)), (0, 0), (0, 0), (0, 0)]), .inr (0, 400, []), .inr (0, 12, []), .inr (0, 12, []), .inr (1, 64, []), .inl (5, [(2, (L + 38)), (2, (L + 39)), (2, (L + 40)), (2, (L + 41)), (0, 0), (0, 0), (0, 0)]), .inr (0, 400, []), .inr (0, 12, []), .inr (0, 12, []), .inr (1, 64, []), .inl (5, [(2, (L + 43)), (2, (L + 44)), (2, (L + 45)), (2, (L + 46)), (0, 0), (0, 0), (0, 0)]), .inr (0, 400, []), .inr (0, 12, []), .inr (0, 12, []), .inr (1, 64, []), .inl (5, [(2, (L + 48)), (2, (L + 49)), (2, (L + 50)), (2, (L + 51)), (0, 0), (0, 0), (0, 0)]), .inr (0, 400, []), .inr (0, 12, []), .inr (0, 12, []), .inr (1, 64, [])]
def RT_BB_init_5 (L : Nat) : List Sh := (RT_BB_init_4 L) ++ [.inl (7, [(2, (L + 17)), (2, (L + 53)), (2, (L + 54)), (2, (L + 55)), (0, 0), (0, 0), (0, 0), (0, 0)]), .inr (0, 4000, []), .inr (0, 4000, []), .inr (1, 4096, [])]
def RT_BB_init_6 (L : Nat) : List Sh := (RT_BB_init_5 L) ++ [.inl (1, [(2, (L + 65)), (2, (L + 57)), (2, (L + 62)), (2, (L + 63)), (2, (L + 64))]), .inl (8, [(0, 0), (0, 0), (0, 0), (0, 0), (0, 0), (0, 0), (0, 0), (0, 0), (0, 0), (0, 0), (0, 0), (2, (L + 58)), (2, (L + 59)), (2, (L + 60)), (2, (L + 61))]), .inr (0, 64, []), .inr (0, 3, []), .inr (0, 8, []), .inr (0, 8, []), .inr (0, 2, []), .inr (0, 2, []), .inr (0, 2, []), .inl (7, [(2, (L + 17)), (2, (L + 66)), (2, (L + 67)), (2, (L + 68)), (0, 0), (0, 0), (0, 0), (0, 0)]), .inr (0, 4000, []), .inr (0, 4000, []), .inr (1, 4096, [])]
def RT_BB_init_7 (L : Nat) : List Sh := (RT_BB_init_6 L) ++ [.inl (3, [(2, (L + 17)), (2, (L + 70)), (2, (L + 71)), (2, (L + 72)), (2, (L + 73)), (2, (L + 74)), (2, (L + 75)), (2, (L + 76)), (2, (L + 77)), (0, 0), (0, 0), (0, 0), (0, 0), (0, 0), (0, 0), (0, 0)]), .inr (0, 36, []), .inr (0, 16384, []), .inr (0, 4096, []), .inr (0, 1369, []), .inr (0, 4096, []), .inr (0, 8820, []), .inr (0, 7, []), .inr (0, 7, [])]
def RT_BB_init_8 (L : Nat) : List Sh := (RT_BB_init_7 L) ++ [.inl (2, [(2, (L + 17)), (2, (L + 79)), (2, (L + 80)), (2, (L + 81)), (0, 0), (0, 0), (0, 0), (0, 0), (0, 0), (0, 0)]), .inr (0, 36, []), .inr (1, 3, []), .inr (0, 64, [])]
def RT_BB_init_9 (L : Nat) : List Sh := (RT_BB_init_8 L) ++ [.inl (10, [(2, (L + 17)), (0, 0), (0, 0), (0, 0), (1, 0), (1, 0), (0, 0), (0, 0)])]
def RT_BB_init_10 (L : Nat) : List Sh := (RT_BB_init_9 L) ++ [.inl (8, [(0, 0), (0, 0), (0, 0), (0, 0), (0, 0), (0, 0), (0, 0), (0, 0), (0, 0), (0, 0), (0, 0), (2, (L + 84)), (2, (L + 85)), (2, (L + 86)), (2, (L + 87))]), .inr (0, 64, []), .inr (0, 3, []), .inr (0, 8, []), .inr (0, 8, [])]
def RT_BB_init_11 (L : Nat) : List Sh := (RT_BB_init_10 L) ++ [.inr (5, 4, [0, 0, 0, 0])]
def RT_BB_init_12 (L : Nat) : List Sh := (RT_BB_init_11 L) ++ [.inr (5, 8, [0, 0, 0, 0, 0, 0, 0, 0])]
def RT_BB_init_13 (L : Nat) : List Sh := (RT_BB_init_12 L) ++ [.inr (0, 8, [])]
def RT_BB_init_14 (L : Nat) : List Sh := (RT_BB_init_13 L) ++ [.inl (8, [(0, 0), (0, 0), (0, 0), (0, 0), (0, 0), (0, 0), (0, 0), (0, 0), (0, 0), (0, 0), (0, 0), (2, (L + 92)), (2, (L + 93)), (2, (L + 94)), (2, (L + 95))]), .inr (0, 64, []), .inr (0, 3, []), .inr (0, 8, []), .inr (0, 8, [])]
def RT_BB_init_15 (L : Nat) : List Sh := (RT_BB_init_14 L).set 87 (.inr (5, 4, [(L + 91) + 1, 0, 0, 0]))
def RT_BB_init_16 (L : Nat) : List Sh := (RT_BB_init_15 L) ++ [.inl (8, [(0, 0), (0, 0), (0, 0), (0, 0), (0, 0), (0, 0), (0, 0), (0, 0), (0, 0), (0, 0), (0, 0), (2, (L + 97)), (2, (L + 98)), (2, (L + 99)), (2, (L + 100))]), .inr (0, 64, []), .inr (0, 3, []), .inr (0, 8, []), .inr (0, 8, [])]
def RT_BB_init_17 (L : Nat) : List Sh := (RT_BB_init_16 L).set 87 (.inr (5, 4, [(L + 91) + 1, (L + 96) + 1, 0, 0]))
def RT_BB_init_18 (L : Nat) : List Sh := (RT_BB_init_17 L) ++ [.inl (8, [(0, 0), (0, 0), (0, 0), (0, 0), (0, 0), (0, 0), (0, 0), (0, 0), (0, 0), (0, 0), (0, 0), (2, (L + 102)), (2, (L + 103)), (2, (L + 104)), (2, (L + 105))]), .inr (0, 64, []), .inr (0, 3, []), .inr (0, 8, []), .inr (0, 8, [])]
def RT_BB_init_19 (L : Nat) : List Sh := (RT_BB_init_18 L).set 87 (.inr (5, 4, [(L + 91) + 1, (L + 96) + 1, (L + 101) + 1, 0]))
def RT_BB_init_20 (L : Nat) : List Sh := (RT_BB_init_19 L) ++ [.inl (8, [(0, 0), (0, 0), (0, 0), (0, 0), (0, 0), (0, 0), (0, 0), (0, 0), (0, 0), (0, 0), (0, 0), (2, (L + 107)), (2, (L + 108)), (2, (L + 109)), (2, (L + 110))]), .inr (0, 64, []), .inr (0, 3, []), .inr (0, 8, []), .inr (0, 8, [])]
def RT_BB_init_21 (L : Nat) : List Sh := (RT_BB_init_20 L).set 87 (.inr (5, 4, [(L + 91) + 1, (L + 96) + 1, (L + 101) + 1, (L + 106) + 1]))
def RT_BB_init_22 (L : Nat) : List Sh := (RT_BB_init_21 L) ++ [.inl (8, [(0, 0), (0, 0), (0, 0), (0, 0), (0, 0), (0, 0), (0, 0), (0, 0), (0, 0), (0, 0), (0, 0), (2, (L + 112)), (2, (L + 113)), (2, (L + 114)), (2, (L + 115))]), .inr (0, 64, []), .inr (0, 3, []), .inr (0, 8, []), .inr (0, 8, [])]
def RT_BB_init_23 (L : Nat) : List Sh := (RT_BB_init_22 L).set 88 (.inr (5, 8, [(L + 111) + 1, 0, 0, 0, 0, 0, 0, 0]))
def RT_BB_init_24 (L : Nat) : List Sh := (RT_BB_init_23 L) ++ [.inl (8, [(0, 0), (0, 0), (0, 0), (0, 0), (0, 0), (0, 0), (0, 0), (0, 0), (0, 0), (0, 0), (0, 0), (2, (L + 117)), (2, (L + 118)), (2, (L + 119)), (2, (L + 120))]), .inr (0, 64, []), .inr (0, 3, []), .inr (0, 8, []), .inr (0, 8, [])]
def RT_BB_init_25 (L : Nat) : List Sh := (RT_BB_init_24 L).set 88 (.inr (5, 8, [(L + 111) + 1, (L + 116) + 1, 0, 0, 0, 0, 0, 0]))
def RT_BB_init_26 (L : Nat) : List Sh := (RT_BB_init_25 L) ++ [.inl (8, [(0, 0), (0, 0), (0, 0), (0, 0), (0, 0), (0, 0), (0, 0), (0, 0), (0, 0), (0, 0), (0, 0), (2, (L + 122)), (2, (L + 123)), (2, (L + 124)), (2, (L + 125))]), .inr (0, 64, []), .inr (0, 3, []), .inr (0, 8, []), .inr (0, 8, [])]
def RT_BB_init_27 (L : Nat) : List Sh := (RT_BB_init_26 L).set 88 (.inr (5, 8, [(L + 111) + 1, (L + 116) + 1, (L + 121) + 1, 0, 0, 0, 0, 0]))
def RT_BB_init_28 (L : Nat) : List Sh := (RT_BB_init_27 L) ++ [.inl (8, [(0, 0), (0, 0), (0, 0), (0, 0), (0, 0), (0, 0), (0, 0), (0, 0), (0, 0), (0, 0), (0, 0), (2, (L + 127)), (2, (L + 128)), (2, (L + 129)), (2, (L + 130))]), .inr (0, 64, []), .inr (0, 3, []), .inr (0, 8, []), .inr (0, 8, [])]
def RT_BB_init_29 (L : Nat) : List Sh := (RT_BB_init_28 L).set 88 (.inr (5, 8, [(L + 111) + 1, (L + 116) + 1, (L + 121) + 1, (L + 126) + 1, 0, 0, 0, 0]))
def RT_BB_init_30 (L : Nat) : List Sh := (RT_BB_init_29 L) ++ [.inl (8, [(0, 0), (0, 0), (0, 0), (0, 0), (0, 0), (0, 0), (0, 0), (0, 0), (0, 0), (0, 0), (0, 0), (2, (L + 132)), (2, (L + 133)), (2, (L + 134)), (2, (L + 135))]), .inr (0, 64, []), .inr (0, 3, []), .inr (0, 8, []), .inr (0, 8, [])]
def RT_BB_init_31 (L : Nat) : List Sh := (RT_BB_init_30 L).set 88 (.inr (5, 8, [(L + 111) + 1, (L + 116) + 1, (L + 121) + 1, (L + 126) + 1, (L + 131) + 1, 0, 0, 0]))
def RT_BB_init_32 (L : Nat) : List Sh := (RT_BB_init_31 L) ++ [.inl (8, [(0, 0), (0, 0), (0, 0), (0, 0), (0, 0), (0, 0), (0, 0), (0, 0), (0, 0), (0, 0), (0, 0), (2, (L + 137)), (2, (L + 138)), (2, (L + 139)), (2, (L + 140))]), .inr (0, 64, []), .inr (0, 3, []), .inr (0, 8, []), .inr (0, 8, [])]
def RT_BB_init_33 (L : Nat) : List Sh := (RT_BB_init_32 L).set 88 (.inr (5, 8, [(L + 111) + 1, (L + 116) + 1, (L + 121) + 1, (L + 126) + 1, (L + 131) + 1, (L + 136) + 1, 0, 0]))
def RT_BB_init_34 (L : Nat) : List Sh := (RT_BB_init_33 L) ++ [.inl (8, [(0, 0), (0, 0), (0, 0), (0, 0), (0, 0), (0, 0), (0, 0), (0, 0), (0, 0), (0, 0), (0, 0), (2, (L + 142)), (2, (L + 143)), (2, (L + 144)), (2, (L + 145))]), .inr (0, 64, []), .inr (0, 3, []), .inr (0, 8, []), .inr (0, 8, [])]
def RT_BB_init_35 (L : Nat) : List Sh := (RT_BB_init_34 L).set 88 (.inr (5, 8, [(L + 111) + 1, (L + 116) + 1, (L + 121) + 1, (L + 126) + 1, (L + 131) + 1, (L + 136) + 1, (L + 141) + 1, 0]))
def RT_BB_init_36 (L : Nat) : List Sh := (RT_BB_init_35 L) ++ [.inl (8, [(0, 0), (0, 0), (0, 0), (0, 0), (0, 0), (0, 0), (0, 0), (0, 0), (0, 0), (0, 0), (0, 0), (2, (L + 147)), (2, (L + 148)), (2, (L + 149)), (2, (L + 150))]), .inr (0, 64, []), .inr (0, 3, []), .inr (0, 8, []), .inr (0, 8, [])]
def RT_BB_init_37 (L : Nat) : List Sh := (RT_BB_init_36 L).set 88 (.inr (5, 8, [(L + 111) + 1, (L + 116) + 1, (L + 121) + 1, (L + 126) + 1, (L + 131) + 1, (L + 136) + 1, (L + 141) + 1, (L + 146) + 1]))
def F_BB_init (σ : St) (L : Nat) : St := F_SA_init (F_SA_init (F_SA_init (F_SA_init (F_SA_init (F_SA_init (F_SA_init (F_SA_init (F_SA_init (F_SA_init (F_SA_init (F_SA_init (F_SA_init (F_TR_init (F_LI_init (F_PA_init (F_CA_init (F_SE_init (F_RO_init (F_RR_init (F_BR_init (F_TA_init (σ) (L + 1)) (L + 3)) (L + 9)) (L + 17)) (L + 52)) (L + 56)) (L + 69)) (L + 78)) (L + 82)) (L + 83)) (L + 91)) (L + 96)) (L + 101)) (L + 106)) (L + 111)) (L + 116)) (L + 121)) (L + 126)) (L + 131)) (L + 136)) (L + 141)) (L + 146)
def RB_BB_init (L : Nat) : List Sh := (.inl (11, [(2, (L + 1)), (2, (L + 3)), (2, (L + 9)), (2, (L + 17)), (2, (L + 52)), (2, (L + 56)), (2, (L + 69)), (2, (L + 78)), (2, (L + 82)), (2, (L + 83)), (2, (L + 88)), (2, (L + 89)), (2, (L + 90)), (0, 0), (0, 0)])) :: (RT_BB_init_37 L)
set_option maxRecDepth 20000 in
set_option maxHeartbeats 40000000 in
theorem cc_BB_init {g : Gx} {P : List Sh} {L : Nat} {σ : St} (hL : P.length = L) (hz : ∀ i, L < i → zro σ i) : Cx g m_BB_init [.ref (gB g + L)] (P ++ [.inl (11, [(3, 0), (3, 0), (3, 0), (3, 0), (3, 0), (3, 0), (3, 0), (3, 0), (3, 0), (3, 0), (3, 0), (3, 0), (3, 0), (0, 0), (0, 0)])]) σ 150 65368 (fun r sh σ' => r = none ∧ sh = P ++ RB_BB_init L ∧ σ' = F_BB_init σ L) := by
  refine Cx.of (show plainName "BallBox" = true by decide) (Nat.le_of_ble_eq_true rfl) ?_
  obtain ⟨T0, hT0⟩ : ∃ y : List Sh, y = [] := ⟨_, rfl⟩
  have hm0 : T0.length + 1 = 1 := by rw [hT0]; rfl
  have e0 : P ++ [.inl (11, [(3, 0), (3, 0), (3, 0), (3, 0), (3, 0), (3, 0), (3, 0), (3, 0), (3, 0), (3, 0), (3, 0), (3, 0), (3, 0), (0, 0), (0, 0)])] = P ++ (.inl (11, [(3, 0), (3, 0), (3, 0), (3, 0), (3, 0), (3, 0), (3, 0), (3, 0), (3, 0), (3, 0), (3, 0), (3, 0), (3, 0), (0, 0), (0, 0)])) :: T0 := by rw [hT0]
  rw [show lv_args 0 [.ref (gB g + L)] = [(0, .ref (gB g + L))] from rfl]
  have key : Ax g m_BB_init 150 65368 (Zx g ((P ++ [Sum.inl (11, [(3, 0), (3, 0), (3, 0), (3, 0), (3, 0), (3, 0), (3, 0), (3, 0), (3, 0), (3, 0), (3, 0), (3, 0), (3, 0), (0, 0), (0, 0)])]).length + 150) 150 65368 (fun r sh σ' => r = none ∧ sh = P ++ RB_BB_init L ∧ σ' = F_BB_init σ L)) (P ++ (.inl (11, [(3, 0), (3, 0), (3, 0), (3, 0), (3, 0), (3, 0), (3, 0), (3, 0), (3, 0), (3, 0), (3, 0), (3, 0), (3, 0), (0, 0), (0, 0)])) :: T0) σ 0 0 0 [(0, .ref (gB g + L))] [] := by
    have eT0 : T0 = RT_BB_init_0 L := hT0
    have hz0 : ∀ i, L + 1 ≤ i → zro σ i := fun i hi => hz i (by omega)
    refine a_aload_n (pc := 0) 0 rfl rfl d_BB_init_0 ?_
    refine a_objI (pc := 1) tw27 tw28 tw29 (by decide) (Nat.le_of_ble_eq_true rfl) d_BB_init_1 ?_
    refine a_aload_n (pc := 4) 0 rfl rfl d_BB_init_4 ?_
    refine a_newo (pc := 5) (ci := 9) (N := 4) tyX9 rfl uw9 tyX9_ok (by decide) tw30 tw31 tw2 (by rw [(pb_n hL hm0)]; exact hz0 _ (by omega)) (Nat.le_of_ble_eq_true rfl) (Nat.le_of_ble_eq_true rfl) d_BB_init_5 ?_
    rw [(pb_n hL hm0), pb_push]
    show Ax g m_BB_init 150 65368 _ (P ++ (.inl (11, [(3, 0), (3, 0), (3, 0), (3, 0), (3, 0), (3, 0), (3, 0), (3, 0), (3, 0), (3, 0), (3, 0), (3, 0), (3, 0), (0, 0), (0, 0)])) :: (T0 ++ [.inl (9, [(3, 0), (0, 0), (0, 0), (0, 0)])])) σ 1 4 8 [(0, .ref (gB g + L))] [.ref (gB g + (L + 1)), .ref (gB g + L)]
    refine a_dup (pc := 8) rfl d_BB_init_8 ?_
    refine a_callIN (a := 0) (pc := 9) (M' := m_TA_init) (i := gB g + (L + 1)) (As := []) (st := [.ref (gB g + (L + 1)), .ref (gB g + L)]) (mc' := 1) (ms' := 400) (host := "BallBox") (by simp [nests]) tw33 tw2 tw34 rfl rfl (by decide +kernel) rfl (by decide) (by decide) rfl (Nat.le_of_ble_eq_true rfl) (Nat.le_of_ble_eq_true rfl) (Nat.le_of_ble_eq_true rfl) d_BB_init_9 (by have q := cc_TA_init (g := g) (P := P ++ (.inl (11, [(3, 0), (3, 0), (3, 0), (3, 0), (3, 0), (3, 0), (3, 0), (3, 0), (3, 0), (3, 0), (3, 0), (3, 0), (3, 0), (0, 0), (0, 0)])) :: T0) (L := L + 1) (σ := σ) (pb_n hL hm0) (fun i hi => hz0 i (by omega)); rw [pb_push] at q; exact q) ?_
    rintro _ _ s' ⟨rfl, rfl, hs⟩ -
    rw [hs, pb_push]
    show Ax g m_BB_init 150 65368 _ (P ++ (.inl (11, [(3, 0), (3, 0), (3, 0), (3, 0), (3, 0), (3, 0), (3, 0), (3, 0), (3, 0), (3, 0), (3, 0), (3, 0), (3, 0), (0, 0), (0, 0)])) :: (T0 ++ [.inl (9, [(2, (L + 2)), (0, 0), (0, 0), (0, 0)]), .inr (0, 400, [])])) (F_TA_init σ (L + 1)) 2 404 12 [(0, .ref (gB g + L))] [.ref (gB g + (L + 1)), .ref (gB g + L)]
    obtain ⟨T1, hT1⟩ : ∃ y : List Sh, y = T0 ++ [.inl (9, [(2, (L + 2)), (0, 0), (0, 0), (0, 0)]), .inr (0, 400, [])] := ⟨_, rfl⟩
    have hm1 : T1.length + 1 = 3 := by rw [hT1, List.length_append]; have := hm0; simp only [List.length_cons, List.length_nil]; omega
    have eT1 : T1 = RT_BB_init_1 L := by rw [hT1, eT0]; rfl
    rw [← hT1]
    refine a_nms (fun s1 hs1 => ?_)
    have hz1 : ∀ i, L + 3 ≤ i → zro s1 i := fun i hi => by rw [hs1]; exact zf_TA_init (by omega) (hz0 i (by omega))
    show Ax g m_BB_init 150 65368 _ (P ++ (.inl (11, [(3, 0), (3, 0), (3, 0), (3, 0), (3, 0), (3, 0), (3, 0), (3, 0), (3, 0), (3, 0), (3, 0), (3, 0), (3, 0), (0, 0), (0, 0)])) :: T1) s1 2 404 12 [(0, .ref (gB g + L))] [.ref (gB g + (L + 1)), .ref (gB g + L)]
    refine a_putF (pc := 12) (i := L) (r := (L + 1)) fp_BB_10 (Or.inl ⟨_, rfl⟩) rfl rfl (pb_g hL) rfl d_BB_init_12 ?_
    rw [pb_s hL]
    show Ax g m_BB_init 150 65368 _ (P ++ (.inl (11, [(2, (L + 1)), (3, 0), (3, 0), (3, 0), (3, 0), (3, 0), (3, 0), (3, 0), (3, 0), (3, 0), (3, 0), (3, 0), (3, 0), (0, 0), (0, 0)])) :: T1) s1 2 404 15 [(0, .ref (gB g + L))] []
    refine a_aload_n (pc := 15) 0 rfl rfl d_BB_init_15 ?_
    refine a_newo (pc := 16) (ci := 0) (N := 1) tyX0 rfl uw0 tyX0_ok (by decide) tw55 tw56 tw3 (by rw [(pb_n hL hm1)]; exact hz1 _ (by omega)) (Nat.le_of_ble_eq_true rfl) (Nat.le_of_ble_eq_true rfl) d_BB_init_16 ?_
    rw [(pb_n hL hm1), pb_push]
    show Ax g m_BB_init 150 65368 _ (P ++ (.inl (11, [(2, (L + 1)), (3, 0), (3, 0), (3, 0), (3, 0), (3, 0), (3, 0), (3, 0), (3, 0), (3, 0), (3, 0), (3, 0), (3, 0), (0, 0), (0, 0)])) :: (T1 ++ [.inl (0, [(3, 0)])])) s1 3 405 19 [(0, .ref (gB g + L))] [.ref (gB g + (L + 3)), .ref (gB g + L)]
    refine a_dup (pc := 19) rfl d_BB_init_19 ?_
    refine a_callIN (a := 0) (pc := 20) (M' := m_BR_init) (i := gB g + (L + 3)) (As := []) (st := [.ref (gB g + (L + 3)), .ref (gB g + L)]) (mc' := 5) (ms' := 98) (host := "BallBox") (by simp [nests]) tw58 tw3 tw59 rfl rfl (by decide +kernel) rfl (by decide) (by decide) rfl (Nat.le_of_ble_eq_true rfl) (Nat.le_of_ble_eq_true rfl) (Nat.le_of_ble_eq_true rfl) d_BB_init_20 (by have q := cc_BR_init (g := g) (P := P ++ (.inl (11, [(2, (L + 1)), (3, 0), (3, 0), (3, 0), (3, 0), (3, 0), (3, 0), (3, 0), (3, 0), (3, 0), (3, 0), (3, 0), (3, 0), (0, 0), (0, 0)])) :: T1) (L := L + 3) (σ := s1) (pb_n hL hm1) (fun i hi => hz1 i (by omega)); rw [pb_push] at q; exact q) ?_
    rintro _ _ s' ⟨rfl, rfl, hs⟩ -
    rw [hs, pb_push]
    show Ax g m_BB_init 150 65368 _ (P ++ (.inl (11, [(2, (L + 1)), (3, 0), (3, 0), (3, 0), (3, 0), (3, 0), (3, 0), (3, 0), (3, 0), (3, 0), (3, 0), (3, 0), (3, 0), (0, 0), (0, 0)])) :: (T1 ++ [.inl (0, [(2, (L + 4))]), .inl (8, [(0, 0), (0, 0), (0, 0), (0, 0), (0, 0), (0, 0), (0, 0), (0, 0), (0, 0), (0, 0), (0, 0), (2, (L + 5)), (2, (L + 6)), (2, (L + 7)), (2, (L + 8))]), .inr (0, 64, []), .inr (0, 3, []), .inr (0, 8, []), .inr (0, 8, [])])) (F_BR_init s1 (L + 3)) 8 503 23 [(0, .ref (gB g + L))] [.ref (gB g + (L + 3)), .ref (gB g + L)]
    obtain ⟨T2, hT2⟩ : ∃ y : List Sh, y = T1 ++ [.inl (0, [(2, (L + 4))]), .inl (8, [(0, 0), (0, 0), (0, 0), (0, 0), (0, 0), (0, 0), (0, 0), (0, 0), (0, 0), (0, 0), (0, 0), (2, (L + 5)), (2, (L + 6)), (2, (L + 7)), (2, (L + 8))]), .inr (0, 64, []), .inr (0, 3, []), .inr (0, 8, []), .inr (0, 8, [])] := ⟨_, rfl⟩
    have hm2 : T2.length + 1 = 9 := by rw [hT2, List.length_append]; have := hm1; simp only [List.length_cons, List.length_nil]; omega
    have eT2 : T2 = RT_BB_init_2 L := by rw [hT2, eT1]; rfl
    rw [← hT2]
    refine a_nms (fun s2 hs2 => ?_)
    have hz2 : ∀ i, L + 9 ≤ i → zro s2 i := fun i hi => by rw [hs2]; exact zf_BR_init (by omega) (hz1 i (by omega))
    show Ax g m_BB_init 150 65368 _ (P ++ (.inl (11, [(2, (L + 1)), (3, 0), (3, 0), (3, 0), (3, 0), (3, 0), (3, 0), (3, 0), (3, 0), (3, 0), (3, 0), (3, 0), (3, 0), (0, 0), (0, 0)])) :: T2) s2 8 503 23 [(0, .ref (gB g + L))] [.ref (gB g + (L + 3)), .ref (gB g + L)]
    refine a_putF (pc := 23) (i := L) (r := (L + 3)) fp_BB_19 (Or.inl ⟨_, rfl⟩) rfl rfl (pb_g hL) rfl d_BB_init_23 ?_
    rw [pb_s hL]
    show Ax g m_BB_init 150 65368 _ (P ++ (.inl (11, [(2, (L + 1)), (2, (L + 3)), (3, 0), (3, 0), (3, 0), (3, 0), (3, 0), (3, 0), (3, 0), (3, 0), (3, 0), (3, 0), (3, 0), (0, 0), (0, 0)])) :: T2) s2 8 503 26 [(0, .ref (gB g + L))] []
    refine a_aload_n (pc := 26) 0 rfl rfl d_BB_init_26 ?_
    refine a_newo (pc := 27) (ci := 6) (N := 7) tyX6 rfl uw6 tyX6_ok (by decide) tw152 tw153 tw6 (by rw [(pb_n hL hm2)]; exact hz2 _ (by omega)) (Nat.le_of_ble_eq_true rfl) (Nat.le_of_ble_eq_true rfl) d_BB_init_27 ?_
    rw [(pb_n hL hm2), pb_push]
    show Ax g m_BB_init 150 65368 _ (P ++ (.inl (11, [(2, (L + 1)), (2, (L + 3)), (3, 0), (3, 0), (3, 0), (3, 0), (3, 0), (3, 0), (3, 0), (3, 0), (3, 0), (3, 0), (3, 0), (0, 0), (0, 0)])) :: (T2 ++ [.inl (6, [(3, 0), (3, 0), (0, 0), (0, 0), (0, 0), (0, 0), (3, 0)])])) s2 9 510 30 [(0, .ref (gB g + L))] [.ref (gB g + (L + 9)), .ref (gB g + L)]
    refine a_dup (pc := 30) rfl d_BB_init_30 ?_
    refine a_callIN (a := 0) (pc := 31) (M' := m_RR_init) (i := gB g + (L + 9)) (As := []) (st := [.ref (gB g + (L + 9)), .ref (gB g + L)]) (mc' := 7) (ms' := 1297) (host := "BallBox") (by simp [nests]) tw155 tw6 tw156 rfl rfl (by decide +kernel) rfl (by decide) (by decide) rfl (Nat.le_of_ble_eq_true rfl) (Nat.le_of_ble_eq_true rfl) (Nat.le_of_ble_eq_true rfl) d_BB_init_31 (by have q := cc_RR_init (g := g) (P := P ++ (.inl (11, [(2, (L + 1)), (2, (L + 3)), (3, 0), (3, 0), (3, 0), (3, 0), (3, 0), (3, 0), (3, 0), (3, 0), (3, 0), (3, 0), (3, 0), (0, 0), (0, 0)])) :: T2) (L := L + 9) (σ := s2) (pb_n hL hm2) (fun i hi => hz2 i (by omega)); rw [pb_push] at q; exact q) ?_
    rintro _ _ s' ⟨rfl, rfl, hs⟩ -
    rw [hs, pb_push]
    show Ax g m_BB_init 150 65368 _ (P ++ (.inl (11, [(2, (L + 1)), (2, (L + 3)), (3, 0), (3, 0), (3, 0), (3, 0), (3, 0), (3, 0), (3, 0), (3, 0), (3, 0), (3, 0), (3, 0), (0, 0), (0, 0)])) :: (T2 ++ [.inl (6, [(2, (L + 10)), (2, (L + 11)), (0, 0), (0, 0), (0, 0), (0, 0), (2, (L + 12))]), .inr (0, 401, []), .inr (0, 401, []), .inl (5, [(2, (L + 13)), (2, (L + 14)), (2, (L + 15)), (2, (L + 16)), (0, 0), (0, 0), (0, 0)]), .inr (0, 400, []), .inr (0, 12, []), .inr (0, 12, []), .inr (1, 64, [])])) (F_RR_init s2 (L + 9)) 16 1807 34 [(0, .ref (gB g + L))] [.ref (gB g + (L + 9)), .ref (gB g + L)]
    obtain ⟨T3, hT3⟩ : ∃ y : List Sh, y = T2 ++ [.inl (6, [(2, (L + 10)), (2, (L + 11)), (0, 0), (0, 0), (0, 0), (0, 0), (2, (L + 12))]), .inr (0, 401, []), .inr (0, 401, []), .inl (5, [(2, (L + 13)), (2, (L + 14)), (2, (L + 15)), (2, (L + 16)), (0, 0), (0, 0), (0, 0)]), .inr (0, 400, []), .inr (0, 12, []), .inr (0, 12, []), .inr (1, 64, [])] := ⟨_, rfl⟩
    have hm3 : T3.length + 1 = 17 := by rw [hT3, List.length_append]; have := hm2; simp only [List.length_cons, List.length_nil]; omega
    have eT3 : T3 = RT_BB_init_3 L := by rw [hT3, eT2]; rfl
    rw [← hT3]
    refine a_nms (fun s3 hs3 => ?_)
    have hz3 : ∀ i, L + 17 ≤ i → zro s3 i := fun i hi => by rw [hs3]; exact zf_RR_init (by omega) (hz2 i (by omega))
    show Ax g m_BB_init 150 65368 _ (P ++ (.inl (11, [(2, (L + 1)), (2, (L + 3)), (3, 0), (3, 0), (3, 0), (3, 0), (3, 0), (3, 0), (3, 0), (3, 0), (3, 0), (3, 0), (3, 0), (0, 0), (0, 0)])) :: T3) s3 16 1807 34 [(0, .ref (gB g + L))] [.ref (gB g + (L + 9)), .ref (gB g + L)]
    refine a_putF (pc := 34) (i := L) (r := (L + 9)) fp_BB_26 (Or.inl ⟨_, rfl⟩) rfl rfl (pb_g hL) rfl d_BB_init_34 ?_
    rw [pb_s hL]
    show Ax g m_BB_init 150 65368 _ (P ++ (.inl (11, [(2, (L + 1)), (2, (L + 3)), (2, (L + 9)), (3, 0), (3, 0), (3, 0), (3, 0), (3, 0), (3, 0), (3, 0), (3, 0), (3, 0), (3, 0), (0, 0), (0, 0)])) :: T3) s3 16 1807 37 [(0, .ref (gB g + L))] []
    refine a_aload_n (pc := 37) 0 rfl rfl d_BB_init_37 ?_
    refine a_newo (pc := 38) (ci := 4) (N := 8) tyX4 rfl uw4 tyX4_ok (by decide) tw210 tw211 tw8 (by rw [(pb_n hL hm3)]; exact hz3 _ (by omega)) (Nat.le_of_ble_eq_true rfl) (Nat.le_of_ble_eq_true rfl) d_BB_init_38 ?_
    rw [(pb_n hL hm3), pb_push]
    show Ax g m_BB_init 150 65368 _ (P ++ (.inl (11, [(2, (L + 1)), (2, (L + 3)), (2, (L + 9)), (3, 0), (3, 0), (3, 0), (3, 0), (3, 0), (3, 0), (3, 0), (3, 0), (3, 0), (3, 0), (0, 0), (0, 0)])) :: (T3 ++ [.inl (4, [(3, 0), (3, 0), (3, 0), (3, 0), (0, 0), (0, 0), (0, 0), (0, 0)])])) s3 17 1815 41 [(0, .ref (gB g + L))] [.ref (gB g + (L + 17)), .ref (gB g + L)]
    refine a_dup (pc := 41) rfl d_BB_init_41 ?_
    refine a_callI (a := 0) (pc := 42) (M' := m_RO_init) (i := gB g + (L + 17)) (As := []) (st := [.ref (gB g + (L + 17)), .ref (gB g + L)]) (mc' := 34) (ms' := 2990) tw212 tw213 tw8 tw214 rfl rfl (by decide +kernel) rfl (by decide) (by decide) rfl (Nat.le_of_ble_eq_true rfl) (Nat.le_of_ble_eq_true rfl) (Nat.le_of_ble_eq_true rfl) d_BB_init_42 (by have q := cc_RO_init (g := g) (P := P ++ (.inl (11, [(2, (L + 1)), (2, (L + 3)), (2, (L + 9)), (3, 0), (3, 0), (3, 0), (3, 0), (3, 0), (3, 0), (3, 0), (3, 0), (3, 0), (3, 0), (0, 0), (0, 0)])) :: T3) (L := L + 17) (σ := s3) (pb_n hL hm3) (fun i hi => hz3 i (by omega)); rw [pb_push] at q; exact q) ?_
    rintro _ _ s' ⟨rfl, rfl, hs⟩ -
    rw [hs, pb_push]
    show Ax g m_BB_init 150 65368 _ (P ++ (.inl (11, [(2, (L + 1)), (2, (L + 3)), (2, (L + 9)), (3, 0), (3, 0), (3, 0), (3, 0), (3, 0), (3, 0), (3, 0), (3, 0), (3, 0), (3, 0), (0, 0), (0, 0)])) :: (T3 ++ [.inl (4, [(2, (L + 18)), (2, (L + 19)), (2, (L + 20)), (2, (L + 21)), (0, 0), (0, 0), (0, 0), (0, 0)]), .inr (4, 6, [(L + 22) + 1, (L + 27) + 1, (L + 32) + 1, (L + 37) + 1, (L + 42) + 1, (L + 47) + 1]), .inr (1, 8, []), .inr (1, 3, []), .inr (0, 3, []), .inl (5, [(2, (L + 23)), (2, (L + 24)), (2, (L + 25)), (2, (L + 26)), (0, 0), (0, 0), (0, 0)]), .inr (0, 400, []), .inr (0, 12, []), .inr (0, 12, []), .inr (1, 64, []), .inl (5, [(2, (L + 28)), (2, (L + 29)), (2, (L + 30)), (2, (L + 31)), (0, 0), (0, 0), (0, 0)]), .inr (0, 400, []), .inr (0, 12, []), .inr (0, 12, []), .inr (1, 64, []), .inl (5, [(2, (L + 33)), (2, (L + 34)), (2, (L + 35)), (2, (L + 36)), (0, 0), (0, 0), (0, 0)]), .inr (0, 400, []), .inr (0, 12, []), .inr (0, 12, []), .inr (1, 64, []), .inl (5, [(2, (L + 38)), (2, (L + 39)), (2, (L + 40)), (2, (L + 41)), (0, 0), (0, 0), (0, 0)]), .inr (0, 400, []), .inr (0, 12, []), .inr (0, 12, []), .inr (1, 64, []), .inl (5, [(2, (L + 43)), (2, (L + 44)), (2, (L + 45)), (2, (L + 46)), (0, 0), (0, 0), (0, 0)]), .inr (0, 400, []), .inr (0, 12, []), .inr (0, 12, []), .inr (1, 64, []), .inl (5, [(2, (L + 48)), (2, (L + 49)), (2, (L + 50)), (2, (L + 51)), (0, 0), (0, 0), (0, 0)]), .inr (0, 400, []), .inr (0, 12, []), .inr (0, 12, []), .inr (1, 64, [])])) (F_RO_init s3 (L + 17)) 51 4805 45 [(0, .ref (gB g + L))] [.ref (gB g + (L + 17)), .ref (gB g + L)]
    obtain ⟨T4, hT4⟩ : ∃ y : List Sh, y = T3 ++ [.inl (4, [(2, (L + 18)), (2, (L + 19)), (2, (L + 20)), (2, (L + 21)), (0, 0), (0, 0), (0, 0), (0, 0)]), .inr (4, 6, [(L + 22) + 1, (L + 27) + 1, (L + 32) + 1, (L + 37) + 1, (L + 42) + 1, (L + 47) + 1]), .inr (1, 8, []), .inr (1, 3, []), .inr (0, 3, []), .inl (5, [(2, (L + 23)), (2, (L + 24)), (2, (L + 25)), (2, (L + 26)), (0, 0), (0, 0), (0, 0)]), .inr (0, 400, []), .inr (0, 12, []), .inr (0, 12, []), .inr (1, 64, []), .inl (5, [(2, (L + 28)), (2, (L + 29)), (2, (L + 30)), (2, (L + 31)), (0, 0), (0, 0), (0, 0)]), .inr (0, 400, []), .inr (0, 12, []), .inr (0, 12, []), .inr (1, 64, []), .inl (5, [(2, (L + 33)), (2, (L + 34)), (2, (L + 35)), (2, (L + 36)), (0, 0), (0, 0), (0, 0)]), .inr (0, 400, []), .inr (0, 12, []), .inr (0, 12, []), .inr (1, 64, []), .inl (5, [(2, (L + 38)), (2, (L + 39)), (2, (L + 40)), (2, (L + 41)), (0, 0), (0, 0), (0, 0)]), .inr (0, 400, []), .inr (0, 12, []), .inr (0, 12, []), .inr (1, 64, []), .inl (5, [(2, (L + 43)), (2, (L + 44)), (2, (L + 45)), (2, (L + 46)), (0, 0), (0, 0), (0, 0)]), .inr (0, 400, []), .inr (0, 12, []), .inr (0, 12, []), .inr (1, 64, []), .inl (5, [(2, (L + 48)), (2, (L + 49)), (2, (L + 50)), (2, (L + 51)), (0, 0), (0, 0), (0, 0)]), .inr (0, 400, []), .inr (0, 12, []), .inr (0, 12, []), .inr (1, 64, [])] := ⟨_, rfl⟩
    have hm4 : T4.length + 1 = 52 := by rw [hT4, List.length_append]; have := hm3; simp only [List.length_cons, List.length_nil]; omega
    have eT4 : T4 = RT_BB_init_4 L := by rw [hT4, eT3]; rfl
    rw [← hT4]
    refine a_nms (fun s4 hs4 => ?_)
    have hz4 : ∀ i, L + 52 ≤ i → zro s4 i := fun i hi => by rw [hs4]; exact zf_RO_init (by omega) (hz3 i (by omega))
    show Ax g m_BB_init 150 65368 _ (P ++ (.inl (11, [(2, (L + 1)), (2, (L + 3)), (2, (L + 9)), (3, 0), (3, 0), (3, 0), (3, 0), (3, 0), (3, 0), (3, 0), (3, 0), (3, 0), (3, 0), (0, 0), (0, 0)])) :: T4) s4 51 4805 45 [(0, .ref (gB g + L))] [.ref (gB g + (L + 17)), .ref (gB g + L)]
    refine a_putF (pc := 45) (i := L) (r := (L + 17)) fp_BB_33 (Or.inl ⟨_, rfl⟩) rfl rfl (pb_g hL) rfl d_BB_init_45 ?_
    rw [pb_s hL]
    show Ax g m_BB_init 150 65368 _ (P ++ (.inl (11, [(2, (L + 1)), (2, (L + 3)), (2, (L + 9)), (2, (L + 17)), (3, 0), (3, 0), (3, 0), (3, 0), (3, 0), (3, 0), (3, 0), (3, 0), (3, 0), (0, 0), (0, 0)])) :: T4) s4 51 4805 48 [(0, .ref (gB g + L))] []
    refine a_aload_n (pc := 48) 0 rfl rfl d_BB_init_48 ?_
    refine a_newo (pc := 49) (ci := 7) (N := 8) tyX7 rfl uw7 tyX7_ok (by decide) tw251 tw252 tw9 (by rw [(pb_n hL hm4)]; exact hz4 _ (by omega)) (Nat.le_of_ble_eq_true rfl) (Nat.le_of_ble_eq_true rfl) d_BB_init_49 ?_
    rw [(pb_n hL hm4), pb_push]
    show Ax g m_BB_init 150 65368 _ (P ++ (.inl (11, [(2, (L + 1)), (2, (L + 3)), (2, (L + 9)), (2, (L + 17)), (3, 0), (3, 0), (3, 0), (3, 0), (3, 0), (3, 0), (3, 0), (3, 0), (3, 0), (0, 0), (0, 0)])) :: (T4 ++ [.inl (7, [(3, 0), (3, 0), (3, 0), (3, 0), (0, 0), (0, 0), (0, 0), (0, 0)])])) s4 52 4813 52 [(0, .ref (gB g + L))] [.ref (gB g + (L + 52)), .ref (gB g + L)]
    refine a_dup (pc := 52) rfl d_BB_init_52 ?_
    refine a_aload_n (pc := 53) 0 rfl rfl d_BB_init_53 ?_
    refine a_getR (pc := 54) (i := L) (r := (L + 17)) fg_BB_33 (pb_g hL) rfl d_BB_init_54 ?_
    refine a_callI (a := 1) (pc := 57) (M' := m_SE_init) (i := gB g + (L + 52)) (As := [.ref (gB g + (L + 17))]) (st := [.ref (gB g + (L + 52)), .ref (gB g + L)]) (mc' := 3) (ms' := 12096) tw253 tw254 tw9 tw255 rfl rfl (by decide +kernel) rfl (by decide) (by decide) rfl (Nat.le_of_ble_eq_true rfl) (Nat.le_of_ble_eq_true rfl) (Nat.le_of_ble_eq_true rfl) d_BB_init_57 (by have q := cc_SE_init (g := g) (P := P ++ (.inl (11, [(2, (L + 1)), (2, (L + 3)), (2, (L + 9)), (2, (L + 17)), (3, 0), (3, 0), (3, 0), (3, 0), (3, 0), (3, 0), (3, 0), (3, 0), (3, 0), (0, 0), (0, 0)])) :: T4) (L := L + 52) (ro := (L + 17)) (σ := s4) (pb_n hL hm4) (fun i hi => hz4 i (by omega)); rw [pb_push] at q; exact q) ?_
    rintro _ _ s' ⟨rfl, rfl, hs⟩ -
    rw [hs, pb_push]
    show Ax g m_BB_init 150 65368 _ (P ++ (.inl (11, [(2, (L + 1)), (2, (L + 3)), (2, (L + 9)), (2, (L + 17)), (3, 0), (3, 0), (3, 0), (3, 0), (3, 0), (3, 0), (3, 0), (3, 0), (3, 0), (0, 0), (0, 0)])) :: (T4 ++ [.inl (7, [(2, (L + 17)), (2, (L + 53)), (2, (L + 54)), (2, (L + 55)), (0, 0), (0, 0), (0, 0), (0, 0)]), .inr (0, 4000, []), .inr (0, 4000, []), .inr (1, 4096, [])])) (F_SE_init s4 (L + 52)) 55 16909 60 [(0, .ref (gB g + L))] [.ref (gB g + (L + 52)), .ref (gB g + L)]
    obtain ⟨T5, hT5⟩ : ∃ y : List Sh, y = T4 ++ [.inl (7, [(2, (L + 17)), (2, (L + 53)), (2, (L + 54)), (2, (L + 55)), (0, 0), (0, 0), (0, 0), (0, 0)]), .inr (0, 4000, []), .inr (0, 4000, []), .inr (1, 4096, [])] := ⟨_, rfl⟩
    have hm5 : T5.length + 1 = 56 := by rw [hT5, List.length_append]; have := hm4; simp only [List.length_cons, List.length_nil]; omega
    have eT5 : T5 = RT_BB_init_5 L := by rw [hT5, eT4]; rfl
    rw [← hT5]
    refine a_nms (fun s5 hs5 => ?_)
    have hz5 : ∀ i, L + 56 ≤ i → zro s5 i := fun i hi => by rw [hs5]; exact zf_SE_init (by omega) (hz4 i (by omega))
    show Ax g m_BB_init 150 65368 _ (P ++ (.inl (11, [(2, (L + 1)), (2, (L + 3)), (2, (L + 9)), (2, (L + 17)), (3, 0), (3, 0), (3, 0), (3, 0), (3, 0), (3, 0), (3, 0), (3, 0), (3, 0), (0, 0), (0, 0)])) :: T5) s5 55 16909 60 [(0, .ref (gB g + L))] [.ref (gB g + (L + 52)), .ref (gB g + L)]
    refine a_putF (pc := 60) (i := L) (r := (L + 52)) fp_BB_42 (Or.inl ⟨_, rfl⟩) rfl rfl (pb_g hL) rfl d_BB_init_60 ?_
    rw [pb_s hL]
    show Ax g m_BB_init 150 65368 _ (P ++ (.inl (11, [(2, (L + 1)), (2, (L + 3)), (2, (L + 9)), (2, (L + 17)), (2, (L + 52)), (3, 0), (3, 0), (3, 0), (3, 0), (3, 0), (3, 0), (3, 0), (3, 0), (0, 0), (0, 0)])) :: T5) s5 55 16909 63 [(0, .ref (gB g + L))] []
    refine a_aload_n (pc := 63) 0 rfl rfl d_BB_init_63 ?_
    refine a_newo (pc := 64) (ci := 1) (N := 5) tyX1 rfl uw1 tyX1_ok (by decide) tw283 tw284 tw10 (by rw [(pb_n hL hm5)]; exact hz5 _ (by omega)) (Nat.le_of_ble_eq_true rfl) (Nat.le_of_ble_eq_true rfl) d_BB_init_64 ?_
    rw [(pb_n hL hm5), pb_push]
    show Ax g m_BB_init 150 65368 _ (P ++ (.inl (11, [(2, (L + 1)), (2, (L + 3)), (2, (L + 9)), (2, (L + 17)), (2, (L + 52)), (3, 0), (3, 0), (3, 0), (3, 0), (3, 0), (3, 0), (3, 0), (3, 0), (0, 0), (0, 0)])) :: (T5 ++ [.inl (1, [(3, 0), (3, 0), (3, 0), (3, 0), (3, 0)])])) s5 56 16914 67 [(0, .ref (gB g + L))] [.ref (gB g + (L + 56)), .ref (gB g + L)]
    refine a_dup (pc := 67) rfl d_BB_init_67 ?_
    refine a_aload_n (pc := 68) 0 rfl rfl d_BB_init_68 ?_
    refine a_getR (pc := 69) (i := L) (r := (L + 17)) fg_BB_33 (pb_g hL) rfl d_BB_init_69 ?_
    refine a_callI (a := 1) (pc := 72) (M' := m_CA_init) (i := gB g + (L + 56)) (As := [.ref (gB g + (L + 17))]) (st := [.ref (gB g + (L + 56)), .ref (gB g + L)]) (mc' := 12) (ms' := 12208) tw285 tw286 tw10 tw287 rfl rfl (by decide +kernel) rfl (by decide) (by decide) rfl (Nat.le_of_ble_eq_true rfl) (Nat.le_of_ble_eq_true rfl) (Nat.le_of_ble_eq_true rfl) d_BB_init_72 (by have q := cc_CA_init (g := g) (P := P ++ (.inl (11, [(2, (L + 1)), (2, (L + 3)), (2, (L + 9)), (2, (L + 17)), (2, (L + 52)), (3, 0), (3, 0), (3, 0), (3, 0), (3, 0), (3, 0), (3, 0), (3, 0), (0, 0), (0, 0)])) :: T5) (L := L + 56) (ro := (L + 17)) (σ := s5) (pb_n hL hm5) (fun i hi => hz5 i (by omega)); rw [pb_push] at q; exact q) ?_
    rintro _ _ s' ⟨rfl, rfl, hs⟩ -
    rw [hs, pb_push]
    show Ax g m_BB_init 150 65368 _ (P ++ (.inl (11, [(2, (L + 1)), (2, (L + 3)), (2, (L + 9)), (2, (L + 17)), (2, (L + 52)), (3, 0), (3, 0), (3, 0), (3, 0), (3, 0), (3, 0), (3, 0), (3, 0), (0, 0), (0, 0)])) :: (T5 ++ [.inl (1, [(2, (L + 65)), (2, (L + 57)), (2, (L + 62)), (2, (L + 63)), (2, (L + 64))]), .inl (8, [(0, 0), (0, 0), (0, 0), (0, 0), (0, 0), (0, 0), (0, 0), (0, 0), (0, 0), (0, 0), (0, 0), (2, (L + 58)), (2, (L + 59)), (2, (L + 60)), (2, (L + 61))]), .inr (0, 64, []), .inr (0, 3, []), .inr (0, 8, []), .inr (0, 8, []), .inr (0, 2, []), .inr (0, 2, []), .inr (0, 2, []), .inl (7, [(2, (L + 17)), (2, (L + 66)), (2, (L + 67)), (2, (L + 68)), (0, 0), (0, 0), (0, 0), (0, 0)]), .inr (0, 4000, []), .inr (0, 4000, []), .inr (1, 4096, [])])) (F_CA_init s5 (L + 56)) 68 29122 75 [(0, .ref (gB g + L))] [.ref (gB g + (L + 56)), .ref (gB g + L)]
    obtain ⟨T6, hT6⟩ : ∃ y : List Sh, y = T5 ++ [.inl (1, [(2, (L + 65)), (2, (L + 57)), (2, (L + 62)), (2, (L + 63)), (2, (L + 64))]), .inl (8, [(0, 0), (0, 0), (0, 0), (0, 0), (0, 0), (0, 0), (0, 0), (0, 0), (0, 0), (0, 0), (0, 0), (2, (L + 58)), (2, (L + 59)), (2, (L + 60)), (2, (L + 61))]), .inr (0, 64, []), .inr (0, 3, []), .inr (0, 8, []), .inr (0, 8, []), .inr (0, 2, []), .inr (0, 2, []), .inr (0, 2, []), .inl (7, [(2, (L + 17)), (2, (L + 66)), (2, (L + 67)), (2, (L + 68)), (0, 0), (0, 0), (0, 0), (0, 0)]), .inr (0, 4000, []), .inr (0, 4000, []), .inr (1, 4096, [])] := ⟨_, rfl⟩
    have hm6 : T6.length + 1 = 69 := by rw [hT6, List.length_append]; have := hm5; simp only [List.length_cons, List.length_nil]; omega
    have eT6 : T6 = RT_BB_init_6 L := by rw [hT6, eT5]; rfl
    rw [← hT6]
    refine a_nms (fun s6 hs6 => ?_)
    have hz6 : ∀ i, L + 69 ≤ i → zro s6 i := fun i hi => by rw [hs6]; exact zf_CA_init (by omega) (hz5 i (by omega))
    show Ax g m_BB_init 150 65368 _ (P ++ (.inl (11, [(2, (L + 1)), (2, (L + 3)), (2, (L + 9)), (2, (L + 17)), (2, (L + 52)), (3, 0), (3, 0), (3, 0), (3, 0), (3, 0), (3, 0), (3, 0), (3, 0), (0, 0), (0, 0)])) :: T6) s6 68 29122 75 [(0, .ref (gB g + L))] [.ref (gB g + (L + 56)), .ref (gB g + L)]
    refine a_putF (pc := 75) (i := L) (r := (L + 56)) fp_BB_49 (Or.inl ⟨_, rfl⟩) rfl rfl (pb_g hL) rfl d_BB_init_75 ?_
    rw [pb_s hL]
    show Ax g m_BB_init 150 65368 _ (P ++ (.inl (11, [(2, (L + 1)), (2, (L + 3)), (2, (L + 9)), (2, (L + 17)), (2, (L + 52)), (2, (L + 56)), (3, 0), (3, 0), (3, 0), (3, 0), (3, 0), (3, 0), (3, 0), (0, 0), (0, 0)])) :: T6) s6 68 29122 78 [(0, .ref (gB g + L))] []
    refine a_aload_n (pc := 78) 0 rfl rfl d_BB_init_78 ?_
    refine a_newo (pc := 79) (ci := 3) (N := 16) tyX3 rfl uw3 tyX3_ok (by decide) tw309 tw310 tw11 (by rw [(pb_n hL hm6)]; exact hz6 _ (by omega)) (Nat.le_of_ble_eq_true rfl) (Nat.le_of_ble_eq_true rfl) d_BB_init_79 ?_
    rw [(pb_n hL hm6), pb_push]
    show Ax g m_BB_init 150 65368 _ (P ++ (.inl (11, [(2, (L + 1)), (2, (L + 3)), (2, (L + 9)), (2, (L + 17)), (2, (L + 52)), (2, (L + 56)), (3, 0), (3, 0), (3, 0), (3, 0), (3, 0), (3, 0), (3, 0), (0, 0), (0, 0)])) :: (T6 ++ [.inl (3, [(3, 0), (3, 0), (3, 0), (3, 0), (3, 0), (3, 0), (3, 0), (3, 0), (3, 0), (0, 0), (0, 0), (0, 0), (0, 0), (0, 0), (0, 0), (0, 0)])])) s6 69 29138 82 [(0, .ref (gB g + L))] [.ref (gB g + (L + 69)), .ref (gB g + L)]
    refine a_dup (pc := 82) rfl d_BB_init_82 ?_
    refine a_aload_n (pc := 83) 0 rfl rfl d_BB_init_83 ?_
    refine a_getR (pc := 84) (i := L) (r := (L + 17)) fg_BB_33 (pb_g hL) rfl d_BB_init_84 ?_
    refine a_callI (a := 1) (pc := 87) (M' := m_PA_init) (i := gB g + (L + 69)) (As := [.ref (gB g + (L + 17))]) (st := [.ref (gB g + (L + 69)), .ref (gB g + L)]) (mc' := 8) (ms' := 34815) tw311 tw312 tw11 tw313 rfl rfl (by decide +kernel) rfl (by decide) (by decide) rfl (Nat.le_of_ble_eq_true rfl) (Nat.le_of_ble_eq_true rfl) (Nat.le_of_ble_eq_true rfl) d_BB_init_87 (by have q := cc_PA_init (g := g) (P := P ++ (.inl (11, [(2, (L + 1)), (2, (L + 3)), (2, (L + 9)), (2, (L + 17)), (2, (L + 52)), (2, (L + 56)), (3, 0), (3, 0), (3, 0), (3, 0), (3, 0), (3, 0), (3, 0), (0, 0), (0, 0)])) :: T6) (L := L + 69) (ro := (L + 17)) (σ := s6) (pb_n hL hm6) (fun i hi => hz6 i (by omega)); rw [pb_push] at q; exact q) ?_
    rintro _ _ s' ⟨rfl, rfl, hs⟩ -
    rw [hs, pb_push]
    show Ax g m_BB_init 150 65368 _ (P ++ (.inl (11, [(2, (L + 1)), (2, (L + 3)), (2, (L + 9)), (2, (L + 17)), (2, (L + 52)), (2, (L + 56)), (3, 0), (3, 0), (3, 0), (3, 0), (3, 0), (3, 0), (3, 0), (0, 0), (0, 0)])) :: (T6 ++ [.inl (3, [(2, (L + 17)), (2, (L + 70)), (2, (L + 71)), (2, (L + 72)), (2, (L + 73)), (2, (L + 74)), (2, (L + 75)), (2, (L + 76)), (2, (L + 77)), (0, 0), (0, 0), (0, 0), (0, 0), (0, 0), (0, 0), (0, 0)]), .inr (0, 36, []), .inr (0, 16384, []), .inr (0, 4096, []), .inr (0, 1369, []), .inr (0, 4096, []), .inr (0, 8820, []), .inr (0, 7, []), .inr (0, 7, [])])) (F_PA_init s6 (L + 69)) 77 63953 90 [(0, .ref (gB g + L))] [.ref (gB g + (L + 69)), .ref (gB g + L)]
    obtain ⟨T7, hT7⟩ : ∃ y : List Sh, y = T6 ++ [.inl (3, [(2, (L + 17)), (2, (L + 70)), (2, (L + 71)), (2, (L + 72)), (2, (L + 73)), (2, (L + 74)), (2, (L + 75)), (2, (L + 76)), (2, (L + 77)), (0, 0), (0, 0), (0, 0), (0, 0), (0, 0), (0, 0), (0, 0)]), .inr (0, 36, []), .inr (0, 16384, []), .inr (0, 4096, []), .inr (0, 1369, []), .inr (0, 4096, []), .inr (0, 8820, []), .inr (0, 7, []), .inr (0, 7, [])] := ⟨_, rfl⟩
    have hm7 : T7.length + 1 = 78 := by rw [hT7, List.length_append]; have := hm6; simp only [List.length_cons, List.length_nil]; omega
    have eT7 : T7 = RT_BB_init_7 L := by rw [hT7, eT6]; rfl
    rw [← hT7]
    refine a_nms (fun s7 hs7 => ?_)
    have hz7 : ∀ i, L + 78 ≤ i → zro s7 i := fun i hi => by rw [hs7]; exact zf_PA_init (by omega) (hz6 i (by omega))
    show Ax g m_BB_init 150 65368 _ (P ++ (.inl (11, [(2, (L + 1)), (2, (L + 3)), (2, (L + 9)), (2, (L + 17)), (2, (L + 52)), (2, (L + 56)), (3, 0), (3, 0), (3, 0), (3, 0), (3, 0), (3, 0), (3, 0), (0, 0), (0, 0)])) :: T7) s7 77 63953 90 [(0, .ref (gB g + L))] [.ref (gB g + (L + 69)), .ref (gB g + L)]
    refine a_putF (pc := 90) (i := L) (r := (L + 69)) fp_BB_56 (Or.inl ⟨_, rfl⟩) rfl rfl (pb_g hL) rfl d_BB_init_90 ?_
    rw [pb_s hL]
    show Ax g m_BB_init 150 65368 _ (P ++ (.inl (11, [(2, (L + 1)), (2, (L + 3)), (2, (L + 9)), (2, (L + 17)), (2, (L + 52)), (2, (L + 56)), (2, (L + 69)), (3, 0), (3, 0), (3, 0), (3, 0), (3, 0), (3, 0), (0, 0), (0, 0)])) :: T7) s7 77 63953 93 [(0, .ref (gB g + L))] []
    refine a_aload_n (pc := 93) 0 rfl rfl d_BB_init_93 ?_
    refine a_newo (pc := 94) (ci := 2) (N := 10) tyX2 rfl uw2 tyX2_ok (by decide) tw366 tw367 tw12 (by rw [(pb_n hL hm7)]; exact hz7 _ (by omega)) (Nat.le_of_ble_eq_true rfl) (Nat.le_of_ble_eq_true rfl) d_BB_init_94 ?_
    rw [(pb_n hL hm7), pb_push]
    show Ax g m_BB_init 150 65368 _ (P ++ (.inl (11, [(2, (L + 1)), (2, (L + 3)), (2, (L + 9)), (2, (L + 17)), (2, (L + 52)), (2, (L + 56)), (2, (L + 69)), (3, 0), (3, 0), (3, 0), (3, 0), (3, 0), (3, 0), (0, 0), (0, 0)])) :: (T7 ++ [.inl (2, [(3, 0), (3, 0), (3, 0), (3, 0), (0, 0), (0, 0), (0, 0), (0, 0), (0, 0), (0, 0)])])) s7 78 63963 97 [(0, .ref (gB g + L))] [.ref (gB g + (L + 78)), .ref (gB g + L)]
    refine a_dup (pc := 97) rfl d_BB_init_97 ?_
    refine a_aload_n (pc := 98) 0 rfl rfl d_BB_init_98 ?_
    refine a_getR (pc := 99) (i := L) (r := (L + 17)) fg_BB_33 (pb_g hL) rfl d_BB_init_99 ?_
    refine a_callI (a := 1) (pc := 102) (M' := m_LI_init) (i := gB g + (L + 78)) (As := [.ref (gB g + (L + 17))]) (st := [.ref (gB g + (L + 78)), .ref (gB g + L)]) (mc' := 3) (ms' := 103) tw368 tw369 tw12 tw370 rfl rfl (by decide +kernel) rfl (by decide) (by decide) rfl (Nat.le_of_ble_eq_true rfl) (Nat.le_of_ble_eq_true rfl) (Nat.le_of_ble_eq_true rfl) d_BB_init_102 (by have q := cc_LI_init (g := g) (P := P ++ (.inl (11, [(2, (L + 1)), (2, (L + 3)), (2, (L + 9)), (2, (L + 17)), (2, (L + 52)), (2, (L + 56)), (2, (L + 69)), (3, 0), (3, 0), (3, 0), (3, 0), (3, 0), (3, 0), (0, 0), (0, 0)])) :: T7) (L := L + 78) (ro := (L + 17)) (σ := s7) (pb_n hL hm7) (fun i hi => hz7 i (by omega)); rw [pb_push] at q; exact q) ?_
    rintro _ _ s' ⟨rfl, rfl, hs⟩ -
    rw [hs, pb_push]
    show Ax g m_BB_init 150 65368 _ (P ++ (.inl (11, [(2, (L + 1)), (2, (L + 3)), (2, (L + 9)), (2, (L + 17)), (2, (L + 52)), (2, (L + 56)), (2, (L + 69)), (3, 0), (3, 0), (3, 0), (3, 0), (3, 0), (3, 0), (0, 0), (0, 0)])) :: (T7 ++ [.inl (2, [(2, (L + 17)), (2, (L + 79)), (2, (L + 80)), (2, (L + 81)), (0, 0), (0, 0), (0, 0), (0, 0), (0, 0), (0, 0)]), .inr (0, 36, []), .inr (1, 3, []), .inr (0, 64, [])])) (F_LI_init s7 (L + 78)) 81 64066 105 [(0, .ref (gB g + L))] [.ref (gB g + (L + 78)), .ref (gB g + L)]
    obtain ⟨T8, hT8⟩ : ∃ y : List Sh, y = T7 ++ [.inl (2, [(2, (L + 17)), (2, (L + 79)), (2, (L + 80)), (2, (L + 81)), (0, 0), (0, 0), (0, 0), (0, 0), (0, 0), (0, 0)]), .inr (0, 36, []), .inr (1, 3, []), .inr (0, 64, [])] := ⟨_, rfl⟩
    have hm8 : T8.length + 1 = 82 := by rw [hT8, List.length_append]; have := hm7; simp only [List.length_cons, List.length_nil]; omega
    have eT8 : T8 = RT_BB_init_8 L := by rw [hT8, eT7]; rfl
    rw [← hT8]
    refine a_nms (fun s8 hs8 => ?_)
    have hz8 : ∀ i, L + 82 ≤ i → zro s8 i := fun i hi => by rw [hs8]; exact zf_LI_init (by omega) (hz7 i (by omega))
    show Ax g m_BB_init 150 65368 _ (P ++ (.inl (11, [(2, (L + 1)), (2, (L + 3)), (2, (L + 9)), (2, (L + 17)), (2, (L + 52)), (2, (L + 56)), (2, (L + 69)), (3, 0), (3, 0), (3, 0), (3, 0), (3, 0), (3, 0), (0, 0), (0, 0)])) :: T8) s8 81 64066 105 [(0, .ref (gB g + L))] [.ref (gB g + (L + 78)), .ref (gB g + L)]
    refine a_putF (pc := 105) (i := L) (r := (L + 78)) fp_BB_63 (Or.inl ⟨_, rfl⟩) rfl rfl (pb_g hL) rfl d_BB_init_105 ?_
    rw [pb_s hL]
    show Ax g m_BB_init 150 65368 _ (P ++ (.inl (11, [(2, (L + 1)), (2, (L + 3)), (2, (L + 9)), (2, (L + 17)), (2, (L + 52)), (2, (L + 56)), (2, (L + 69)), (2, (L + 78)), (3, 0), (3, 0), (3, 0), (3, 0), (3, 0), (0, 0), (0, 0)])) :: T8) s8 81 64066 108 [(0, .ref (gB g + L))] []
    refine a_aload_n (pc := 108) 0 rfl rfl d_BB_init_108 ?_
    refine a_newo (pc := 109) (ci := 10) (N := 8) tyX10 rfl uw10 tyX10_ok (by decide) tw407 tw408 tw13 (by rw [(pb_n hL hm8)]; exact hz8 _ (by omega)) (Nat.le_of_ble_eq_true rfl) (Nat.le_of_ble_eq_true rfl) d_BB_init_109 ?_
    rw [(pb_n hL hm8), pb_push]
    show Ax g m_BB_init 150 65368 _ (P ++ (.inl (11, [(2, (L + 1)), (2, (L + 3)), (2, (L + 9)), (2, (L + 17)), (2, (L + 52)), (2, (L + 56)), (2, (L + 69)), (2, (L + 78)), (3, 0), (3, 0), (3, 0), (3, 0), (3, 0), (0, 0), (0, 0)])) :: (T8 ++ [.inl (10, [(3, 0), (0, 0), (0, 0), (0, 0), (1, 0), (1, 0), (0, 0), (0, 0)])])) s8 82 64074 112 [(0, .ref (gB g + L))] [.ref (gB g + (L + 82)), .ref (gB g + L)]
    refine a_dup (pc := 112) rfl d_BB_init_112 ?_
    refine a_aload_n (pc := 113) 0 rfl rfl d_BB_init_113 ?_
    refine a_getR (pc := 114) (i := L) (r := (L + 17)) fg_BB_33 (pb_g hL) rfl d_BB_init_114 ?_
    refine a_callI (a := 1) (pc := 117) (M' := m_TR_init) (i := gB g + (L + 82)) (As := [.ref (gB g + (L + 17))]) (st := [.ref (gB g + (L + 82)), .ref (gB g + L)]) (mc' := 0) (ms' := 0) tw409 tw410 tw13 tw411 rfl rfl (by decide +kernel) rfl (by decide) (by decide) rfl (Nat.le_of_ble_eq_true rfl) (Nat.le_of_ble_eq_true rfl) (Nat.le_of_ble_eq_true rfl) d_BB_init_117 (by have q := cc_TR_init (g := g) (P := P ++ (.inl (11, [(2, (L + 1)), (2, (L + 3)), (2, (L + 9)), (2, (L + 17)), (2, (L + 52)), (2, (L + 56)), (2, (L + 69)), (2, (L + 78)), (3, 0), (3, 0), (3, 0), (3, 0), (3, 0), (0, 0), (0, 0)])) :: T8) (L := L + 82) (ro := (L + 17)) (σ := s8) (pb_n hL hm8) (fun i hi => hz8 i (by omega)); rw [pb_push] at q; exact q) ?_
    rintro _ _ s' ⟨rfl, rfl, hs⟩ -
    rw [hs, pb_push]
    show Ax g m_BB_init 150 65368 _ (P ++ (.inl (11, [(2, (L + 1)), (2, (L + 3)), (2, (L + 9)), (2, (L + 17)), (2, (L + 52)), (2, (L + 56)), (2, (L + 69)), (2, (L + 78)), (3, 0), (3, 0), (3, 0), (3, 0), (3, 0), (0, 0), (0, 0)])) :: (T8 ++ [.inl (10, [(2, (L + 17)), (0, 0), (0, 0), (0, 0), (1, 0), (1, 0), (0, 0), (0, 0)])])) (F_TR_init s8 (L + 82)) 82 64074 120 [(0, .ref (gB g + L))] [.ref (gB g + (L + 82)), .ref (gB g + L)]
    obtain ⟨T9, hT9⟩ : ∃ y : List Sh, y = T8 ++ [.inl (10, [(2, (L + 17)), (0, 0), (0, 0), (0, 0), (1, 0), (1, 0), (0, 0), (0, 0)])] := ⟨_, rfl⟩
    have hm9 : T9.length + 1 = 83 := by rw [hT9, List.length_append]; have := hm8; simp only [List.length_cons, List.length_nil]; omega
    have eT9 : T9 = RT_BB_init_9 L := by rw [hT9, eT8]; rfl
    rw [← hT9]
    refine a_nms (fun s9 hs9 => ?_)
    have hz9 : ∀ i, L + 83 ≤ i → zro s9 i := fun i hi => by rw [hs9]; exact zf_TR_init (by omega) (hz8 i (by omega))
    show Ax g m_BB_init 150 65368 _ (P ++ (.inl (11, [(2, (L + 1)), (2, (L + 3)), (2, (L + 9)), (2, (L + 17)), (2, (L + 52)), (2, (L + 56)), (2, (L + 69)), (2, (L + 78)), (3, 0), (3, 0), (3, 0), (3, 0), (3, 0), (0, 0), (0, 0)])) :: T9) s9 82 64074 120 [(0, .ref (gB g + L))] [.ref (gB g + (L + 82)), .ref (gB g + L)]
    refine a_putF (pc := 120) (i := L) (r := (L + 82)) fp_BB_70 (Or.inl ⟨_, rfl⟩) rfl rfl (pb_g hL) rfl d_BB_init_120 ?_
    rw [pb_s hL]
    show Ax g m_BB_init 150 65368 _ (P ++ (.inl (11, [(2, (L + 1)), (2, (L + 3)), (2, (L + 9)), (2, (L + 17)), (2, (L + 52)), (2, (L + 56)), (2, (L + 69)), (2, (L + 78)), (2, (L + 82)), (3, 0), (3, 0), (3, 0), (3, 0), (0, 0), (0, 0)])) :: T9) s9 82 64074 123 [(0, .ref (gB g + L))] []
    refine a_aload_n (pc := 123) 0 rfl rfl d_BB_init_123 ?_
    refine a_newo (pc := 124) (ci := 8) (N := 15) tyX8 rfl uw8 tyX8_ok (by decide) tw445 tw62 tw4 (by rw [(pb_n hL hm9)]; exact hz9 _ (by omega)) (Nat.le_of_ble_eq_true rfl) (Nat.le_of_ble_eq_true rfl) d_BB_init_124 ?_
    rw [(pb_n hL hm9), pb_push]
    show Ax g m_BB_init 150 65368 _ (P ++ (.inl (11, [(2, (L + 1)), (2, (L + 3)), (2, (L + 9)), (2, (L + 17)), (2, (L + 52)), (2, (L + 56)), (2, (L + 69)), (2, (L + 78)), (2, (L + 82)), (3, 0), (3, 0), (3, 0), (3, 0), (0, 0), (0, 0)])) :: (T9 ++ [.inl (8, [(0, 0), (0, 0), (0, 0), (0, 0), (0, 0), (0, 0), (0, 0), (0, 0), (0, 0), (0, 0), (0, 0), (3, 0), (3, 0), (3, 0), (3, 0)])])) s9 83 64089 127 [(0, .ref (gB g + L))] [.ref (gB g + (L + 83)), .ref (gB g + L)]
    refine a_dup (pc := 127) rfl d_BB_init_127 ?_
    refine a_callI (a := 0) (pc := 128) (M' := m_SA_init) (i := gB g + (L + 83)) (As := []) (st := [.ref (gB g + (L + 83)), .ref (gB g + L)]) (mc' := 4) (ms' := 83) tw446 tw64 tw4 tw65 rfl rfl (by decide +kernel) rfl (by decide) (by decide) rfl (Nat.le_of_ble_eq_true rfl) (Nat.le_of_ble_eq_true rfl) (Nat.le_of_ble_eq_true rfl) d_BB_init_128 (by have q := cc_SA_init (g := g) (P := P ++ (.inl (11, [(2, (L + 1)), (2, (L + 3)), (2, (L + 9)), (2, (L + 17)), (2, (L + 52)), (2, (L + 56)), (2, (L + 69)), (2, (L + 78)), (2, (L + 82)), (3, 0), (3, 0), (3, 0), (3, 0), (0, 0), (0, 0)])) :: T9) (L := L + 83) (σ := s9) (pb_n hL hm9) (fun i hi => hz9 i (by omega)); rw [pb_push] at q; exact q) ?_
    rintro _ _ s' ⟨rfl, rfl, hs⟩ -
    rw [hs, pb_push]
    show Ax g m_BB_init 150 65368 _ (P ++ (.inl (11, [(2, (L + 1)), (2, (L + 3)), (2, (L + 9)), (2, (L + 17)), (2, (L + 52)), (2, (L + 56)), (2, (L + 69)), (2, (L + 78)), (2, (L + 82)), (3, 0), (3, 0), (3, 0), (3, 0), (0, 0), (0, 0)])) :: (T9 ++ [.inl (8, [(0, 0), (0, 0), (0, 0), (0, 0), (0, 0), (0, 0), (0, 0), (0, 0), (0, 0), (0, 0), (0, 0), (2, (L + 84)), (2, (L + 85)), (2, (L + 86)), (2, (L + 87))]), .inr (0, 64, []), .inr (0, 3, []), .inr (0, 8, []), .inr (0, 8, [])])) (F_SA_init s9 (L + 83)) 87 64172 131 [(0, .ref (gB g + L))] [.ref (gB g + (L + 83)), .ref (gB g + L)]
    obtain ⟨T10, hT10⟩ : ∃ y : List Sh, y = T9 ++ [.inl (8, [(0, 0), (0, 0), (0, 0), (0, 0), (0, 0), (0, 0), (0, 0), (0, 0), (0, 0), (0, 0), (0, 0), (2, (L + 84)), (2, (L + 85)), (2, (L + 86)), (2, (L + 87))]), .inr (0, 64, []), .inr (0, 3, []), .inr (0, 8, []), .inr (0, 8, [])] := ⟨_, rfl⟩
    have hm10 : T10.length + 1 = 88 := by rw [hT10, List.length_append]; have := hm9; simp only [List.length_cons, List.length_nil]; omega
    have f10_82 : T10[82]? = some (.inl (8, [(0, 0), (0, 0), (0, 0), (0, 0), (0, 0), (0, 0), (0, 0), (0, 0), (0, 0), (0, 0), (0, 0), (2, (L + 84)), (2, (L + 85)), (2, (L + 86)), (2, (L + 87))])) := by rw [hT10, List.getElem?_append_right (by have := hm9; omega), show 82 - T9.length = 0 by have := hm9; omega]; rfl
    have eT10 : T10 = RT_BB_init_10 L := by rw [hT10, eT9]; rfl
    rw [← hT10]
    refine a_nms (fun s10 hs10 => ?_)
    have hz10 : ∀ i, L + 88 ≤ i → zro s10 i := fun i hi => by rw [hs10]; exact zf_SA_init (by omega) (hz9 i (by omega))
    show Ax g m_BB_init 150 65368 _ (P ++ (.inl (11, [(2, (L + 1)), (2, (L + 3)), (2, (L + 9)), (2, (L + 17)), (2, (L + 52)), (2, (L + 56)), (2, (L + 69)), (2, (L + 78)), (2, (L + 82)), (3, 0), (3, 0), (3, 0), (3, 0), (0, 0), (0, 0)])) :: T10) s10 87 64172 131 [(0, .ref (gB g + L))] [.ref (gB g + (L + 83)), .ref (gB g + L)]
    refine a_putF (pc := 131) (i := L) (r := (L + 83)) fp_BB_77 (Or.inl ⟨_, rfl⟩) rfl rfl (pb_g hL) rfl d_BB_init_131 ?_
    rw [pb_s hL]
    show Ax g m_BB_init 150 65368 _ (P ++ (.inl (11, [(2, (L + 1)), (2, (L + 3)), (2, (L + 9)), (2, (L + 17)), (2, (L + 52)), (2, (L + 56)), (2, (L + 69)), (2, (L + 78)), (2, (L + 82)), (2, (L + 83)), (3, 0), (3, 0), (3, 0), (0, 0), (0, 0)])) :: T10) s10 87 64172 134 [(0, .ref (gB g + L))] []
    refine a_aload_n (pc := 134) 0 rfl rfl d_BB_init_134 ?_
    refine a_iconst (pc := 135) (4 : Int32) (by decide) d_BB_init_135 ?_
    refine a_newq (pc := 136) (kd := 5) (N := 4) (Or.inr ⟨rfl, rfl⟩) tw445 (by decide) (by decide) (by decide) (Nat.le_of_ble_eq_true rfl) (Nat.le_of_ble_eq_true rfl) d_BB_init_136 ?_
    rw [(pb_n hL hm10), pb_push]
    show Ax g m_BB_init 150 65368 _ (P ++ (.inl (11, [(2, (L + 1)), (2, (L + 3)), (2, (L + 9)), (2, (L + 17)), (2, (L + 52)), (2, (L + 56)), (2, (L + 69)), (2, (L + 78)), (2, (L + 82)), (2, (L + 83)), (3, 0), (3, 0), (3, 0), (0, 0), (0, 0)])) :: (T10 ++ [.inr (5, 4, [0, 0, 0, 0])])) s10 88 64176 139 [(0, .ref (gB g + L))] [.ref (gB g + (L + 88)), .ref (gB g + L)]
    obtain ⟨T11, hT11⟩ : ∃ y : List Sh, y = T10 ++ [.inr (5, 4, [0, 0, 0, 0])] := ⟨_, rfl⟩
    have hm11 : T11.length + 1 = 89 := by rw [hT11, List.length_append]; have := hm10; simp only [List.length_cons, List.length_nil]; omega
    have f11_82 : T11[82]? = some (.inl (8, [(0, 0), (0, 0), (0, 0), (0, 0), (0, 0), (0, 0), (0, 0), (0, 0), (0, 0), (0, 0), (0, 0), (2, (L + 84)), (2, (L + 85)), (2, (L + 86)), (2, (L + 87))])) := by rw [hT11, List.getElem?_append_left (by have := hm10; omega)]; exact f10_82
    have f11_87 : T11[87]? = some (.inr (5, 4, [0, 0, 0, 0])) := by rw [hT11, List.getElem?_append_right (by have := hm10; omega), show 87 - T10.length = 0 by have := hm10; omega]; rfl
    have eT11 : T11 = RT_BB_init_11 L := by rw [hT11, eT10]; rfl
    rw [← hT11]
    refine a_putF (pc := 139) (i := L) (r := (L + 88)) fp_BB_81 (Or.inr ⟨_, rfl⟩) rfl rfl (pb_g hL) rfl d_BB_init_139 ?_
    rw [pb_s hL]
    show Ax g m_BB_init 150 65368 _ (P ++ (.inl (11, [(2, (L + 1)), (2, (L + 3)), (2, (L + 9)), (2, (L + 17)), (2, (L + 52)), (2, (L + 56)), (2, (L + 69)), (2, (L + 78)), (2, (L + 82)), (2, (L + 83)), (2, (L + 88)), (3, 0), (3, 0), (0, 0), (0, 0)])) :: T11) s10 88 64176 142 [(0, .ref (gB g + L))] []
    refine a_aload_n (pc := 142) 0 rfl rfl d_BB_init_142 ?_
    refine a_bipush (pc := 143) (8 : Int32) (by decide) d_BB_init_143 ?_
    refine a_newq (pc := 145) (kd := 5) (N := 8) (Or.inr ⟨rfl, rfl⟩) tw445 (by decide) (by decide) (by decide) (Nat.le_of_ble_eq_true rfl) (Nat.le_of_ble_eq_true rfl) d_BB_init_145 ?_
    rw [(pb_n hL hm11), pb_push]
    show Ax g m_BB_init 150 65368 _ (P ++ (.inl (11, [(2, (L + 1)), (2, (L + 3)), (2, (L + 9)), (2, (L + 17)), (2, (L + 52)), (2, (L + 56)), (2, (L + 69)), (2, (L + 78)), (2, (L + 82)), (2, (L + 83)), (2, (L + 88)), (3, 0), (3, 0), (0, 0), (0, 0)])) :: (T11 ++ [.inr (5, 8, [0, 0, 0, 0, 0, 0, 0, 0])])) s10 89 64184 148 [(0, .ref (gB g + L))] [.ref (gB g + (L + 89)), .ref (gB g + L)]
    obtain ⟨T12, hT12⟩ : ∃ y : List Sh, y = T11 ++ [.inr (5, 8, [0, 0, 0, 0, 0, 0, 0, 0])] := ⟨_, rfl⟩
    have hm12 : T12.length + 1 = 90 := by rw [hT12, List.length_append]; have := hm11; simp only [List.length_cons, List.length_nil]; omega
    have f12_82 : T12[82]? = some (.inl (8, [(0, 0), (0, 0), (0, 0), (0, 0), (0, 0), (0, 0), (0, 0), (0, 0), (0, 0), (0, 0), (0, 0), (2, (L + 84)), (2, (L + 85)), (2, (L + 86)), (2, (L + 87))])) := by rw [hT12, List.getElem?_append_left (by have := hm11; omega)]; exact f11_82
    have f12_87 : T12[87]? = some (.inr (5, 4, [0, 0, 0, 0])) := by rw [hT12, List.getElem?_append_left (by have := hm11; omega)]; exact f11_87
    have f12_88 : T12[88]? = some (.inr (5, 8, [0, 0, 0, 0, 0, 0, 0, 0])) := by rw [hT12, List.getElem?_append_right (by have := hm11; omega), show 88 - T11.length = 0 by have := hm11; omega]; rfl
    have eT12 : T12 = RT_BB_init_12 L := by rw [hT12, eT11]; rfl
    rw [← hT12]
    refine a_putF (pc := 148) (i := L) (r := (L + 89)) fp_BB_85 (Or.inr ⟨_, rfl⟩) rfl rfl (pb_g hL) rfl d_BB_init_148 ?_
    rw [pb_s hL]
    show Ax g m_BB_init 150 65368 _ (P ++ (.inl (11, [(2, (L + 1)), (2, (L + 3)), (2, (L + 9)), (2, (L + 17)), (2, (L + 52)), (2, (L + 56)), (2, (L + 69)), (2, (L + 78)), (2, (L + 82)), (2, (L + 83)), (2, (L + 88)), (2, (L + 89)), (3, 0), (0, 0), (0, 0)])) :: T12) s10 89 64184 151 [(0, .ref (gB g + L))] []
    refine a_aload_n (pc := 151) 0 rfl rfl d_BB_init_151 ?_
    refine a_bipush (pc := 152) (8 : Int32) (by decide) d_BB_init_152 ?_
    refine a_newi (pc := 154) (atype := .int) (kd := 0) (N := 8) rfl (Or.inl ⟨rfl, rfl⟩) tw54 (by rw [(pb_n hL hm12)]; exact hz10 _ (by omega)) (by decide) (by decide) (by decide) (Nat.le_of_ble_eq_true rfl) (Nat.le_of_ble_eq_true rfl) d_BB_init_154 ?_
    rw [(pb_n hL hm12), pb_push]
    show Ax g m_BB_init 150 65368 _ (P ++ (.inl (11, [(2, (L + 1)), (2, (L + 3)), (2, (L + 9)), (2, (L + 17)), (2, (L + 52)), (2, (L + 56)), (2, (L + 69)), (2, (L + 78)), (2, (L + 82)), (2, (L + 83)), (2, (L + 88)), (2, (L + 89)), (3, 0), (0, 0), (0, 0)])) :: (T12 ++ [.inr (0, 8, [])])) s10 90 64192 156 [(0, .ref (gB g + L))] [.ref (gB g + (L + 90)), .ref (gB g + L)]
    obtain ⟨T13, hT13⟩ : ∃ y : List Sh, y = T12 ++ [.inr (0, 8, [])] := ⟨_, rfl⟩
    have hm13 : T13.length + 1 = 91 := by rw [hT13, List.length_append]; have := hm12; simp only [List.length_cons, List.length_nil]; omega
    have f13_82 : T13[82]? = some (.inl (8, [(0, 0), (0, 0), (0, 0), (0, 0), (0, 0), (0, 0), (0, 0), (0, 0), (0, 0), (0, 0), (0, 0), (2, (L + 84)), (2, (L + 85)), (2, (L + 86)), (2, (L + 87))])) := by rw [hT13, List.getElem?_append_left (by have := hm12; omega)]; exact f12_82
    have f13_87 : T13[87]? = some (.inr (5, 4, [0, 0, 0, 0])) := by rw [hT13, List.getElem?_append_left (by have := hm12; omega)]; exact f12_87
    have f13_88 : T13[88]? = some (.inr (5, 8, [0, 0, 0, 0, 0, 0, 0, 0])) := by rw [hT13, List.getElem?_append_left (by have := hm12; omega)]; exact f12_88
    have eT13 : T13 = RT_BB_init_13 L := by rw [hT13, eT12]; rfl
    rw [← hT13]
    refine a_putF (pc := 156) (i := L) (r := (L + 90)) fp_BB_88 (Or.inr ⟨_, rfl⟩) rfl rfl (pb_g hL) rfl d_BB_init_156 ?_
    rw [pb_s hL]
    show Ax g m_BB_init 150 65368 _ (P ++ (.inl (11, [(2, (L + 1)), (2, (L + 3)), (2, (L + 9)), (2, (L + 17)), (2, (L + 52)), (2, (L + 56)), (2, (L + 69)), (2, (L + 78)), (2, (L + 82)), (2, (L + 83)), (2, (L + 88)), (2, (L + 89)), (2, (L + 90)), (0, 0), (0, 0)])) :: T13) s10 90 64192 159 [(0, .ref (gB g + L))] []
    refine a_iconst (pc := 159) (0 : Int32) (by decide) d_BB_init_159 ?_
    refine a_istore_n (pc := 160) (lv' := [(1, .int (0 : Int32)), (0, .ref (gB g + L))]) rfl (Nat.le_of_ble_eq_true rfl) rfl d_BB_init_160 ?_
    refine a_iload_n (pc := 161) 0 rfl rfl d_BB_init_161 ?_
    refine a_iconst (pc := 162) (4 : Int32) (by decide) d_BB_init_162 ?_
    refine a_icmp_ge (pc := 163) 185 (by decide) d_BB_init_163 ⟨fun c0 => absurd c0 (by decide), fun _ => ?_⟩
    refine a_aload_n (pc := 166) 1 rfl rfl d_BB_init_166 ?_
    refine a_getR (pc := 167) (i := L) (r := (L + 88)) fg_BB_81 (pb_g hL) rfl d_BB_init_167 ?_
    refine a_iload_n (pc := 170) 0 rfl rfl d_BB_init_170 ?_
    refine a_newo (pc := 171) (ci := 8) (N := 15) tyX8 rfl uw8 tyX8_ok (by decide) tw445 tw62 tw4 (by rw [(pb_n hL hm13)]; exact hz10 _ (by omega)) (Nat.le_of_ble_eq_true rfl) (Nat.le_of_ble_eq_true rfl) d_BB_init_171 ?_
    rw [(pb_n hL hm13), pb_push]
    show Ax g m_BB_init 150 65368 _ (P ++ (.inl (11, [(2, (L + 1)), (2, (L + 3)), (2, (L + 9)), (2, (L + 17)), (2, (L + 52)), (2, (L + 56)), (2, (L + 69)), (2, (L + 78)), (2, (L + 82)), (2, (L + 83)), (2, (L + 88)), (2, (L + 89)), (2, (L + 90)), (0, 0), (0, 0)])) :: (T13 ++ [.inl (8, [(0, 0), (0, 0), (0, 0), (0, 0), (0, 0), (0, 0), (0, 0), (0, 0), (0, 0), (0, 0), (0, 0), (3, 0), (3, 0), (3, 0), (3, 0)])])) s10 91 64207 174 [(1, .int (0 : Int32)), (0, .ref (gB g + L))] [.ref (gB g + (L + 91)), .int (0 : Int32), .ref (gB g + (L + 88))]
    refine a_dup (pc := 174) rfl d_BB_init_174 ?_
    refine a_callI (a := 0) (pc := 175) (M' := m_SA_init) (i := gB g + (L + 91)) (As := []) (st := [.ref (gB g + (L + 91)), .int (0 : Int32), .ref (gB g + (L + 88))]) (mc' := 4) (ms' := 83) tw446 tw64 tw4 tw65 rfl rfl (by decide +kernel) rfl (by decide) (by decide) rfl (Nat.le_of_ble_eq_true rfl) (Nat.le_of_ble_eq_true rfl) (Nat.le_of_ble_eq_true rfl) d_BB_init_175 (by have q := cc_SA_init (g := g) (P := P ++ (.inl (11, [(2, (L + 1)), (2, (L + 3)), (2, (L + 9)), (2, (L + 17)), (2, (L + 52)), (2, (L + 56)), (2, (L + 69)), (2, (L + 78)), (2, (L + 82)), (2, (L + 83)), (2, (L + 88)), (2, (L + 89)), (2, (L + 90)), (0, 0), (0, 0)])) :: T13) (L := L + 91) (σ := s10) (pb_n hL hm13) (fun i hi => hz10 i (by omega)); rw [pb_push] at q; exact q) ?_
    rintro _ _ s' ⟨rfl, rfl, hs⟩ -
    rw [hs, pb_push]
    show Ax g m_BB_init 150 65368 _ (P ++ (.inl (11, [(2, (L + 1)), (2, (L + 3)), (2, (L + 9)), (2, (L + 17)), (2, (L + 52)), (2, (L + 56)), (2, (L + 69)), (2, (L + 78)), (2, (L + 82)), (2, (L + 83)), (2, (L + 88)), (2, (L + 89)), (2, (L + 90)), (0, 0), (0, 0)])) :: (T13 ++ [.inl (8, [(0, 0), (0, 0), (0, 0), (0, 0), (0, 0), (0, 0), (0, 0), (0, 0), (0, 0), (0, 0), (0, 0), (2, (L + 92)), (2, (L + 93)), (2, (L + 94)), (2, (L + 95))]), .inr (0, 64, []), .inr (0, 3, []), .inr (0, 8, []), .inr (0, 8, [])])) (F_SA_init s10 (L + 91)) 95 64290 178 [(1, .int (0 : Int32)), (0, .ref (gB g + L))] [.ref (gB g + (L + 91)), .int (0 : Int32), .ref (gB g + (L + 88))]
    obtain ⟨T14, hT14⟩ : ∃ y : List Sh, y = T13 ++ [.inl (8, [(0, 0), (0, 0), (0, 0), (0, 0), (0, 0), (0, 0), (0, 0), (0, 0), (0, 0), (0, 0), (0, 0), (2, (L + 92)), (2, (L + 93)), (2, (L + 94)), (2, (L + 95))]), .inr (0, 64, []), .inr (0, 3, []), .inr (0, 8, []), .inr (0, 8, [])] := ⟨_, rfl⟩
    have hm14 : T14.length + 1 = 96 := by rw [hT14, List.length_append]; have := hm13; simp only [List.length_cons, List.length_nil]; omega
    have f14_82 : T14[82]? = some (.inl (8, [(0, 0), (0, 0), (0, 0), (0, 0), (0, 0), (0, 0), (0, 0), (0, 0), (0, 0), (0, 0), (0, 0), (2, (L + 84)), (2, (L + 85)), (2, (L + 86)), (2, (L + 87))])) := by rw [hT14, List.getElem?_append_left (by have := hm13; omega)]; exact f13_82
    have f14_87 : T14[87]? = some (.inr (5, 4, [0, 0, 0, 0])) := by rw [hT14, List.getElem?_append_left (by have := hm13; omega)]; exact f13_87
    have f14_88 : T14[88]? = some (.inr (5, 8, [0, 0, 0, 0, 0, 0, 0, 0])) := by rw [hT14, List.getElem?_append_left (by have := hm13; omega)]; exact f13_88
    have f14_90 : T14[90]? = some (.inl (8, [(0, 0), (0, 0), (0, 0), (0, 0), (0, 0), (0, 0), (0, 0), (0, 0), (0, 0), (0, 0), (0, 0), (2, (L + 92)), (2, (L + 93)), (2, (L + 94)), (2, (L + 95))])) := by rw [hT14, List.getElem?_append_right (by have := hm13; omega), show 90 - T13.length = 0 by have := hm13; omega]; rfl
    have eT14 : T14 = RT_BB_init_14 L := by rw [hT14, eT13]; rfl
    rw [← hT14]
    refine a_nms (fun s11 hs11 => ?_)
    have hz11 : ∀ i, L + 96 ≤ i → zro s11 i := fun i hi => by rw [hs11]; exact zf_SA_init (by omega) (hz10 i (by omega))
    show Ax g m_BB_init 150 65368 _ (P ++ (.inl (11, [(2, (L + 1)), (2, (L + 3)), (2, (L + 9)), (2, (L + 17)), (2, (L + 52)), (2, (L + 56)), (2, (L + 69)), (2, (L + 78)), (2, (L + 82)), (2, (L + 83)), (2, (L + 88)), (2, (L + 89)), (2, (L + 90)), (0, 0), (0, 0)])) :: T14) s11 95 64290 178 [(1, .int (0 : Int32)), (0, .ref (gB g + L))] [.ref (gB g + (L + 91)), .int (0 : Int32), .ref (gB g + (L + 88))]
    refine a_astq (pc := 178) (i := L + 88) (r := L + 91) (q := vwCl[8]) (pb_t hL f14_87) (pb_t hL f14_90) rfl (Or.inr ⟨rfl, rfl⟩) (vp_in_nI (n := 0) (N := 4) (by decide) (by decide)) (Nat.le_of_ble_eq_true rfl) d_BB_init_178 ?_
    rw [pb_st hL]
    show Ax g m_BB_init 150 65368 _ (P ++ (.inl (11, [(2, (L + 1)), (2, (L + 3)), (2, (L + 9)), (2, (L + 17)), (2, (L + 52)), (2, (L + 56)), (2, (L + 69)), (2, (L + 78)), (2, (L + 82)), (2, (L + 83)), (2, (L + 88)), (2, (L + 89)), (2, (L + 90)), (0, 0), (0, 0)])) :: (T14.set 87 (.inr (5, 4, [(L + 91) + 1, 0, 0, 0])))) s11 95 64290 179 [(1, .int (0 : Int32)), (0, .ref (gB g + L))] []
    obtain ⟨T15, hT15⟩ : ∃ y : List Sh, y = T14.set 87 (.inr (5, 4, [(L + 91) + 1, 0, 0, 0])) := ⟨_, rfl⟩
    have hm15 : T15.length + 1 = 96 := by rw [hT15, List.length_set]; exact hm14
    have f15_82 : T15[82]? = some (.inl (8, [(0, 0), (0, 0), (0, 0), (0, 0), (0, 0), (0, 0), (0, 0), (0, 0), (0, 0), (0, 0), (0, 0), (2, (L + 84)), (2, (L + 85)), (2, (L + 86)), (2, (L + 87))])) := by rw [hT15, List.getElem?_set_ne (by decide)]; exact f14_82
    have f15_87 : T15[87]? = some (.inr (5, 4, [(L + 91) + 1, 0, 0, 0])) := by rw [hT15]; exact List.getElem?_set_self (by have := hm14; omega)
    have f15_88 : T15[88]? = some (.inr (5, 8, [0, 0, 0, 0, 0, 0, 0, 0])) := by rw [hT15, List.getElem?_set_ne (by decide)]; exact f14_88
    have eT15 : T15 = RT_BB_init_15 L := by rw [hT15, eT14]; rfl
    rw [← hT15]
    refine a_iinc (pc := 179) (v := (1 : Int32)) (lv' := [(1, .int (1 : Int32)), (0, .ref (gB g + L))]) 0 rfl (by decide) (Nat.le_of_ble_eq_true rfl) rfl d_BB_init_179 ?_
    refine a_goto (pc := 182) 161 (by decide) d_BB_init_182 ?_
    refine a_iload_n (pc := 161) 0 rfl rfl d_BB_init_161 ?_
    refine a_iconst (pc := 162) (4 : Int32) (by decide) d_BB_init_162 ?_
    refine a_icmp_ge (pc := 163) 185 (by decide) d_BB_init_163 ⟨fun c0 => absurd c0 (by decide), fun _ => ?_⟩
    refine a_aload_n (pc := 166) 1 rfl rfl d_BB_init_166 ?_
    refine a_getR (pc := 167) (i := L) (r := (L + 88)) fg_BB_81 (pb_g hL) rfl d_BB_init_167 ?_
    refine a_iload_n (pc := 170) 0 rfl rfl d_BB_init_170 ?_
    refine a_newo (pc := 171) (ci := 8) (N := 15) tyX8 rfl uw8 tyX8_ok (by decide) tw445 tw62 tw4 (by rw [(pb_n hL hm15)]; exact hz11 _ (by omega)) (Nat.le_of_ble_eq_true rfl) (Nat.le_of_ble_eq_true rfl) d_BB_init_171 ?_
    rw [(pb_n hL hm15), pb_push]
    show Ax g m_BB_init 150 65368 _ (P ++ (.inl (11, [(2, (L + 1)), (2, (L + 3)), (2, (L + 9)), (2, (L + 17)), (2, (L + 52)), (2, (L + 56)), (2, (L + 69)), (2, (L + 78)), (2, (L + 82)), (2, (L + 83)), (2, (L + 88)), (2, (L + 89)), (2, (L + 90)), (0, 0), (0, 0)])) :: (T15 ++ [.inl (8, [(0, 0), (0, 0), (0, 0), (0, 0), (0, 0), (0, 0), (0, 0), (0, 0), (0, 0), (0, 0), (0, 0), (3, 0), (3, 0), (3, 0), (3, 0)])])) s11 96 64305 174 [(1, .int (1 : Int32)), (0, .ref (gB g + L))] [.ref (gB g + (L + 96)), .int (1 : Int32), .ref (gB g + (L + 88))]
    refine a_dup (pc := 174) rfl d_BB_init_174 ?_
    refine a_callI (a := 0) (pc := 175) (M' := m_SA_init) (i := gB g + (L + 96)) (As := []) (st := [.ref (gB g + (L + 96)), .int (1 : Int32), .ref (gB g + (L + 88))]) (mc' := 4) (ms' := 83) tw446 tw64 tw4 tw65 rfl rfl (by decide +kernel) rfl (by decide) (by decide) rfl (Nat.le_of_ble_eq_true rfl) (Nat.le_of_ble_eq_true rfl) (Nat.le_of_ble_eq_true rfl) d_BB_init_175 (by have q := cc_SA_init (g := g) (P := P ++ (.inl (11, [(2, (L + 1)), (2, (L + 3)), (2, (L + 9)), (2, (L + 17)), (2, (L + 52)), (2, (L + 56)), (2, (L + 69)), (2, (L + 78)), (2, (L + 82)), (2, (L + 83)), (2, (L + 88)), (2, (L + 89)), (2, (L + 90)), (0, 0), (0, 0)])) :: T15) (L := L + 96) (σ := s11) (pb_n hL hm15) (fun i hi => hz11 i (by omega)); rw [pb_push] at q; exact q) ?_
    rintro _ _ s' ⟨rfl, rfl, hs⟩ -
    rw [hs, pb_push]
    show Ax g m_BB_init 150 65368 _ (P ++ (.inl (11, [(2, (L + 1)), (2, (L + 3)), (2, (L + 9)), (2, (L + 17)), (2, (L + 52)), (2, (L + 56)), (2, (L + 69)), (2, (L + 78)), (2, (L + 82)), (2, (L + 83)), (2, (L + 88)), (2, (L + 89)), (2, (L + 90)), (0, 0), (0, 0)])) :: (T15 ++ [.inl (8, [(0, 0), (0, 0), (0, 0), (0, 0), (0, 0), (0, 0), (0, 0), (0, 0), (0, 0), (0, 0), (0, 0), (2, (L + 97)), (2, (L + 98)), (2, (L + 99)), (2, (L + 100))]), .inr (0, 64, []), .inr (0, 3, []), .inr (0, 8, []), .inr (0, 8, [])])) (F_SA_init s11 (L + 96)) 100 64388 178 [(1, .int (1 : Int32)), (0, .ref (gB g + L))] [.ref (gB g + (L + 96)), .int (1 : Int32), .ref (gB g + (L + 88))]
    obtain ⟨T16, hT16⟩ : ∃ y : List Sh, y = T15 ++ [.inl (8, [(0, 0), (0, 0), (0, 0), (0, 0), (0, 0), (0, 0), (0, 0), (0, 0), (0, 0), (0, 0), (0, 0), (2, (L + 97)), (2, (L + 98)), (2, (L + 99)), (2, (L + 100))]), .inr (0, 64, []), .inr (0, 3, []), .inr (0, 8, []), .inr (0, 8, [])] := ⟨_, rfl⟩
    have hm16 : T16.length + 1 = 101 := by rw [hT16, List.length_append]; have := hm15; simp only [List.length_cons, List.length_nil]; omega
    have f16_82 : T16[82]? = some (.inl (8, [(0, 0), (0, 0), (0, 0), (0, 0), (0, 0), (0, 0), (0, 0), (0, 0), (0, 0), (0, 0), (0, 0), (2, (L + 84)), (2, (L + 85)), (2, (L + 86)), (2, (L + 87))])) := by rw [hT16, List.getElem?_append_left (by have := hm15; omega)]; exact f15_82
    have f16_87 : T16[87]? = some (.inr (5, 4, [(L + 91) + 1, 0, 0, 0])) := by rw [hT16, List.getElem?_append_left (by have := hm15; omega)]; exact f15_87
    have f16_88 : T16[88]? = some (.inr (5, 8, [0, 0, 0, 0, 0, 0, 0, 0])) := by rw [hT16, List.getElem?_append_left (by have := hm15; omega)]; exact f15_88
    have f16_95 : T16[95]? = some (.inl (8, [(0, 0), (0, 0), (0, 0), (0, 0), (0, 0), (0, 0), (0, 0), (0, 0), (0, 0), (0, 0), (0, 0), (2, (L + 97)), (2, (L + 98)), (2, (L + 99)), (2, (L + 100))])) := by rw [hT16, List.getElem?_append_right (by have := hm15; omega), show 95 - T15.length = 0 by have := hm15; omega]; rfl
    have eT16 : T16 = RT_BB_init_16 L := by rw [hT16, eT15]; rfl
    rw [← hT16]
    refine a_nms (fun s12 hs12 => ?_)
    have hz12 : ∀ i, L + 101 ≤ i → zro s12 i := fun i hi => by rw [hs12]; exact zf_SA_init (by omega) (hz11 i (by omega))
    show Ax g m_BB_init 150 65368 _ (P ++ (.inl (11, [(2, (L + 1)), (2, (L + 3)), (2, (L + 9)), (2, (L + 17)), (2, (L + 52)), (2, (L + 56)), (2, (L + 69)), (2, (L + 78)), (2, (L + 82)), (2, (L + 83)), (2, (L + 88)), (2, (L + 89)), (2, (L + 90)), (0, 0), (0, 0)])) :: T16) s12 100 64388 178 [(1, .int (1 : Int32)), (0, .ref (gB g + L))] [.ref (gB g + (L + 96)), .int (1 : Int32), .ref (gB g + (L + 88))]
    refine a_astq (pc := 178) (i := L + 88) (r := L + 96) (q := vwCl[8]) (pb_t hL f16_87) (pb_t hL f16_95) rfl (Or.inr ⟨rfl, rfl⟩) (vp_in_nI (n := 1) (N := 4) (by decide) (by decide)) (Nat.le_of_ble_eq_true rfl) d_BB_init_178 ?_
    rw [pb_st hL]
    show Ax g m_BB_init 150 65368 _ (P ++ (.inl (11, [(2, (L + 1)), (2, (L + 3)), (2, (L + 9)), (2, (L + 17)), (2, (L + 52)), (2, (L + 56)), (2, (L + 69)), (2, (L + 78)), (2, (L + 82)), (2, (L + 83)), (2, (L + 88)), (2, (L + 89)), (2, (L + 90)), (0, 0), (0, 0)])) :: (T16.set 87 (.inr (5, 4, [(L + 91) + 1, (L + 96) + 1, 0, 0])))) s12 100 64388 179 [(1, .int (1 : Int32)), (0, .ref (gB g + L))] []
    obtain ⟨T17, hT17⟩ : ∃ y : List Sh, y = T16.set 87 (.inr (5, 4, [(L + 91) + 1, (L + 96) + 1, 0, 0])) := ⟨_, rfl⟩
    have hm17 : T17.length + 1 = 101 := by rw [hT17, List.length_set]; exact hm16
    have f17_82 : T17[82]? = some (.inl (8, [(0, 0), (0, 0), (0, 0), (0, 0), (0, 0), (0, 0), (0, 0), (0, 0), (0, 0), (0, 0), (0, 0), (2, (L + 84)), (2, (L + 85)), (2, (L + 86)), (2, (L + 87))])) := by rw [hT17, List.getElem?_set_ne (by decide)]; exact f16_82
    have f17_87 : T17[87]? = some (.inr (5, 4, [(L + 91) + 1, (L + 96) + 1, 0, 0])) := by rw [hT17]; exact List.getElem?_set_self (by have := hm16; omega)
    have f17_88 : T17[88]? = some (.inr (5, 8, [0, 0, 0, 0, 0, 0, 0, 0])) := by rw [hT17, List.getElem?_set_ne (by decide)]; exact f16_88
    have eT17 : T17 = RT_BB_init_17 L := by rw [hT17, eT16]; rfl
    rw [← hT17]
    refine a_iinc (pc := 179) (v := (2 : Int32)) (lv' := [(1, .int (2 : Int32)), (0, .ref (gB g + L))]) 0 rfl (by decide) (Nat.le_of_ble_eq_true rfl) rfl d_BB_init_179 ?_
    refine a_goto (pc := 182) 161 (by decide) d_BB_init_182 ?_
    refine a_iload_n (pc := 161) 0 rfl rfl d_BB_init_161 ?_
    refine a_iconst (pc := 162) (4 : Int32) (by decide) d_BB_init_162 ?_
    refine a_icmp_ge (pc := 163) 185 (by decide) d_BB_init_163 ⟨fun c0 => absurd c0 (by decide), fun _ => ?_⟩
    refine a_aload_n (pc := 166) 1 rfl rfl d_BB_init_166 ?_
    refine a_getR (pc := 167) (i := L) (r := (L + 88)) fg_BB_81 (pb_g hL) rfl d_BB_init_167 ?_
    refine a_iload_n (pc := 170) 0 rfl rfl d_BB_init_170 ?_
    refine a_newo (pc := 171) (ci := 8) (N := 15) tyX8 rfl uw8 tyX8_ok (by decide) tw445 tw62 tw4 (by rw [(pb_n hL hm17)]; exact hz12 _ (by omega)) (Nat.le_of_ble_eq_true rfl) (Nat.le_of_ble_eq_true rfl) d_BB_init_171 ?_
    rw [(pb_n hL hm17), pb_push]
    show Ax g m_BB_init 150 65368 _ (P ++ (.inl (11, [(2, (L + 1)), (2, (L + 3)), (2, (L + 9)), (2, (L + 17)), (2, (L + 52)), (2, (L + 56)), (2, (L + 69)), (2, (L + 78)), (2, (L + 82)), (2, (L + 83)), (2, (L + 88)), (2, (L + 89)), (2, (L + 90)), (0, 0), (0, 0)])) :: (T17 ++ [.inl (8, [(0, 0), (0, 0), (0, 0), (0, 0), (0, 0), (0, 0), (0, 0), (0, 0), (0, 0), (0, 0), (0, 0), (3, 0), (3, 0), (3, 0), (3, 0)])])) s12 101 64403 174 [(1, .int (2 : Int32)), (0, .ref (gB g + L))] [.ref (gB g + (L + 101)), .int (2 : Int32), .ref (gB g + (L + 88))]
    refine a_dup (pc := 174) rfl d_BB_init_174 ?_
    refine a_callI (a := 0) (pc := 175) (M' := m_SA_init) (i := gB g + (L + 101)) (As := []) (st := [.ref (gB g + (L + 101)), .int (2 : Int32), .ref (gB g + (L + 88))]) (mc' := 4) (ms' := 83) tw446 tw64 tw4 tw65 rfl rfl (by decide +kernel) rfl (by decide) (by decide) rfl (Nat.le_of_ble_eq_true rfl) (Nat.le_of_ble_eq_true rfl) (Nat.le_of_ble_eq_true rfl) d_BB_init_175 (by have q := cc_SA_init (g := g) (P := P ++ (.inl (11, [(2, (L + 1)), (2, (L + 3)), (2, (L + 9)), (2, (L + 17)), (2, (L + 52)), (2, (L + 56)), (2, (L + 69)), (2, (L + 78)), (2, (L + 82)), (2, (L + 83)), (2, (L + 88)), (2, (L + 89)), (2, (L + 90)), (0, 0), (0, 0)])) :: T17) (L := L + 101) (σ := s12) (pb_n hL hm17) (fun i hi => hz12 i (by omega)); rw [pb_push] at q; exact q) ?_
    rintro _ _ s' ⟨rfl, rfl, hs⟩ -
    rw [hs, pb_push]
    show Ax g m_BB_init 150 65368 _ (P ++ (.inl (11, [(2, (L + 1)), (2, (L + 3)), (2, (L + 9)), (2, (L + 17)), (2, (L + 52)), (2, (L + 56)), (2, (L + 69)), (2, (L + 78)), (2, (L + 82)), (2, (L + 83)), (2, (L + 88)), (2, (L + 89)), (2, (L + 90)), (0, 0), (0, 0)])) :: (T17 ++ [.inl (8, [(0, 0), (0, 0), (0, 0), (0, 0), (0, 0), (0, 0), (0, 0), (0, 0), (0, 0), (0, 0), (0, 0), (2, (L + 102)), (2, (L + 103)), (2, (L + 104)), (2, (L + 105))]), .inr (0, 64, []), .inr (0, 3, []), .inr (0, 8, []), .inr (0, 8, [])])) (F_SA_init s12 (L + 101)) 105 64486 178 [(1, .int (2 : Int32)), (0, .ref (gB g + L))] [.ref (gB g + (L + 101)), .int (2 : Int32), .ref (gB g + (L + 88))]
    obtain ⟨T18, hT18⟩ : ∃ y : List Sh, y = T17 ++ [.inl (8, [(0, 0), (0, 0), (0, 0), (0, 0), (0, 0), (0, 0), (0, 0), (0, 0), (0, 0), (0, 0), (0, 0), (2, (L + 102)), (2, (L + 103)), (2, (L + 104)), (2, (L + 105))]), .inr (0, 64, []), .inr (0, 3, []), .inr (0, 8, []), .inr (0, 8, [])] := ⟨_, rfl⟩
    have hm18 : T18.length + 1 = 106 := by rw [hT18, List.length_append]; have := hm17; simp only [List.length_cons, List.length_nil]; omega
    have f18_82 : T18[82]? = some (.inl (8, [(0, 0), (0, 0), (0, 0), (0, 0), (0, 0), (0, 0), (0, 0), (0, 0), (0, 0), (0, 0), (0, 0), (2, (L + 84)), (2, (L + 85)), (2, (L + 86)), (2, (L + 87))])) := by rw [hT18, List.getElem?_append_left (by have := hm17; omega)]; exact f17_82
    have f18_87 : T18[87]? = some (.inr (5, 4, [(L + 91) + 1, (L + 96) + 1, 0, 0])) := by rw [hT18, List.getElem?_append_left (by have := hm17; omega)]; exact f17_87
    have f18_88 : T18[88]? = some (.inr (5, 8, [0, 0, 0, 0, 0, 0, 0, 0])) := by rw [hT18, List.getElem?_append_left (by have := hm17; omega)]; exact f17_88
    have f18_100 : T18[100]? = some (.inl (8, [(0, 0), (0, 0), (0, 0), (0, 0), (0, 0), (0, 0), (0, 0), (0, 0), (0, 0), (0, 0), (0, 0), (2, (L + 102)), (2, (L + 103)), (2, (L + 104)), (2, (L + 105))])) := by rw [hT18, List.getElem?_append_right (by have := hm17; omega), show 100 - T17.length = 0 by have := hm17; omega]; rfl
    have eT18 : T18 = RT_BB_init_18 L := by rw [hT18, eT17]; rfl
    rw [← hT18]
    refine a_nms (fun s13 hs13 => ?_)
    have hz13 : ∀ i, L + 106 ≤ i → zro s13 i := fun i hi => by rw [hs13]; exact zf_SA_init (by omega) (hz12 i (by omega))
    show Ax g m_BB_init 150 65368 _ (P ++ (.inl (11, [(2, (L + 1)), (2, (L + 3)), (2, (L + 9)), (2, (L + 17)), (2, (L + 52)), (2, (L + 56)), (2, (L + 69)), (2, (L + 78)), (2, (L + 82)), (2, (L + 83)), (2, (L + 88)), (2, (L + 89)), (2, (L + 90)), (0, 0), (0, 0)])) :: T18) s13 105 64486 178 [(1, .int (2 : Int32)), (0, .ref (gB g + L))] [.ref (gB g + (L + 101)), .int (2 : Int32), .ref (gB g + (L + 88))]
    refine a_astq (pc := 178) (i := L + 88) (r := L + 101) (q := vwCl[8]) (pb_t hL f18_87) (pb_t hL f18_100) rfl (Or.inr ⟨rfl, rfl⟩) (vp_in_nI (n := 2) (N := 4) (by decide) (by decide)) (Nat.le_of_ble_eq_true rfl) d_BB_init_178 ?_
    rw [pb_st hL]
    show Ax g m_BB_init 150 65368 _ (P ++ (.inl (11, [(2, (L + 1)), (2, (L + 3)), (2, (L + 9)), (2, (L + 17)), (2, (L + 52)), (2, (L + 56)), (2, (L + 69)), (2, (L + 78)), (2, (L + 82)), (2, (L + 83)), (2, (L + 88)), (2, (L + 89)), (2, (L + 90)), (0, 0), (0, 0)])) :: (T18.set 87 (.inr (5, 4, [(L + 91) + 1, (L + 96) + 1, (L + 101) + 1, 0])))) s13 105 64486 179 [(1, .int (2 : Int32)), (0, .ref (gB g + L))] []
    obtain ⟨T19, hT19⟩ : ∃ y : List Sh, y = T18.set 87 (.inr (5, 4, [(L + 91) + 1, (L + 96) + 1, (L + 101) + 1, 0])) := ⟨_, rfl⟩
    have hm19 : T19.length + 1 = 106 := by rw [hT19, List.length_set]; exact hm18
    have f19_82 : T19[82]? = some (.inl (8, [(0, 0), (0, 0), (0, 0), (0, 0), (0, 0), (0, 0), (0, 0), (0, 0), (0, 0), (0, 0), (0, 0), (2, (L + 84)), (2, (L + 85)), (2, (L + 86)), (2, (L + 87))])) := by rw [hT19, List.getElem?_set_ne (by decide)]; exact f18_82
    have f19_87 : T19[87]? = some (.inr (5, 4, [(L + 91) + 1, (L + 96) + 1, (L + 101) + 1, 0])) := by rw [hT19]; exact List.getElem?_set_self (by have := hm18; omega)
    have f19_88 : T19[88]? = some (.inr (5, 8, [0, 0, 0, 0, 0, 0, 0, 0])) := by rw [hT19, List.getElem?_set_ne (by decide)]; exact f18_88
    have eT19 : T19 = RT_BB_init_19 L := by rw [hT19, eT18]; rfl
    rw [← hT19]
    refine a_iinc (pc := 179) (v := (3 : Int32)) (lv' := [(1, .int (3 : Int32)), (0, .ref (gB g + L))]) 0 rfl (by decide) (Nat.le_of_ble_eq_true rfl) rfl d_BB_init_179 ?_
    refine a_goto (pc := 182) 161 (by decide) d_BB_init_182 ?_
    refine a_iload_n (pc := 161) 0 rfl rfl d_BB_init_161 ?_
    refine a_iconst (pc := 162) (4 : Int32) (by decide) d_BB_init_162 ?_
    refine a_icmp_ge (pc := 163) 185 (by decide) d_BB_init_163 ⟨fun c0 => absurd c0 (by decide), fun _ => ?_⟩
    refine a_aload_n (pc := 166) 1 rfl rfl d_BB_init_166 ?_
    refine a_getR (pc := 167) (i := L) (r := (L + 88)) fg_BB_81 (pb_g hL) rfl d_BB_init_167 ?_
    refine a_iload_n (pc := 170) 0 rfl rfl d_BB_init_170 ?_
    refine a_newo (pc := 171) (ci := 8) (N := 15) tyX8 rfl uw8 tyX8_ok (by decide) tw445 tw62 tw4 (by rw [(pb_n hL hm19)]; exact hz13 _ (by omega)) (Nat.le_of_ble_eq_true rfl) (Nat.le_of_ble_eq_true rfl) d_BB_init_171 ?_
    rw [(pb_n hL hm19), pb_push]
    show Ax g m_BB_init 150 65368 _ (P ++ (.inl (11, [(2, (L + 1)), (2, (L + 3)), (2, (L + 9)), (2, (L + 17)), (2, (L + 52)), (2, (L + 56)), (2, (L + 69)), (2, (L + 78)), (2, (L + 82)), (2, (L + 83)), (2, (L + 88)), (2, (L + 89)), (2, (L + 90)), (0, 0), (0, 0)])) :: (T19 ++ [.inl (8, [(0, 0), (0, 0), (0, 0), (0, 0), (0, 0), (0, 0), (0, 0), (0, 0), (0, 0), (0, 0), (0, 0), (3, 0), (3, 0), (3, 0), (3, 0)])])) s13 106 64501 174 [(1, .int (3 : Int32)), (0, .ref (gB g + L))] [.ref (gB g + (L + 106)), .int (3 : Int32), .ref (gB g + (L + 88))]
    refine a_dup (pc := 174) rfl d_BB_init_174 ?_
    refine a_callI (a := 0) (pc := 175) (M' := m_SA_init) (i := gB g + (L + 106)) (As := []) (st := [.ref (gB g + (L + 106)), .int (3 : Int32), .ref (gB g + (L + 88))]) (mc' := 4) (ms' := 83) tw446 tw64 tw4 tw65 rfl rfl (by decide +kernel) rfl (by decide) (by decide) rfl (Nat.le_of_ble_eq_true rfl) (Nat.le_of_ble_eq_true rfl) (Nat.le_of_ble_eq_true rfl) d_BB_init_175 (by have q := cc_SA_init (g := g) (P := P ++ (.inl (11, [(2, (L + 1)), (2, (L + 3)), (2, (L + 9)), (2, (L + 17)), (2, (L + 52)), (2, (L + 56)), (2, (L + 69)), (2, (L + 78)), (2, (L + 82)), (2, (L + 83)), (2, (L + 88)), (2, (L + 89)), (2, (L + 90)), (0, 0), (0, 0)])) :: T19) (L := L + 106) (σ := s13) (pb_n hL hm19) (fun i hi => hz13 i (by omega)); rw [pb_push] at q; exact q) ?_
    rintro _ _ s' ⟨rfl, rfl, hs⟩ -
    rw [hs, pb_push]
    show Ax g m_BB_init 150 65368 _ (P ++ (.inl (11, [(2, (L + 1)), (2, (L + 3)), (2, (L + 9)), (2, (L + 17)), (2, (L + 52)), (2, (L + 56)), (2, (L + 69)), (2, (L + 78)), (2, (L + 82)), (2, (L + 83)), (2, (L + 88)), (2, (L + 89)), (2, (L + 90)), (0, 0), (0, 0)])) :: (T19 ++ [.inl (8, [(0, 0), (0, 0), (0, 0), (0, 0), (0, 0), (0, 0), (0, 0), (0, 0), (0, 0), (0, 0), (0, 0), (2, (L + 107)), (2, (L + 108)), (2, (L + 109)), (2, (L + 110))]), .inr (0, 64, []), .inr (0, 3, []), .inr (0, 8, []), .inr (0, 8, [])])) (F_SA_init s13 (L + 106)) 110 64584 178 [(1, .int (3 : Int32)), (0, .ref (gB g + L))] [.ref (gB g + (L + 106)), .int (3 : Int32), .ref (gB g + (L + 88))]
    obtain ⟨T20, hT20⟩ : ∃ y : List Sh, y = T19 ++ [.inl (8, [(0, 0), (0, 0), (0, 0), (0, 0), (0, 0), (0, 0), (0, 0), (0, 0), (0, 0), (0, 0), (0, 0), (2, (L + 107)), (2, (L + 108)), (2, (L + 109)), (2, (L + 110))]), .inr (0, 64, []), .inr (0, 3, []), .inr (0, 8, []), .inr (0, 8, [])] := ⟨_, rfl⟩
    have hm20 : T20.length + 1 = 111 := by rw [hT20, List.length_append]; have := hm19; simp only [List.length_cons, List.length_nil]; omega
    have f20_82 : T20[82]? = some (.inl (8, [(0, 0), (0, 0), (0, 0), (0, 0), (0, 0), (0, 0), (0, 0), (0, 0), (0, 0), (0, 0), (0, 0), (2, (L + 84)), (2, (L + 85)), (2, (L + 86)), (2, (L + 87))])) := by rw [hT20, List.getElem?_append_left (by have := hm19; omega)]; exact f19_82
    have f20_87 : T20[87]? = some (.inr (5, 4, [(L + 91) + 1, (L + 96) + 1, (L + 101) + 1, 0])) := by rw [hT20, List.getElem?_append_left (by have := hm19; omega)]; exact f19_87
    have f20_88 : T20[88]? = some (.inr (5, 8, [0, 0, 0, 0, 0, 0, 0, 0])) := by rw [hT20, List.getElem?_append_left (by have := hm19; omega)]; exact f19_88
    have f20_105 : T20[105]? = some (.inl (8, [(0, 0), (0, 0), (0, 0), (0, 0), (0, 0), (0, 0), (0, 0), (0, 0), (0, 0), (0, 0), (0, 0), (2, (L + 107)), (2, (L + 108)), (2, (L + 109)), (2, (L + 110))])) := by rw [hT20, List.getElem?_append_right (by have := hm19; omega), show 105 - T19.length = 0 by have := hm19; omega]; rfl
    have eT20 : T20 = RT_BB_init_20 L := by rw [hT20, eT19]; rfl
    rw [← hT20]
    refine a_nms (fun s14 hs14 => ?_)
    have hz14 : ∀ i, L + 111 ≤ i → zro s14 i := fun i hi => by rw [hs14]; exact zf_SA_init (by omega) (hz13 i (by omega))
    show Ax g m_BB_init 150 65368 _ (P ++ (.inl (11, [(2, (L + 1)), (2, (L + 3)), (2, (L + 9)), (2, (L + 17)), (2, (L + 52)), (2, (L + 56)), (2, (L + 69)), (2, (L + 78)), (2, (L + 82)), (2, (L + 83)), (2, (L + 88)), (2, (L + 89)), (2, (L + 90)), (0, 0), (0, 0)])) :: T20) s14 110 64584 178 [(1, .int (3 : Int32)), (0, .ref (gB g + L))] [.ref (gB g + (L + 106)), .int (3 : Int32), .ref (gB g + (L + 88))]
    refine a_astq (pc := 178) (i := L + 88) (r := L + 106) (q := vwCl[8]) (pb_t hL f20_87) (pb_t hL f20_105) rfl (Or.inr ⟨rfl, rfl⟩) (vp_in_nI (n := 3) (N := 4) (by decide) (by decide)) (Nat.le_of_ble_eq_true rfl) d_BB_init_178 ?_
    rw [pb_st hL]
    show Ax g m_BB_init 150 65368 _ (P ++ (.inl (11, [(2, (L + 1)), (2, (L + 3)), (2, (L + 9)), (2, (L + 17)), (2, (L + 52)), (2, (L + 56)), (2, (L + 69)), (2, (L + 78)), (2, (L + 82)), (2, (L + 83)), (2, (L + 88)), (2, (L + 89)), (2, (L + 90)), (0, 0), (0, 0)])) :: (T20.set 87 (.inr (5, 4, [(L + 91) + 1, (L + 96) + 1, (L + 101) + 1, (L + 106) + 1])))) s14 110 64584 179 [(1, .int (3 : Int32)), (0, .ref (gB g + L))] []
    obtain ⟨T21, hT21⟩ : ∃ y : List Sh, y = T20.set 87 (.inr (5, 4, [(L + 91) + 1, (L + 96) + 1, (L + 101) + 1, (L + 106) + 1])) := ⟨_, rfl⟩
    have hm21 : T21.length + 1 = 111 := by rw [hT21, List.length_set]; exact hm20
    have f21_82 : T21[82]? = some (.inl (8, [(0, 0), (0, 0), (0, 0), (0, 0), (0, 0), (0, 0), (0, 0), (0, 0), (0, 0), (0, 0), (0, 0), (2, (L + 84)), (2, (L + 85)), (2, (L + 86)), (2, (L + 87))])) := by rw [hT21, List.getElem?_set_ne (by decide)]; exact f20_82
    have f21_87 : T21[87]? = some (.inr (5, 4, [(L + 91) + 1, (L + 96) + 1, (L + 101) + 1, (L + 106) + 1])) := by rw [hT21]; exact List.getElem?_set_self (by have := hm20; omega)
    have f21_88 : T21[88]? = some (.inr (5, 8, [0, 0, 0, 0, 0, 0, 0, 0])) := by rw [hT21, List.getElem?_set_ne (by decide)]; exact f20_88
    have eT21 : T21 = RT_BB_init_21 L := by rw [hT21, eT20]; rfl
    rw [← hT21]
    refine a_iinc (pc := 179) (v := (4 : Int32)) (lv' := [(1, .int (4 : Int32)), (0, .ref (gB g + L))]) 0 rfl (by decide) (Nat.le_of_ble_eq_true rfl) rfl d_BB_init_179 ?_
    refine a_goto (pc := 182) 161 (by decide) d_BB_init_182 ?_
    refine a_iload_n (pc := 161) 0 rfl rfl d_BB_init_161 ?_
    refine a_iconst (pc := 162) (4 : Int32) (by decide) d_BB_init_162 ?_
    refine a_icmp_ge (pc := 163) 185 (by decide) d_BB_init_163 ⟨fun _ => ?_, fun c0 => absurd c0 (by decide)⟩
    refine a_iconst (pc := 185) (0 : Int32) (by decide) d_BB_init_185 ?_
    refine a_istore_n (pc := 186) (lv' := [(1, .int (0 : Int32)), (0, .ref (gB g + L))]) rfl (Nat.le_of_ble_eq_true rfl) rfl d_BB_init_186 ?_
    refine a_iload_n (pc := 187) 0 rfl rfl d_BB_init_187 ?_
    refine a_bipush (pc := 188) (8 : Int32) (by decide) d_BB_init_188 ?_
    refine a_icmp_ge (pc := 190) 212 (by decide) d_BB_init_190 ⟨fun c0 => absurd c0 (by decide), fun _ => ?_⟩
    refine a_aload_n (pc := 193) 1 rfl rfl d_BB_init_193 ?_
    refine a_getR (pc := 194) (i := L) (r := (L + 89)) fg_BB_85 (pb_g hL) rfl d_BB_init_194 ?_
    refine a_iload_n (pc := 197) 0 rfl rfl d_BB_init_197 ?_
    refine a_newo (pc := 198) (ci := 8) (N := 15) tyX8 rfl uw8 tyX8_ok (by decide) tw445 tw62 tw4 (by rw [(pb_n hL hm21)]; exact hz14 _ (by omega)) (Nat.le_of_ble_eq_true rfl) (Nat.le_of_ble_eq_true rfl) d_BB_init_198 ?_
    rw [(pb_n hL hm21), pb_push]
    show Ax g m_BB_init 150 65368 _ (P ++ (.inl (11, [(2, (L + 1)), (2, (L + 3)), (2, (L + 9)), (2, (L + 17)), (2, (L + 52)), (2, (L + 56)), (2, (L + 69)), (2, (L + 78)), (2, (L + 82)), (2, (L + 83)), (2, (L + 88)), (2, (L + 89)), (2, (L + 90)), (0, 0), (0, 0)])) :: (T21 ++ [.inl (8, [(0, 0), (0, 0), (0, 0), (0, 0), (0, 0), (0, 0), (0, 0), (0, 0), (0, 0), (0, 0), (0, 0), (3, 0), (3, 0), (3, 0), (3, 0)])])) s14 111 64599 201 [(1, .int (0 : Int32)), (0, .ref (gB g + L))] [.ref (gB g + (L + 111)), .int (0 : Int32), .ref (gB g + (L + 89))]
    refine a_dup (pc := 201) rfl d_BB_init_201 ?_
    refine a_callI (a := 0) (pc := 202) (M' := m_SA_init) (i := gB g + (L + 111)) (As := []) (st := [.ref (gB g + (L + 111)), .int (0 : Int32), .ref (gB g + (L + 89))]) (mc' := 4) (ms' := 83) tw446 tw64 tw4 tw65 rfl rfl (by decide +kernel) rfl (by decide) (by decide) rfl (Nat.le_of_ble_eq_true rfl) (Nat.le_of_ble_eq_true rfl) (Nat.le_of_ble_eq_true rfl) d_BB_init_202 (by have q := cc_SA_init (g := g) (P := P ++ (.inl (11, [(2, (L + 1)), (2, (L + 3)), (2, (L + 9)), (2, (L + 17)), (2, (L + 52)), (2, (L + 56)), (2, (L + 69)), (2, (L + 78)), (2, (L + 82)), (2, (L + 83)), (2, (L + 88)), (2, (L + 89)), (2, (L + 90)), (0, 0), (0, 0)])) :: T21) (L := L + 111) (σ := s14) (pb_n hL hm21) (fun i hi => hz14 i (by omega)); rw [pb_push] at q; exact q) ?_
    rintro _ _ s' ⟨rfl, rfl, hs⟩ -
    rw [hs, pb_push]
    show Ax g m_BB_init 150 65368 _ (P ++ (.inl (11, [(2, (L + 1)), (2, (L + 3)), (2, (L + 9)), (2, (L + 17)), (2, (L + 52)), (2, (L + 56)), (2, (L + 69)), (2, (L + 78)), (2, (L + 82)), (2, (L + 83)), (2, (L + 88)), (2, (L + 89)), (2, (L + 90)), (0, 0), (0, 0)])) :: (T21 ++ [.inl (8, [(0, 0), (0, 0), (0, 0), (0, 0), (0, 0), (0, 0), (0, 0), (0, 0), (0, 0), (0, 0), (0, 0), (2, (L + 112)), (2, (L + 113)), (2, (L + 114)), (2, (L + 115))]), .inr (0, 64, []), .inr (0, 3, []), .inr (0, 8, []), .inr (0, 8, [])])) (F_SA_init s14 (L + 111)) 115 64682 205 [(1, .int (0 : Int32)), (0, .ref (gB g + L))] [.ref (gB g + (L + 111)), .int (0 : Int32), .ref (gB g + (L + 89))]
    obtain ⟨T22, hT22⟩ : ∃ y : List Sh, y = T21 ++ [.inl (8, [(0, 0), (0, 0), (0, 0), (0, 0), (0, 0), (0, 0), (0, 0), (0, 0), (0, 0), (0, 0), (0, 0), (2, (L + 112)), (2, (L + 113)), (2, (L + 114)), (2, (L + 115))]), .inr (0, 64, []), .inr (0, 3, []), .inr (0, 8, []), .inr (0, 8, [])] := ⟨_, rfl⟩
    have hm22 : T22.length + 1 = 116 := by rw [hT22, List.length_append]; have := hm21; simp only [List.length_cons, List.length_nil]; omega
    have f22_82 : T22[82]? = some (.inl (8, [(0, 0), (0, 0), (0, 0), (0, 0), (0, 0), (0, 0), (0, 0), (0, 0), (0, 0), (0, 0), (0, 0), (2, (L + 84)), (2, (L + 85)), (2, (L + 86)), (2, (L + 87))])) := by rw [hT22, List.getElem?_append_left (by have := hm21; omega)]; exact f21_82
    have f22_87 : T22[87]? = some (.inr (5, 4, [(L + 91) + 1, (L + 96) + 1, (L + 101) + 1, (L + 106) + 1])) := by rw [hT22, List.getElem?_append_left (by have := hm21; omega)]; exact f21_87
    have f22_88 : T22[88]? = some (.inr (5, 8, [0, 0, 0, 0, 0, 0, 0, 0])) := by rw [hT22, List.getElem?_append_left (by have := hm21; omega)]; exact f21_88
    have f22_110 : T22[110]? = some (.inl (8, [(0, 0), (0, 0), (0, 0), (0, 0), (0, 0), (0, 0), (0, 0), (0, 0), (0, 0), (0, 0), (0, 0), (2, (L + 112)), (2, (L + 113)), (2, (L + 114)), (2, (L + 115))])) := by rw [hT22, List.getElem?_append_right (by have := hm21; omega), show 110 - T21.length = 0 by have := hm21; omega]; rfl
    have eT22 : T22 = RT_BB_init_22 L := by rw [hT22, eT21]; rfl
    rw [← hT22]
    refine a_nms (fun s15 hs15 => ?_)
    have hz15 : ∀ i, L + 116 ≤ i → zro s15 i := fun i hi => by rw [hs15]; exact zf_SA_init (by omega) (hz14 i (by omega))
    show Ax g m_BB_init 150 65368 _ (P ++ (.inl (11, [(2, (L + 1)), (2, (L + 3)), (2, (L + 9)), (2, (L + 17)), (2, (L + 52)), (2, (L + 56)), (2, (L + 69)), (2, (L + 78)), (2, (L + 82)), (2, (L + 83)), (2, (L + 88)), (2, (L + 89)), (2, (L + 90)), (0, 0), (0, 0)])) :: T22) s15 115 64682 205 [(1, .int (0 : Int32)), (0, .ref (gB g + L))] [.ref (gB g + (L + 111)), .int (0 : Int32), .ref (gB g + (L + 89))]
    refine a_astq (pc := 205) (i := L + 89) (r := L + 111) (q := vwCl[8]) (pb_t hL f22_88) (pb_t hL f22_110) rfl (Or.inr ⟨rfl, rfl⟩) (vp_in_nI (n := 0) (N := 8) (by decide) (by decide)) (Nat.le_of_ble_eq_true rfl) d_BB_init_205 ?_
    rw [pb_st hL]
    show Ax g m_BB_init 150 65368 _ (P ++ (.inl (11, [(2, (L + 1)), (2, (L + 3)), (2, (L + 9)), (2, (L + 17)), (2, (L + 52)), (2, (L + 56)), (2, (L + 69)), (2, (L + 78)), (2, (L + 82)), (2, (L + 83)), (2, (L + 88)), (2, (L + 89)), (2, (L + 90)), (0, 0), (0, 0)])) :: (T22.set 88 (.inr (5, 8, [(L + 111) + 1, 0, 0, 0, 0, 0, 0, 0])))) s15 115 64682 206 [(1, .int (0 : Int32)), (0, .ref (gB g + L))] []
    obtain ⟨T23, hT23⟩ : ∃ y : List Sh, y = T22.set 88 (.inr (5, 8, [(L + 111) + 1, 0, 0, 0, 0, 0, 0, 0])) := ⟨_, rfl⟩
    have hm23 : T23.length + 1 = 116 := by rw [hT23, List.length_set]; exact hm22
    have f23_82 : T23[82]? = some (.inl (8, [(0, 0), (0, 0), (0, 0), (0, 0), (0, 0), (0, 0), (0, 0), (0, 0), (0, 0), (0, 0), (0, 0), (2, (L + 84)), (2, (L + 85)), (2, (L + 86)), (2, (L + 87))])) := by rw [hT23, List.getElem?_set_ne (by decide)]; exact f22_82
    have f23_87 : T23[87]? = some (.inr (5, 4, [(L + 91) + 1, (L + 96) + 1, (L + 101) + 1, (L + 106) + 1])) := by rw [hT23, List.getElem?_set_ne (by decide)]; exact f22_87
    have f23_88 : T23[88]? = some (.inr (5, 8, [(L + 111) + 1, 0, 0, 0, 0, 0, 0, 0])) := by rw [hT23]; exact List.getElem?_set_self (by have := hm22; omega)
    have eT23 : T23 = RT_BB_init_23 L := by rw [hT23, eT22]; rfl
    rw [← hT23]
    refine a_iinc (pc := 206) (v := (1 : Int32)) (lv' := [(1, .int (1 : Int32)), (0, .ref (gB g + L))]) 0 rfl (by decide) (Nat.le_of_ble_eq_true rfl) rfl d_BB_init_206 ?_
    refine a_goto (pc := 209) 187 (by decide) d_BB_init_209 ?_
    refine a_iload_n (pc := 187) 0 rfl rfl d_BB_init_187 ?_
    refine a_bipush (pc := 188) (8 : Int32) (by decide) d_BB_init_188 ?_
    refine a_icmp_ge (pc := 190) 212 (by decide) d_BB_init_190 ⟨fun c0 => absurd c0 (by decide), fun _ => ?_⟩
    refine a_aload_n (pc := 193) 1 rfl rfl d_BB_init_193 ?_
    refine a_getR (pc := 194) (i := L) (r := (L + 89)) fg_BB_85 (pb_g hL) rfl d_BB_init_194 ?_
    refine a_iload_n (pc := 197) 0 rfl rfl d_BB_init_197 ?_
    refine a_newo (pc := 198) (ci := 8) (N := 15) tyX8 rfl uw8 tyX8_ok (by decide) tw445 tw62 tw4 (by rw [(pb_n hL hm23)]; exact hz15 _ (by omega)) (Nat.le_of_ble_eq_true rfl) (Nat.le_of_ble_eq_true rfl) d_BB_init_198 ?_
    rw [(pb_n hL hm23), pb_push]
    show Ax g m_BB_init 150 65368 _ (P ++ (.inl (11, [(2, (L + 1)), (2, (L + 3)), (2, (L + 9)), (2, (L + 17)), (2, (L + 52)), (2, (L + 56)), (2, (L + 69)), (2, (L + 78)), (2, (L + 82)), (2, (L + 83)), (2, (L + 88)), (2, (L + 89)), (2, (L + 90)), (0, 0), (0, 0)])) :: (T23 ++ [.inl (8, [(0, 0), (0, 0), (0, 0), (0, 0), (0, 0), (0, 0), (0, 0), (0, 0), (0, 0), (0, 0), (0, 0), (3, 0), (3, 0), (3, 0), (3, 0)])])) s15 116 64697 201 [(1, .int (1 : Int32)), (0, .ref (gB g + L))] [.ref (gB g + (L + 116)), .int (1 : Int32), .ref (gB g + (L + 89))]
    refine a_dup (pc := 201) rfl d_BB_init_201 ?_
    refine a_callI (a := 0) (pc := 202) (M' := m_SA_init) (i := gB g + (L + 116)) (As := []) (st := [.ref (gB g + (L + 116)), .int (1 : Int32), .ref (gB g + (L + 89))]) (mc' := 4) (ms' := 83) tw446 tw64 tw4 tw65 rfl rfl (by decide +kernel) rfl (by decide) (by decide) rfl (Nat.le_of_ble_eq_true rfl) (Nat.le_of_ble_eq_true rfl) (Nat.le_of_ble_eq_true rfl) d_BB_init_202 (by have q := cc_SA_init (g := g) (P := P ++ (.inl (11, [(2, (L + 1)), (2, (L + 3)), (2, (L + 9)), (2, (L + 17)), (2, (L + 52)), (2, (L + 56)), (2, (L + 69)), (2, (L + 78)), (2, (L + 82)), (2, (L + 83)), (2, (L + 88)), (2, (L + 89)), (2, (L + 90)), (0, 0), (0, 0)])) :: T23) (L := L + 116) (σ := s15) (pb_n hL hm23) (fun i hi => hz15 i (by omega)); rw [pb_push] at q; exact q) ?_
    rintro _ _ s' ⟨rfl, rfl, hs⟩ -
    rw [hs, pb_push]
    show Ax g m_BB_init 150 65368 _ (P ++ (.inl (11, [(2, (L + 1)), (2, (L + 3)), (2, (L + 9)), (2, (L + 17)), (2, (L + 52)), (2, (L + 56)), (2, (L + 69)), (2, (L + 78)), (2, (L + 82)), (2, (L + 83)), (2, (L + 88)), (2, (L + 89)), (2, (L + 90)), (0, 0), (0, 0)])) :: (T23 ++ [.inl (8, [(0, 0), (0, 0), (0, 0), (0, 0), (0, 0), (0, 0), (0, 0), (0, 0), (0, 0), (0, 0), (0, 0), (2, (L + 117)), (2, (L + 118)), (2, (L + 119)), (2, (L + 120))]), .inr (0, 64, []), .inr (0, 3, []), .inr (0, 8, []), .inr (0, 8, [])])) (F_SA_init s15 (L + 116)) 120 64780 205 [(1, .int (1 : Int32)), (0, .ref (gB g + L))] [.ref (gB g + (L + 116)), .int (1 : Int32), .ref (gB g + (L + 89))]
    obtain ⟨T24, hT24⟩ : ∃ y : List Sh, y = T23 ++ [.inl (8, [(0, 0), (0, 0), (0, 0), (0, 0), (0, 0), (0, 0), (0, 0), (0, 0), (0, 0), (0, 0), (0, 0), (2, (L + 117)), (2, (L + 118)), (2, (L + 119)), (2, (L + 120))]), .inr (0, 64, []), .inr (0, 3, []), .inr (0, 8, []), .inr (0, 8, [])] := ⟨_, rfl⟩
    have hm24 : T24.length + 1 = 121 := by rw [hT24, List.length_append]; have := hm23; simp only [List.length_cons, List.length_nil]; omega
    have f24_82 : T24[82]? = some (.inl (8, [(0, 0), (0, 0), (0, 0), (0, 0), (0, 0), (0, 0), (0, 0), (0, 0), (0, 0), (0, 0), (0, 0), (2, (L + 84)), (2, (L + 85)), (2, (L + 86)), (2, (L + 87))])) := by rw [hT24, List.getElem?_append_left (by have := hm23; omega)]; exact f23_82
    have f24_87 : T24[87]? = some (.inr (5, 4, [(L + 91) + 1, (L + 96) + 1, (L + 101) + 1, (L + 106) + 1])) := by rw [hT24, List.getElem?_append_left (by have := hm23; omega)]; exact f23_87
    have f24_88 : T24[88]? = some (.inr (5, 8, [(L + 111) + 1, 0, 0, 0, 0, 0, 0, 0])) := by rw [hT24, List.getElem?_append_left (by have := hm23; omega)]; exact f23_88
    have f24_115 : T24[115]? = some (.inl (8, [(0, 0), (0, 0), (0, 0), (0, 0), (0, 0), (0, 0), (0, 0), (0, 0), (0, 0), (0, 0), (0, 0), (2, (L + 117)), (2, (L + 118)), (2, (L + 119)), (2, (L + 120))])) := by rw [hT24, List.getElem?_append_right (by have := hm23; omega), show 115 - T23.length = 0 by have := hm23; omega]; rfl
    have eT24 : T24 = RT_BB_init_24 L := by rw [hT24, eT23]; rfl
    rw [← hT24]
    refine a_nms (fun s16 hs16 => ?_)
    have hz16 : ∀ i, L + 121 ≤ i → zro s16 i := fun i hi => by rw [hs16]; exact zf_SA_init (by omega) (hz15 i (by omega))
    show Ax g m_BB_init 150 65368 _ (P ++ (.inl (11, [(2, (L + 1)), (2, (L + 3)), (2, (L + 9)), (2, (L + 17)), (2, (L + 52)), (2, (L + 56)), (2, (L + 69)), (2, (L + 78)), (2, (L + 82)), (2, (L + 83)), (2, (L + 88)), (2, (L + 89)), (2, (L + 90)), (0, 0), (0, 0)])) :: T24) s16 120 64780 205 [(1, .int (1 : Int32)), (0, .ref (gB g + L))] [.ref (gB g + (L + 116)), .int (1 : Int32), .ref (gB g + (L + 89))]
    refine a_astq (pc := 205) (i := L + 89) (r := L + 116) (q := vwCl[8]) (pb_t hL f24_88) (pb_t hL f24_115) rfl (Or.inr ⟨rfl, rfl⟩) (vp_in_nI (n := 1) (N := 8) (by decide) (by decide)) (Nat.le_of_ble_eq_true rfl) d_BB_init_205 ?_
    rw [pb_st hL]
    show Ax g m_BB_init 150 65368 _ (P ++ (.inl (11, [(2, (L + 1)), (2, (L + 3)), (2, (L + 9)), (2, (L + 17)), (2, (L + 52)), (2, (L + 56)), (2, (L + 69)), (2, (L + 78)), (2, (L + 82)), (2, (L + 83)), (2, (L + 88)), (2, (L + 89)), (2, (L + 90)), (0, 0), (0, 0)])) :: (T24.set 88 (.inr (5, 8, [(L + 111) + 1, (L + 116) + 1, 0, 0, 0, 0, 0, 0])))) s16 120 64780 206 [(1, .int (1 : Int32)), (0, .ref (gB g + L))] []
    obtain ⟨T25, hT25⟩ : ∃ y : List Sh, y = T24.set 88 (.inr (5, 8, [(L + 111) + 1, (L + 116) + 1, 0, 0, 0, 0, 0, 0])) := ⟨_, rfl⟩
    have hm25 : T25.length + 1 = 121 := by rw [hT25, List.length_set]; exact hm24
    have f25_82 : T25[82]? = some (.inl (8, [(0, 0), (0, 0), (0, 0), (0, 0), (0, 0), (0, 0), (0, 0), (0, 0), (0, 0), (0, 0), (0, 0), (2, (L + 84)), (2, (L + 85)), (2, (L + 86)), (2, (L + 87))])) := by rw [hT25, List.getElem?_set_ne (by decide)]; exact f24_82
    have f25_87 : T25[87]? = some (.inr (5, 4, [(L + 91) + 1, (L + 96) + 1, (L + 101) + 1, (L + 106) + 1])) := by rw [hT25, List.getElem?_set_ne (by decide)]; exact f24_87
    have f25_88 : T25[88]? = some (.inr (5, 8, [(L + 111) + 1, (L + 116) + 1, 0, 0, 0, 0, 0, 0])) := by rw [hT25]; exact List.getElem?_set_self (by have := hm24; omega)
    have eT25 : T25 = RT_BB_init_25 L := by rw [hT25, eT24]; rfl
    rw [← hT25]
    refine a_iinc (pc := 206) (v := (2 : Int32)) (lv' := [(1, .int (2 : Int32)), (0, .ref (gB g + L))]) 0 rfl (by decide) (Nat.le_of_ble_eq_true rfl) rfl d_BB_init_206 ?_
    refine a_goto (pc := 209) 187 (by decide) d_BB_init_209 ?_
    refine a_iload_n (pc := 187) 0 rfl rfl d_BB_init_187 ?_
    refine a_bipush (pc := 188) (8 : Int32) (by decide) d_BB_init_188 ?_
    refine a_icmp_ge (pc := 190) 212 (by decide) d_BB_init_190 ⟨fun c0 => absurd c0 (by decide), fun _ => ?_⟩
    refine a_aload_n (pc := 193) 1 rfl rfl d_BB_init_193 ?_
    refine a_getR (pc := 194) (i := L) (r := (L + 89)) fg_BB_85 (pb_g hL) rfl d_BB_init_194 ?_
    refine a_iload_n (pc := 197) 0 rfl rfl d_BB_init_197 ?_
    refine a_newo (pc := 198) (ci := 8) (N := 15) tyX8 rfl uw8 tyX8_ok (by decide) tw445 tw62 tw4 (by rw [(pb_n hL hm25)]; exact hz16 _ (by omega)) (Nat.le_of_ble_eq_true rfl) (Nat.le_of_ble_eq_true rfl) d_BB_init_198 ?_
    rw [(pb_n hL hm25), pb_push]
    show Ax g m_BB_init 150 65368 _ (P ++ (.inl (11, [(2, (L + 1)), (2, (L + 3)), (2, (L + 9)), (2, (L + 17)), (2, (L + 52)), (2, (L + 56)), (2, (L + 69)), (2, (L + 78)), (2, (L + 82)), (2, (L + 83)), (2, (L + 88)), (2, (L + 89)), (2, (L + 90)), (0, 0), (0, 0)])) :: (T25 ++ [.inl (8, [(0, 0), (0, 0), (0, 0), (0, 0), (0, 0), (0, 0), (0, 0), (0, 0), (0, 0), (0, 0), (0, 0), (3, 0), (3, 0), (3, 0), (3, 0)])])) s16 121 64795 201 [(1, .int (2 : Int32)), (0, .ref (gB g + L))] [.ref (gB g + (L + 121)), .int (2 : Int32), .ref (gB g + (L + 89))]
    refine a_dup (pc := 201) rfl d_BB_init_201 ?_
    refine a_callI (a := 0) (pc := 202) (M' := m_SA_init) (i := gB g + (L + 121)) (As := []) (st := [.ref (gB g + (L + 121)), .int (2 : Int32), .ref (gB g + (L + 89))]) (mc' := 4) (ms' := 83) tw446 tw64 tw4 tw65 rfl rfl (by decide +kernel) rfl (by decide) (by decide) rfl (Nat.le_of_ble_eq_true rfl) (Nat.le_of_ble_eq_true rfl) (Nat.le_of_ble_eq_true rfl) d_BB_init_202 (by have q := cc_SA_init (g := g) (P := P ++ (.inl (11, [(2, (L + 1)), (2, (L + 3)), (2, (L + 9)), (2, (L + 17)), (2, (L + 52)), (2, (L + 56)), (2, (L + 69)), (2, (L + 78)), (2, (L + 82)), (2, (L + 83)), (2, (L + 88)), (2, (L + 89)), (2, (L + 90)), (0, 0), (0, 0)])) :: T25) (L := L + 121) (σ := s16) (pb_n hL hm25) (fun i hi => hz16 i (by omega)); rw [pb_push] at q; exact q) ?_
    rintro _ _ s' ⟨rfl, rfl, hs⟩ -
    rw [hs, pb_push]
    show Ax g m_BB_init 150 65368 _ (P ++ (.inl (11, [(2, (L + 1)), (2, (L + 3)), (2, (L + 9)), (2, (L + 17)), (2, (L + 52)), (2, (L + 56)), (2, (L + 69)), (2, (L + 78)), (2, (L + 82)), (2, (L + 83)), (2, (L + 88)), (2, (L + 89)), (2, (L + 90)), (0, 0), (0, 0)])) :: (T25 ++ [.inl (8, [(0, 0), (0, 0), (0, 0), (0, 0), (0, 0), (0, 0), (0, 0), (0, 0), (0, 0), (0, 0), (0, 0), (2, (L + 122)), (2, (L + 123)), (2, (L + 124)), (2, (L + 125))]), .inr (0, 64, []), .inr (0, 3, []), .inr (0, 8, []), .inr (0, 8, [])])) (F_SA_init s16 (L + 121)) 125 64878 205 [(1, .int (2 : Int32)), (0, .ref (gB g + L))] [.ref (gB g + (L + 121)), .int (2 : Int32), .ref (gB g + (L + 89))]
    obtain ⟨T26, hT26⟩ : ∃ y : List Sh, y = T25 ++ [.inl (8, [(0, 0), (0, 0), (0, 0), (0, 0), (0, 0), (0, 0), (0, 0), (0, 0), (0, 0), (0, 0), (0, 0), (2, (L + 122)), (2, (L + 123)), (2, (L + 124)), (2, (L + 125))]), .inr (0, 64, []), .inr (0, 3, []), .inr (0, 8, []), .inr (0, 8, [])] := ⟨_, rfl⟩
    have hm26 : T26.length + 1 = 126 := by rw [hT26, List.length_append]; have := hm25; simp only [List.length_cons, List.length_nil]; omega
    have f26_82 : T26[82]? = some (.inl (8, [(0, 0), (0, 0), (0, 0), (0, 0), (0, 0), (0, 0), (0, 0), (0, 0), (0, 0), (0, 0), (0, 0), (2, (L + 84)), (2, (L + 85)), (2, (L + 86)), (2, (L + 87))])) := by rw [hT26, List.getElem?_append_left (by have := hm25; omega)]; exact f25_82
    have f26_87 : T26[87]? = some (.inr (5, 4, [(L + 91) + 1, (L + 96) + 1, (L + 101) + 1, (L + 106) + 1])) := by rw [hT26, List.getElem?_append_left (by have := hm25; omega)]; exact f25_87
    have f26_88 : T26[88]? = some (.inr (5, 8, [(L + 111) + 1, (L + 116) + 1, 0, 0, 0, 0, 0, 0])) := by rw [hT26, List.getElem?_append_left (by have := hm25; omega)]; exact f25_88
    have f26_120 : T26[120]? = some (.inl (8, [(0, 0), (0, 0), (0, 0), (0, 0), (0, 0), (0, 0), (0, 0), (0, 0), (0, 0), (0, 0), (0, 0), (2, (L + 122)), (2, (L + 123)), (2, (L + 124)), (2, (L + 125))])) := by rw [hT26, List.getElem?_append_right (by have := hm25; omega), show 120 - T25.length = 0 by have := hm25; omega]; rfl
    have eT26 : T26 = RT_BB_init_26 L := by rw [hT26, eT25]; rfl
    rw [← hT26]
    refine a_nms (fun s17 hs17 => ?_)
    have hz17 : ∀ i, L + 126 ≤ i → zro s17 i := fun i hi => by rw [hs17]; exact zf_SA_init (by omega) (hz16 i (by omega))
    show Ax g m_BB_init 150 65368 _ (P ++ (.inl (11, [(2, (L + 1)), (2, (L + 3)), (2, (L + 9)), (2, (L + 17)), (2, (L + 52)), (2, (L + 56)), (2, (L + 69)), (2, (L + 78)), (2, (L + 82)), (2, (L + 83)), (2, (L + 88)), (2, (L + 89)), (2, (L + 90)), (0, 0), (0, 0)])) :: T26) s17 125 64878 205 [(1, .int (2 : Int32)), (0, .ref (gB g + L))] [.ref (gB g + (L + 121)), .int (2 : Int32), .ref (gB g + (L + 89))]
    refine a_astq (pc := 205) (i := L + 89) (r := L + 121) (q := vwCl[8]) (pb_t hL f26_88) (pb_t hL f26_120) rfl (Or.inr ⟨rfl, rfl⟩) (vp_in_nI (n := 2) (N := 8) (by decide) (by decide)) (Nat.le_of_ble_eq_true rfl) d_BB_init_205 ?_
    rw [pb_st hL]
    show Ax g m_BB_init 150 65368 _ (P ++ (.inl (11, [(2, (L + 1)), (2, (L + 3)), (2, (L + 9)), (2, (L + 17)), (2, (L + 52)), (2, (L + 56)), (2, (L + 69)), (2, (L + 78)), (2, (L + 82)), (2, (L + 83)), (2, (L + 88)), (2, (L + 89)), (2, (L + 90)), (0, 0), (0, 0)])) :: (T26.set 88 (.inr (5, 8, [(L + 111) + 1, (L + 116) + 1, (L + 121) + 1, 0, 0, 0, 0, 0])))) s17 125 64878 206 [(1, .int (2 : Int32)), (0, .ref (gB g + L))] []
    obtain ⟨T27, hT27⟩ : ∃ y : List Sh, y = T26.set 88 (.inr (5, 8, [(L + 111) + 1, (L + 116) + 1, (L + 121) + 1, 0, 0, 0, 0, 0])) := ⟨_, rfl⟩
    have hm27 : T27.length + 1 = 126 := by rw [hT27, List.length_set]; exact hm26
    have f27_82 : T27[82]? = some (.inl (8, [(0, 0), (0, 0), (0, 0), (0, 0), (0, 0), (0, 0), (0, 0), (0, 0), (0, 0), (0, 0), (0, 0), (2, (L + 84)), (2, (L + 85)), (2, (L + 86)), (2, (L + 87))])) := by rw [hT27, List.getElem?_set_ne (by decide)]; exact f26_82
    have f27_87 : T27[87]? = some (.inr (5, 4, [(L + 91) + 1, (L + 96) + 1, (L + 101) + 1, (L + 106) + 1])) := by rw [hT27, List.getElem?_set_ne (by decide)]; exact f26_87
    have f27_88 : T27[88]? = some (.inr (5, 8, [(L + 111) + 1, (L + 116) + 1, (L + 121) + 1, 0, 0, 0, 0, 0])) := by rw [hT27]; exact List.getElem?_set_self (by have := hm26; omega)
    have eT27 : T27 = RT_BB_init_27 L := by rw [hT27, eT26]; rfl
    rw [← hT27]
    refine a_iinc (pc := 206) (v := (3 : Int32)) (lv' := [(1, .int (3 : Int32)), (0, .ref (gB g + L))]) 0 rfl (by decide) (Nat.le_of_ble_eq_true rfl) rfl d_BB_init_206 ?_
    refine a_goto (pc := 209) 187 (by decide) d_BB_init_209 ?_
    refine a_iload_n (pc := 187) 0 rfl rfl d_BB_init_187 ?_
    refine a_bipush (pc := 188) (8 : Int32) (by decide) d_BB_init_188 ?_
    refine a_icmp_ge (pc := 190) 212 (by decide) d_BB_init_190 ⟨fun c0 => absurd c0 (by decide), fun _ => ?_⟩
    refine a_aload_n (pc := 193) 1 rfl rfl d_BB_init_193 ?_
    refine a_getR (pc := 194) (i := L) (r := (L + 89)) fg_BB_85 (pb_g hL) rfl d_BB_init_194 ?_
    refine a_iload_n (pc := 197) 0 rfl rfl d_BB_init_197 ?_
    refine a_newo (pc := 198) (ci := 8) (N := 15) tyX8 rfl uw8 tyX8_ok (by decide) tw445 tw62 tw4 (by rw [(pb_n hL hm27)]; exact hz17 _ (by omega)) (Nat.le_of_ble_eq_true rfl) (Nat.le_of_ble_eq_true rfl) d_BB_init_198 ?_
    rw [(pb_n hL hm27), pb_push]
    show Ax g m_BB_init 150 65368 _ (P ++ (.inl (11, [(2, (L + 1)), (2, (L + 3)), (2, (L + 9)), (2, (L + 17)), (2, (L + 52)), (2, (L + 56)), (2, (L + 69)), (2, (L + 78)), (2, (L + 82)), (2, (L + 83)), (2, (L + 88)), (2, (L + 89)), (2, (L + 90)), (0, 0), (0, 0)])) :: (T27 ++ [.inl (8, [(0, 0), (0, 0), (0, 0), (0, 0), (0, 0), (0, 0), (0, 0), (0, 0), (0, 0), (0, 0), (0, 0), (3, 0), (3, 0), (3, 0), (3, 0)])])) s17 126 64893 201 [(1, .int (3 : Int32)), (0, .ref (gB g + L))] [.ref (gB g + (L + 126)), .int (3 : Int32), .ref (gB g + (L + 89))]
    refine a_dup (pc := 201) rfl d_BB_init_201 ?_
    refine a_callI (a := 0) (pc := 202) (M' := m_SA_init) (i := gB g + (L + 126)) (As := []) (st := [.ref (gB g + (L + 126)), .int (3 : Int32), .ref (gB g + (L + 89))]) (mc' := 4) (ms' := 83) tw446 tw64 tw4 tw65 rfl rfl (by decide +kernel) rfl (by decide) (by decide) rfl (Nat.le_of_ble_eq_true rfl) (Nat.le_of_ble_eq_true rfl) (Nat.le_of_ble_eq_true rfl) d_BB_init_202 (by have q := cc_SA_init (g := g) (P := P ++ (.inl (11, [(2, (L + 1)), (2, (L + 3)), (2, (L + 9)), (2, (L + 17)), (2, (L + 52)), (2, (L + 56)), (2, (L + 69)), (2, (L + 78)), (2, (L + 82)), (2, (L + 83)), (2, (L + 88)), (2, (L + 89)), (2, (L + 90)), (0, 0), (0, 0)])) :: T27) (L := L + 126) (σ := s17) (pb_n hL hm27) (fun i hi => hz17 i (by omega)); rw [pb_push] at q; exact q) ?_
    rintro _ _ s' ⟨rfl, rfl, hs⟩ -
    rw [hs, pb_push]
    show Ax g m_BB_init 150 65368 _ (P ++ (.inl (11, [(2, (L + 1)), (2, (L + 3)), (2, (L + 9)), (2, (L + 17)), (2, (L + 52)), (2, (L + 56)), (2, (L + 69)), (2, (L + 78)), (2, (L + 82)), (2, (L + 83)), (2, (L + 88)), (2, (L + 89)), (2, (L + 90)), (0, 0), (0, 0)])) :: (T27 ++ [.inl (8, [(0, 0), (0, 0), (0, 0), (0, 0), (0, 0), (0, 0), (0, 0), (0, 0), (0, 0), (0, 0), (0, 0), (2, (L + 127)), (2, (L + 128)), (2, (L + 129)), (2, (L + 130))]), .inr (0, 64, []), .inr (0, 3, []), .inr (0, 8, []), .inr (0, 8, [])])) (F_SA_init s17 (L + 126)) 130 64976 205 [(1, .int (3 : Int32)), (0, .ref (gB g + L))] [.ref (gB g + (L + 126)), .int (3 : Int32), .ref (gB g + (L + 89))]
    obtain ⟨T28, hT28⟩ : ∃ y : List Sh, y = T27 ++ [.inl (8, [(0, 0), (0, 0), (0, 0), (0, 0), (0, 0), (0, 0), (0, 0), (0, 0), (0, 0), (0, 0), (0, 0), (2, (L + 127)), (2, (L + 128)), (2, (L + 129)), (2, (L + 130))]), .inr (0, 64, []), .inr (0, 3, []), .inr (0, 8, []), .inr (0, 8, [])] := ⟨_, rfl⟩
    have hm28 : T28.length + 1 = 131 := by rw [hT28, List.length_append]; have := hm27; simp only [List.length_cons, List.length_nil]; omega
    have f28_82 : T28[82]? = some (.inl (8, [(0, 0), (0, 0), (0, 0), (0, 0), (0, 0), (0, 0), (0, 0), (0, 0), (0, 0), (0, 0), (0, 0), (2, (L + 84)), (2, (L + 85)), (2, (L + 86)), (2, (L + 87))])) := by rw [hT28, List.getElem?_append_left (by have := hm27; omega)]; exact f27_82
    have f28_87 : T28[87]? = some (.inr (5, 4, [(L + 91) + 1, (L + 96) + 1, (L + 101) + 1, (L + 106) + 1])) := by rw [hT28, List.getElem?_append_left (by have := hm27; omega)]; exact f27_87
    have f28_88 : T28[88]? = some (.inr (5, 8, [(L + 111) + 1, (L + 116) + 1, (L + 121) + 1, 0, 0, 0, 0, 0])) := by rw [hT28, List.getElem?_append_left (by have := hm27; omega)]; exact f27_88
    have f28_125 : T28[125]? = some (.inl (8, [(0, 0), (0, 0), (0, 0), (0, 0), (0, 0), (0, 0), (0, 0), (0, 0), (0, 0), (0, 0), (0, 0), (2, (L + 127)), (2, (L + 128)), (2, (L + 129)), (2, (L + 130))])) := by rw [hT28, List.getElem?_append_right (by have := hm27; omega), show 125 - T27.length = 0 by have := hm27; omega]; rfl
    have eT28 : T28 = RT_BB_init_28 L := by rw [hT28, eT27]; rfl
    rw [← hT28]
    refine a_nms (fun s18 hs18 => ?_)
    have hz18 : ∀ i, L + 131 ≤ i → zro s18 i := fun i hi => by rw [hs18]; exact zf_SA_init (by omega) (hz17 i (by omega))
    show Ax g m_BB_init 150 65368 _ (P ++ (.inl (11, [(2, (L + 1)), (2, (L + 3)), (2, (L + 9)), (2, (L + 17)), (2, (L + 52)), (2, (L + 56)), (2, (L + 69)), (2, (L + 78)), (2, (L + 82)), (2, (L + 83)), (2, (L + 88)), (2, (L + 89)), (2, (L + 90)), (0, 0), (0, 0)])) :: T28) s18 130 64976 205 [(1, .int (3 : Int32)), (0, .ref (gB g + L))] [.ref (gB g + (L + 126)), .int (3 : Int32), .ref (gB g + (L + 89))]
    refine a_astq (pc := 205) (i := L + 89) (r := L + 126) (q := vwCl[8]) (pb_t hL f28_88) (pb_t hL f28_125) rfl (Or.inr ⟨rfl, rfl⟩) (vp_in_nI (n := 3) (N := 8) (by decide) (by decide)) (Nat.le_of_ble_eq_true rfl) d_BB_init_205 ?_
    rw [pb_st hL]
    show Ax g m_BB_init 150 65368 _ (P ++ (.inl (11, [(2, (L + 1)), (2, (L + 3)), (2, (L + 9)), (2, (L + 17)), (2, (L + 52)), (2, (L + 56)), (2, (L + 69)), (2, (L + 78)), (2, (L + 82)), (2, (L + 83)), (2, (L + 88)), (2, (L + 89)), (2, (L + 90)), (0, 0), (0, 0)])) :: (T28.set 88 (.inr (5, 8, [(L + 111) + 1, (L + 116) + 1, (L + 121) + 1, (L + 126) + 1, 0, 0, 0, 0])))) s18 130 64976 206 [(1, .int (3 : Int32)), (0, .ref (gB g + L))] []
    obtain ⟨T29, hT29⟩ : ∃ y : List Sh, y = T28.set 88 (.inr (5, 8, [(L + 111) + 1, (L + 116) + 1, (L + 121) + 1, (L + 126) + 1, 0, 0, 0, 0])) := ⟨_, rfl⟩
    have hm29 : T29.length + 1 = 131 := by rw [hT29, List.length_set]; exact hm28
    have f29_82 : T29[82]? = some (.inl (8, [(0, 0), (0, 0), (0, 0), (0, 0), (0, 0), (0, 0), (0, 0), (0, 0), (0, 0), (0, 0), (0, 0), (2, (L + 84)), (2, (L + 85)), (2, (L + 86)), (2, (L + 87))])) := by rw [hT29, List.getElem?_set_ne (by decide)]; exact f28_82
    have f29_87 : T29[87]? = some (.inr (5, 4, [(L + 91) + 1, (L + 96) + 1, (L + 101) + 1, (L + 106) + 1])) := by rw [hT29, List.getElem?_set_ne (by decide)]; exact f28_87
    have f29_88 : T29[88]? = some (.inr (5, 8, [(L + 111) + 1, (L + 116) + 1, (L + 121) + 1, (L + 126) + 1, 0, 0, 0, 0])) := by rw [hT29]; exact List.getElem?_set_self (by have := hm28; omega)
    have eT29 : T29 = RT_BB_init_29 L := by rw [hT29, eT28]; rfl
    rw [← hT29]
    refine a_iinc (pc := 206) (v := (4 : Int32)) (lv' := [(1, .int (4 : Int32)), (0, .ref (gB g + L))]) 0 rfl (by decide) (Nat.le_of_ble_eq_true rfl) rfl d_BB_init_206 ?_
    refine a_goto (pc := 209) 187 (by decide) d_BB_init_209 ?_
    refine a_iload_n (pc := 187) 0 rfl rfl d_BB_init_187 ?_
    refine a_bipush (pc := 188) (8 : Int32) (by decide) d_BB_init_188 ?_
    refine a_icmp_ge (pc := 190) 212 (by decide) d_BB_init_190 ⟨fun c0 => absurd c0 (by decide), fun _ => ?_⟩
    refine a_aload_n (pc := 193) 1 rfl rfl d_BB_init_193 ?_
    refine a_getR (pc := 194) (i := L) (r := (L + 89)) fg_BB_85 (pb_g hL) rfl d_BB_init_194 ?_
    refine a_iload_n (pc := 197) 0 rfl rfl d_BB_init_197 ?_
    refine a_newo (pc := 198) (ci := 8) (N := 15) tyX8 rfl uw8 tyX8_ok (by decide) tw445 tw62 tw4 (by rw [(pb_n hL hm29)]; exact hz18 _ (by omega)) (Nat.le_of_ble_eq_true rfl) (Nat.le_of_ble_eq_true rfl) d_BB_init_198 ?_
    rw [(pb_n hL hm29), pb_push]
    show Ax g m_BB_init 150 65368 _ (P ++ (.inl (11, [(2, (L + 1)), (2, (L + 3)), (2, (L + 9)), (2, (L + 17)), (2, (L + 52)), (2, (L + 56)), (2, (L + 69)), (2, (L + 78)), (2, (L + 82)), (2, (L + 83)), (2, (L + 88)), (2, (L + 89)), (2, (L + 90)), (0, 0), (0, 0)])) :: (T29 ++ [.inl (8, [(0, 0), (0, 0), (0, 0), (0, 0), (0, 0), (0, 0), (0, 0), (0, 0), (0, 0), (0, 0), (0, 0), (3, 0), (3, 0), (3, 0), (3, 0)])])) s18 131 64991 201 [(1, .int (4 : Int32)), (0, .ref (gB g + L))] [.ref (gB g + (L + 131)), .int (4 : Int32), .ref (gB g + (L + 89))]
    refine a_dup (pc := 201) rfl d_BB_init_201 ?_
    refine a_callI (a := 0) (pc := 202) (M' := m_SA_init) (i := gB g + (L + 131)) (As := []) (st := [.ref (gB g + (L + 131)), .int (4 : Int32), .ref (gB g + (L + 89))]) (mc' := 4) (ms' := 83) tw446 tw64 tw4 tw65 rfl rfl (by decide +kernel) rfl (by decide) (by decide) rfl (Nat.le_of_ble_eq_true rfl) (Nat.le_of_ble_eq_true rfl) (Nat.le_of_ble_eq_true rfl) d_BB_init_202 (by have q := cc_SA_init (g := g) (P := P ++ (.inl (11, [(2, (L + 1)), (2, (L + 3)), (2, (L + 9)), (2, (L + 17)), (2, (L + 52)), (2, (L + 56)), (2, (L + 69)), (2, (L + 78)), (2, (L + 82)), (2, (L + 83)), (2, (L + 88)), (2, (L + 89)), (2, (L + 90)), (0, 0), (0, 0)])) :: T29) (L := L + 131) (σ := s18) (pb_n hL hm29) (fun i hi => hz18 i (by omega)); rw [pb_push] at q; exact q) ?_
    rintro _ _ s' ⟨rfl, rfl, hs⟩ -
    rw [hs, pb_push]
    show Ax g m_BB_init 150 65368 _ (P ++ (.inl (11, [(2, (L + 1)), (2, (L + 3)), (2, (L + 9)), (2, (L + 17)), (2, (L + 52)), (2, (L + 56)), (2, (L + 69)), (2, (L + 78)), (2, (L + 82)), (2, (L + 83)), (2, (L + 88)), (2, (L + 89)), (2, (L + 90)), (0, 0), (0, 0)])) :: (T29 ++ [.inl (8, [(0, 0), (0, 0), (0, 0), (0, 0), (0, 0), (0, 0), (0, 0), (0, 0), (0, 0), (0, 0), (0, 0), (2, (L + 132)), (2, (L + 133)), (2, (L + 134)), (2, (L + 135))]), .inr (0, 64, []), .inr (0, 3, []), .inr (0, 8, []), .inr (0, 8, [])])) (F_SA_init s18 (L + 131)) 135 65074 205 [(1, .int (4 : Int32)), (0, .ref (gB g + L))] [.ref (gB g + (L + 131)), .int (4 : Int32), .ref (gB g + (L + 89))]
    obtain ⟨T30, hT30⟩ : ∃ y : List Sh, y = T29 ++ [.inl (8, [(0, 0), (0, 0), (0, 0), (0, 0), (0, 0), (0, 0), (0, 0), (0, 0), (0, 0), (0, 0), (0, 0), (2, (L + 132)), (2, (L + 133)), (2, (L + 134)), (2, (L + 135))]), .inr (0, 64, []), .inr (0, 3, []), .inr (0, 8, []), .inr (0, 8, [])] := ⟨_, rfl⟩
    have hm30 : T30.length + 1 = 136 := by rw [hT30, List.length_append]; have := hm29; simp only [List.length_cons, List.length_nil]; omega
    have f30_82 : T30[82]? = some (.inl (8, [(0, 0), (0, 0), (0, 0), (0, 0), (0, 0), (0, 0), (0, 0), (0, 0), (0, 0), (0, 0), (0, 0), (2, (L + 84)), (2, (L + 85)), (2, (L + 86)), (2, (L + 87))])) := by rw [hT30, List.getElem?_append_left (by have := hm29; omega)]; exact f29_82
    have f30_87 : T30[87]? = some (.inr (5, 4, [(L + 91) + 1, (L + 96) + 1, (L + 101) + 1, (L + 106) + 1])) := by rw [hT30, List.getElem?_append_left (by have := hm29; omega)]; exact f29_87
    have f30_88 : T30[88]? = some (.inr (5, 8, [(L + 111) + 1, (L + 116) + 1, (L + 121) + 1, (L + 126) + 1, 0, 0, 0, 0])) := by rw [hT30, List.getElem?_append_left (by have := hm29; omega)]; exact f29_88
    have f30_130 : T30[130]? = some (.inl (8, [(0, 0), (0, 0), (0, 0), (0, 0), (0, 0), (0, 0), (0, 0), (0, 0), (0, 0), (0, 0), (0, 0), (2, (L + 132)), (2, (L + 133)), (2, (L + 134)), (2, (L + 135))])) := by rw [hT30, List.getElem?_append_right (by have := hm29; omega), show 130 - T29.length = 0 by have := hm29; omega]; rfl
    have eT30 : T30 = RT_BB_init_30 L := by rw [hT30, eT29]; rfl
    rw [← hT30]
    refine a_nms (fun s19 hs19 => ?_)
    have hz19 : ∀ i, L + 136 ≤ i → zro s19 i := fun i hi => by rw [hs19]; exact zf_SA_init (by omega) (hz18 i (by omega))
    show Ax g m_BB_init 150 65368 _ (P ++ (.inl (11, [(2, (L + 1)), (2, (L + 3)), (2, (L + 9)), (2, (L + 17)), (2, (L + 52)), (2, (L + 56)), (2, (L + 69)), (2, (L + 78)), (2, (L + 82)), (2, (L + 83)), (2, (L + 88)), (2, (L + 89)), (2, (L + 90)), (0, 0), (0, 0)])) :: T30) s19 135 65074 205 [(1, .int (4 : Int32)), (0, .ref (gB g + L))] [.ref (gB g + (L + 131)), .int (4 : Int32), .ref (gB g + (L + 89))]
    refine a_astq (pc := 205) (i := L + 89) (r := L + 131) (q := vwCl[8]) (pb_t hL f30_88) (pb_t hL f30_130) rfl (Or.inr ⟨rfl, rfl⟩) (vp_in_nI (n := 4) (N := 8) (by decide) (by decide)) (Nat.le_of_ble_eq_true rfl) d_BB_init_205 ?_
    rw [pb_st hL]
    show Ax g m_BB_init 150 65368 _ (P ++ (.inl (11, [(2, (L + 1)), (2, (L + 3)), (2, (L + 9)), (2, (L + 17)), (2, (L + 52)), (2, (L + 56)), (2, (L + 69)), (2, (L + 78)), (2, (L + 82)), (2, (L + 83)), (2, (L + 88)), (2, (L + 89)), (2, (L + 90)), (0, 0), (0, 0)])) :: (T30.set 88 (.inr (5, 8, [(L + 111) + 1, (L + 116) + 1, (L + 121) + 1, (L + 126) + 1, (L + 131) + 1, 0, 0, 0])))) s19 135 65074 206 [(1, .int (4 : Int32)), (0, .ref (gB g + L))] []
    obtain ⟨T31, hT31⟩ : ∃ y : List Sh, y = T30.set 88 (.inr (5, 8, [(L + 111) + 1, (L + 116) + 1, (L + 121) + 1, (L + 126) + 1, (L + 131) + 1, 0, 0, 0])) := ⟨_, rfl⟩
    have hm31 : T31.length + 1 = 136 := by rw [hT31, List.length_set]; exact hm30
    have f31_82 : T31[82]? = some (.inl (8, [(0, 0), (0, 0), (0, 0), (0, 0), (0, 0), (0, 0), (0, 0), (0, 0), (0, 0), (0, 0), (0, 0), (2, (L + 84)), (2, (L + 85)), (2, (L + 86)), (2, (L + 87))])) := by rw [hT31, List.getElem?_set_ne (by decide)]; exact f30_82
    have f31_87 : T31[87]? = some (.inr (5, 4, [(L + 91) + 1, (L + 96) + 1, (L + 101) + 1, (L + 106) + 1])) := by rw [hT31, List.getElem?_set_ne (by decide)]; exact f30_87
    have f31_88 : T31[88]? = some (.inr (5, 8, [(L + 111) + 1, (L + 116) + 1, (L + 121) + 1, (L + 126) + 1, (L + 131) + 1, 0, 0, 0])) := by rw [hT31]; exact List.getElem?_set_self (by have := hm30; omega)
    have eT31 : T31 = RT_BB_init_31 L := by rw [hT31, eT30]; rfl
    rw [← hT31]
    refine a_iinc (pc := 206) (v := (5 : Int32)) (lv' := [(1, .int (5 : Int32)), (0, .ref (gB g + L))]) 0 rfl (by decide) (Nat.le_of_ble_eq_true rfl) rfl d_BB_init_206 ?_
    refine a_goto (pc := 209) 187 (by decide) d_BB_init_209 ?_
    refine a_iload_n (pc := 187) 0 rfl rfl d_BB_init_187 ?_
    refine a_bipush (pc := 188) (8 : Int32) (by decide) d_BB_init_188 ?_
    refine a_icmp_ge (pc := 190) 212 (by decide) d_BB_init_190 ⟨fun c0 => absurd c0 (by decide), fun _ => ?_⟩
    refine a_aload_n (pc := 193) 1 rfl rfl d_BB_init_193 ?_
    refine a_getR (pc := 194) (i := L) (r := (L + 89)) fg_BB_85 (pb_g hL) rfl d_BB_init_194 ?_
    refine a_iload_n (pc := 197) 0 rfl rfl d_BB_init_197 ?_
    refine a_newo (pc := 198) (ci := 8) (N := 15) tyX8 rfl uw8 tyX8_ok (by decide) tw445 tw62 tw4 (by rw [(pb_n hL hm31)]; exact hz19 _ (by omega)) (Nat.le_of_ble_eq_true rfl) (Nat.le_of_ble_eq_true rfl) d_BB_init_198 ?_
    rw [(pb_n hL hm31), pb_push]
    show Ax g m_BB_init 150 65368 _ (P ++ (.inl (11, [(2, (L + 1)), (2, (L + 3)), (2, (L + 9)), (2, (L + 17)), (2, (L + 52)), (2, (L + 56)), (2, (L + 69)), (2, (L + 78)), (2, (L + 82)), (2, (L + 83)), (2, (L + 88)), (2, (L + 89)), (2, (L + 90)), (0, 0), (0, 0)])) :: (T31 ++ [.inl (8, [(0, 0), (0, 0), (0, 0), (0, 0), (0, 0), (0, 0), (0, 0), (0, 0), (0, 0), (0, 0), (0, 0), (3, 0), (3, 0), (3, 0), (3, 0)])])) s19 136 65089 201 [(1, .int (5 : Int32)), (0, .ref (gB g + L))] [.ref (gB g + (L + 136)), .int (5 : Int32), .ref (gB g + (L + 89))]
    refine a_dup (pc := 201) rfl d_BB_init_201 ?_
    refine a_callI (a := 0) (pc := 202) (M' := m_SA_init) (i := gB g + (L + 136)) (As := []) (st := [.ref (gB g + (L + 136)), .int (5 : Int32), .ref (gB g + (L + 89))]) (mc' := 4) (ms' := 83) tw446 tw64 tw4 tw65 rfl rfl (by decide +kernel) rfl (by decide) (by decide) rfl (Nat.le_of_ble_eq_true rfl) (Nat.le_of_ble_eq_true rfl) (Nat.le_of_ble_eq_true rfl) d_BB_init_202 (by have q := cc_SA_init (g := g) (P := P ++ (.inl (11, [(2, (L + 1)), (2, (L + 3)), (2, (L + 9)), (2, (L + 17)), (2, (L + 52)), (2, (L + 56)), (2, (L + 69)), (2, (L + 78)), (2, (L + 82)), (2, (L + 83)), (2, (L + 88)), (2, (L + 89)), (2, (L + 90)), (0, 0), (0, 0)])) :: T31) (L := L + 136) (σ := s19) (pb_n hL hm31) (fun i hi => hz19 i (by omega)); rw [pb_push] at q; exact q) ?_
    rintro _ _ s' ⟨rfl, rfl, hs⟩ -
    rw [hs, pb_push]
    show Ax g m_BB_init 150 65368 _ (P ++ (.inl (11, [(2, (L + 1)), (2, (L + 3)), (2, (L + 9)), (2, (L + 17)), (2, (L + 52)), (2, (L + 56)), (2, (L + 69)), (2, (L + 78)), (2, (L + 82)), (2, (L + 83)), (2, (L + 88)), (2, (L + 89)), (2, (L + 90)), (0, 0), (0, 0)])) :: (T31 ++ [.inl (8, [(0, 0), (0, 0), (0, 0), (0, 0), (0, 0), (0, 0), (0, 0), (0, 0), (0, 0), (0, 0), (0, 0), (2, (L + 137)), (2, (L + 138)), (2, (L + 139)), (2, (L + 140))]), .inr (0, 64, []), .inr (0, 3, []), .inr (0, 8, []), .inr (0, 8, [])])) (F_SA_init s19 (L + 136)) 140 65172 205 [(1, .int (5 : Int32)), (0, .ref (gB g + L))] [.ref (gB g + (L + 136)), .int (5 : Int32), .ref (gB g + (L + 89))]
    obtain ⟨T32, hT32⟩ : ∃ y : List Sh, y = T31 ++ [.inl (8, [(0, 0), (0, 0), (0, 0), (0, 0), (0, 0), (0, 0), (0, 0), (0, 0), (0, 0), (0, 0), (0, 0), (2, (L + 137)), (2, (L + 138)), (2, (L + 139)), (2, (L + 140))]), .inr (0, 64, []), .inr (0, 3, []), .inr (0, 8, []), .inr (0, 8, [])] := ⟨_, rfl⟩
    have hm32 : T32.length + 1 = 141 := by rw [hT32, List.length_append]; have := hm31; simp only [List.length_cons, List.length_nil]; omega
    have f32_82 : T32[82]? = some (.inl (8, [(0, 0), (0, 0), (0, 0), (0, 0), (0, 0), (0, 0), (0, 0), (0, 0), (0, 0), (0, 0), (0, 0), (2, (L + 84)), (2, (L + 85)), (2, (L + 86)), (2, (L + 87))])) := by rw [hT32, List.getElem?_append_left (by have := hm31; omega)]; exact f31_82
    have f32_87 : T32[87]? = some (.inr (5, 4, [(L + 91) + 1, (L + 96) + 1, (L + 101) + 1, (L + 106) + 1])) := by rw [hT32, List.getElem?_append_left (by have := hm31; omega)]; exact f31_87
    have f32_88 : T32[88]? = some (.inr (5, 8, [(L + 111) + 1, (L + 116) + 1, (L + 121) + 1, (L + 126) + 1, (L + 131) + 1, 0, 0, 0])) := by rw [hT32, List.getElem?_append_left (by have := hm31; omega)]; exact f31_88
    have f32_135 : T32[135]? = some (.inl (8, [(0, 0), (0, 0), (0, 0), (0, 0), (0, 0), (0, 0), (0, 0), (0, 0), (0, 0), (0, 0), (0, 0), (2, (L + 137)), (2, (L + 138)), (2, (L + 139)), (2, (L + 140))])) := by rw [hT32, List.getElem?_append_right (by have := hm31; omega), show 135 - T31.length = 0 by have := hm31; omega]; rfl
    have eT32 : T32 = RT_BB_init_32 L := by rw [hT32, eT31]; rfl
    rw [← hT32]
    refine a_nms (fun s20 hs20 => ?_)
    have hz20 : ∀ i, L + 141 ≤ i → zro s20 i := fun i hi => by rw [hs20]; exact zf_SA_init (by omega) (hz19 i (by omega))
    show Ax g m_BB_init 150 65368 _ (P ++ (.inl (11, [(2, (L + 1)), (2, (L + 3)), (2, (L + 9)), (2, (L + 17)), (2, (L + 52)), (2, (L + 56)), (2, (L + 69)), (2, (L + 78)), (2, (L + 82)), (2, (L + 83)), (2, (L + 88)), (2, (L + 89)), (2, (L + 90)), (0, 0), (0, 0)])) :: T32) s20 140 65172 205 [(1, .int (5 : Int32)), (0, .ref (gB g + L))] [.ref (gB g + (L + 136)), .int (5 : Int32), .ref (gB g + (L + 89))]
    refine a_astq (pc := 205) (i := L + 89) (r := L + 136) (q := vwCl[8]) (pb_t hL f32_88) (pb_t hL f32_135) rfl (Or.inr ⟨rfl, rfl⟩) (vp_in_nI (n := 5) (N := 8) (by decide) (by decide)) (Nat.le_of_ble_eq_true rfl) d_BB_init_205 ?_
    rw [pb_st hL]
    show Ax g m_BB_init 150 65368 _ (P ++ (.inl (11, [(2, (L + 1)), (2, (L + 3)), (2, (L + 9)), (2, (L + 17)), (2, (L + 52)), (2, (L + 56)), (2, (L + 69)), (2, (L + 78)), (2, (L + 82)), (2, (L + 83)), (2, (L + 88)), (2, (L + 89)), (2, (L + 90)), (0, 0), (0, 0)])) :: (T32.set 88 (.inr (5, 8, [(L + 111) + 1, (L + 116) + 1, (L + 121) + 1, (L + 126) + 1, (L + 131) + 1, (L + 136) + 1, 0, 0])))) s20 140 65172 206 [(1, .int (5 : Int32)), (0, .ref (gB g + L))] []
    obtain ⟨T33, hT33⟩ : ∃ y : List Sh, y = T32.set 88 (.inr (5, 8, [(L + 111) + 1, (L + 116) + 1, (L + 121) + 1, (L + 126) + 1, (L + 131) + 1, (L + 136) + 1, 0, 0])) := ⟨_, rfl⟩
    have hm33 : T33.length + 1 = 141 := by rw [hT33, List.length_set]; exact hm32
    have f33_82 : T33[82]? = some (.inl (8, [(0, 0), (0, 0), (0, 0), (0, 0), (0, 0), (0, 0), (0, 0), (0, 0), (0, 0), (0, 0), (0, 0), (2, (L + 84)), (2, (L + 85)), (2, (L + 86)), (2, (L + 87))])) := by rw [hT33, List.getElem?_set_ne (by decide)]; exact f32_82
    have f33_87 : T33[87]? = some (.inr (5, 4, [(L + 91) + 1, (L + 96) + 1, (L + 101) + 1, (L + 106) + 1])) := by rw [hT33, List.getElem?_set_ne (by decide)]; exact f32_87
    have f33_88 : T33[88]? = some (.inr (5, 8, [(L + 111) + 1, (L + 116) + 1, (L + 121) + 1, (L + 126) + 1, (L + 131) + 1, (L + 136) + 1, 0, 0])) := by rw [hT33]; exact List.getElem?_set_self (by have := hm32; omega)
    have eT33 : T33 = RT_BB_init_33 L := by rw [hT33, eT32]; rfl
    rw [← hT33]
    refine a_iinc (pc := 206) (v := (6 : Int32)) (lv' := [(1, .int (6 : Int32)), (0, .ref (gB g + L))]) 0 rfl (by decide) (Nat.le_of_ble_eq_true rfl) rfl d_BB_init_206 ?_
    refine a_goto (pc := 209) 187 (by decide) d_BB_init_209 ?_
    refine a_iload_n (pc := 187) 0 rfl rfl d_BB_init_187 ?_
    refine a_bipush (pc := 188) (8 : Int32) (by decide) d_BB_init_188 ?_
    refine a_icmp_ge (pc := 190) 212 (by decide) d_BB_init_190 ⟨fun c0 => absurd c0 (by decide), fun _ => ?_⟩
    refine a_aload_n (pc := 193) 1 rfl rfl d_BB_init_193 ?_
    refine a_getR (pc := 194) (i := L) (r := (L + 89)) fg_BB_85 (pb_g hL) rfl d_BB_init_194 ?_
    refine a_iload_n (pc := 197) 0 rfl rfl d_BB_init_197 ?_
    refine a_newo (pc := 198) (ci := 8) (N := 15) tyX8 rfl uw8 tyX8_ok (by decide) tw445 tw62 tw4 (by rw [(pb_n hL hm33)]; exact hz20 _ (by omega)) (Nat.le_of_ble_eq_true rfl) (Nat.le_of_ble_eq_true rfl) d_BB_init_198 ?_
    rw [(pb_n hL hm33), pb_push]
    show Ax g m_BB_init 150 65368 _ (P ++ (.inl (11, [(2, (L + 1)), (2, (L + 3)), (2, (L + 9)), (2, (L + 17)), (2, (L + 52)), (2, (L + 56)), (2, (L + 69)), (2, (L + 78)), (2, (L + 82)), (2, (L + 83)), (2, (L + 88)), (2, (L + 89)), (2, (L + 90)), (0, 0), (0, 0)])) :: (T33 ++ [.inl (8, [(0, 0), (0, 0), (0, 0), (0, 0), (0, 0), (0, 0), (0, 0), (0, 0), (0, 0), (0, 0), (0, 0), (3, 0), (3, 0), (3, 0), (3, 0)])])) s20 141 65187 201 [(1, .int (6 : Int32)), (0, .ref (gB g + L))] [.ref (gB g + (L + 141)), .int (6 : Int32), .ref (gB g + (L + 89))]
    refine a_dup (pc := 201) rfl d_BB_init_201 ?_
    refine a_callI (a := 0) (pc := 202) (M' := m_SA_init) (i := gB g + (L + 141)) (As := []) (st := [.ref (gB g + (L + 141)), .int (6 : Int32), .ref (gB g + (L + 89))]) (mc' := 4) (ms' := 83) tw446 tw64 tw4 tw65 rfl rfl (by decide +kernel) rfl (by decide) (by decide) rfl (Nat.le_of_ble_eq_true rfl) (Nat.le_of_ble_eq_true rfl) (Nat.le_of_ble_eq_true rfl) d_BB_init_202 (by have q := cc_SA_init (g := g) (P := P ++ (.inl (11, [(2, (L + 1)), (2, (L + 3)), (2, (L + 9)), (2, (L + 17)), (2, (L + 52)), (2, (L + 56)), (2, (L + 69)), (2, (L + 78)), (2, (L + 82)), (2, (L + 83)), (2, (L + 88)), (2, (L + 89)), (2, (L + 90)), (0, 0), (0, 0)])) :: T33) (L := L + 141) (σ := s20) (pb_n hL hm33) (fun i hi => hz20 i (by omega)); rw [pb_push] at q; exact q) ?_
    rintro _ _ s' ⟨rfl, rfl, hs⟩ -
    rw [hs, pb_push]
    show Ax g m_BB_init 150 65368 _ (P ++ (.inl (11, [(2, (L + 1)), (2, (L + 3)), (2, (L + 9)), (2, (L + 17)), (2, (L + 52)), (2, (L + 56)), (2, (L + 69)), (2, (L + 78)), (2, (L + 82)), (2, (L + 83)), (2, (L + 88)), (2, (L + 89)), (2, (L + 90)), (0, 0), (0, 0)])) :: (T33 ++ [.inl (8, [(0, 0), (0, 0), (0, 0), (0, 0), (0, 0), (0, 0), (0, 0), (0, 0), (0, 0), (0, 0), (0, 0), (2, (L + 142)), (2, (L + 143)), (2, (L + 144)), (2, (L + 145))]), .inr (0, 64, []), .inr (0, 3, []), .inr (0, 8, []), .inr (0, 8, [])])) (F_SA_init s20 (L + 141)) 145 65270 205 [(1, .int (6 : Int32)), (0, .ref (gB g + L))] [.ref (gB g + (L + 141)), .int (6 : Int32), .ref (gB g + (L + 89))]
    obtain ⟨T34, hT34⟩ : ∃ y : List Sh, y = T33 ++ [.inl (8, [(0, 0), (0, 0), (0, 0), (0, 0), (0, 0), (0, 0), (0, 0), (0, 0), (0, 0), (0, 0), (0, 0), (2, (L + 142)), (2, (L + 143)), (2, (L + 144)), (2, (L + 145))]), .inr (0, 64, []), .inr (0, 3, []), .inr (0, 8, []), .inr (0, 8, [])] := ⟨_, rfl⟩
    have hm34 : T34.length + 1 = 146 := by rw [hT34, List.length_append]; have := hm33; simp only [List.length_cons, List.length_nil]; omega
    have f34_82 : T34[82]? = some (.inl (8, [(0, 0), (0, 0), (0, 0), (0, 0), (0, 0), (0, 0), (0, 0), (0, 0), (0, 0), (0, 0), (0, 0), (2, (L + 84)), (2, (L + 85)), (2, (L + 86)), (2, (L + 87))])) := by rw [hT34, List.getElem?_append_left (by have := hm33; omega)]; exact f33_82
    have f34_87 : T34[87]? = some (.inr (5, 4, [(L + 91) + 1, (L + 96) + 1, (L + 101) + 1, (L + 106) + 1])) := by rw [hT34, List.getElem?_append_left (by have := hm33; omega)]; exact f33_87
    have f34_88 : T34[88]? = some (.inr (5, 8, [(L + 111) + 1, (L + 116) + 1, (L + 121) + 1, (L + 126) + 1, (L + 131) + 1, (L + 136) + 1, 0, 0])) := by rw [hT34, List.getElem?_append_left (by have := hm33; omega)]; exact f33_88
    have f34_140 : T34[140]? = some (.inl (8, [(0, 0), (0, 0), (0, 0), (0, 0), (0, 0), (0, 0), (0, 0), (0, 0), (0, 0), (0, 0), (0, 0), (2, (L + 142)), (2, (L + 143)), (2, (L + 144)), (2, (L + 145))])) := by rw [hT34, List.getElem?_append_right (by have := hm33; omega), show 140 - T33.length = 0 by have := hm33; omega]; rfl
    have eT34 : T34 = RT_BB_init_34 L := by rw [hT34, eT33]; rfl
    rw [← hT34]
    refine a_nms (fun s21 hs21 => ?_)
    have hz21 : ∀ i, L + 146 ≤ i → zro s21 i := fun i hi => by rw [hs21]; exact zf_SA_init (by omega) (hz20 i (by omega))
    show Ax g m_BB_init 150 65368 _ (P ++ (.inl (11, [(2, (L + 1)), (2, (L + 3)), (2, (L + 9)), (2, (L + 17)), (2, (L + 52)), (2, (L + 56)), (2, (L + 69)), (2, (L + 78)), (2, (L + 82)), (2, (L + 83)), (2, (L + 88)), (2, (L + 89)), (2, (L + 90)), (0, 0), (0, 0)])) :: T34) s21 145 65270 205 [(1, .int (6 : Int32)), (0, .ref (gB g + L))] [.ref (gB g + (L + 141)), .int (6 : Int32), .ref (gB g + (L + 89))]
    refine a_astq (pc := 205) (i := L + 89) (r := L + 141) (q := vwCl[8]) (pb_t hL f34_88) (pb_t hL f34_140) rfl (Or.inr ⟨rfl, rfl⟩) (vp_in_nI (n := 6) (N := 8) (by decide) (by decide)) (Nat.le_of_ble_eq_true rfl) d_BB_init_205 ?_
    rw [pb_st hL]
    show Ax g m_BB_init 150 65368 _ (P ++ (.inl (11, [(2, (L + 1)), (2, (L + 3)), (2, (L + 9)), (2, (L + 17)), (2, (L + 52)), (2, (L + 56)), (2, (L + 69)), (2, (L + 78)), (2, (L + 82)), (2, (L + 83)), (2, (L + 88)), (2, (L + 89)), (2, (L + 90)), (0, 0), (0, 0)])) :: (T34.set 88 (.inr (5, 8, [(L + 111) + 1, (L + 116) + 1, (L + 121) + 1, (L + 126) + 1, (L + 131) + 1, (L + 136) + 1, (L + 141) + 1, 0])))) s21 145 65270 206 [(1, .int (6 : Int32)), (0, .ref (gB g + L))] []
    obtain ⟨T35, hT35⟩ : ∃ y : List Sh, y = T34.set 88 (.inr (5, 8, [(L + 111) + 1, (L + 116) + 1, (L + 121) + 1, (L + 126) + 1, (L + 131) + 1, (L + 136) + 1, (L + 141) + 1, 0])) := ⟨_, rfl⟩
    have hm35 : T35.length + 1 = 146 := by rw [hT35, List.length_set]; exact hm34
    have f35_82 : T35[82]? = some (.inl (8, [(0, 0), (0, 0), (0, 0), (0, 0), (0, 0), (0, 0), (0, 0), (0, 0), (0, 0), (0, 0), (0, 0), (2, (L + 84)), (2, (L + 85)), (2, (L + 86)), (2, (L + 87))])) := by rw [hT35, List.getElem?_set_ne (by decide)]; exact f34_82
    have f35_87 : T35[87]? = some (.inr (5, 4, [(L + 91) + 1, (L + 96) + 1, (L + 101) + 1, (L + 106) + 1])) := by rw [hT35, List.getElem?_set_ne (by decide)]; exact f34_87
    have f35_88 : T35[88]? = some (.inr (5, 8, [(L + 111) + 1, (L + 116) + 1, (L + 121) + 1, (L + 126) + 1, (L + 131) + 1, (L + 136) + 1, (L + 141) + 1, 0])) := by rw [hT35]; exact List.getElem?_set_self (by have := hm34; omega)
    have eT35 : T35 = RT_BB_init_35 L := by rw [hT35, eT34]; rfl
    rw [← hT35]
    refine a_iinc (pc := 206) (v := (7 : Int32)) (lv' := [(1, .int (7 : Int32)), (0, .ref (gB g + L))]) 0 rfl (by decide) (Nat.le_of_ble_eq_true rfl) rfl d_BB_init_206 ?_
    refine a_goto (pc := 209) 187 (by decide) d_BB_init_209 ?_
    refine a_iload_n (pc := 187) 0 rfl rfl d_BB_init_187 ?_
    refine a_bipush (pc := 188) (8 : Int32) (by decide) d_BB_init_188 ?_
    refine a_icmp_ge (pc := 190) 212 (by decide) d_BB_init_190 ⟨fun c0 => absurd c0 (by decide), fun _ => ?_⟩
    refine a_aload_n (pc := 193) 1 rfl rfl d_BB_init_193 ?_
    refine a_getR (pc := 194) (i := L) (r := (L + 89)) fg_BB_85 (pb_g hL) rfl d_BB_init_194 ?_
    refine a_iload_n (pc := 197) 0 rfl rfl d_BB_init_197 ?_
    refine a_newo (pc := 198) (ci := 8) (N := 15) tyX8 rfl uw8 tyX8_ok (by decide) tw445 tw62 tw4 (by rw [(pb_n hL hm35)]; exact hz21 _ (by omega)) (Nat.le_of_ble_eq_true rfl) (Nat.le_of_ble_eq_true rfl) d_BB_init_198 ?_
    rw [(pb_n hL hm35), pb_push]
    show Ax g m_BB_init 150 65368 _ (P ++ (.inl (11, [(2, (L + 1)), (2, (L + 3)), (2, (L + 9)), (2, (L + 17)), (2, (L + 52)), (2, (L + 56)), (2, (L + 69)), (2, (L + 78)), (2, (L + 82)), (2, (L + 83)), (2, (L + 88)), (2, (L + 89)), (2, (L + 90)), (0, 0), (0, 0)])) :: (T35 ++ [.inl (8, [(0, 0), (0, 0), (0, 0), (0, 0), (0, 0), (0, 0), (0, 0), (0, 0), (0, 0), (0, 0), (0, 0), (3, 0), (3, 0), (3, 0), (3, 0)])])) s21 146 65285 201 [(1, .int (7 : Int32)), (0, .ref (gB g + L))] [.ref (gB g + (L + 146)), .int (7 : Int32), .ref (gB g + (L + 89))]
    refine a_dup (pc := 201) rfl d_BB_init_201 ?_
    refine a_callI (a := 0) (pc := 202) (M' := m_SA_init) (i := gB g + (L + 146)) (As := []) (st := [.ref (gB g + (L + 146)), .int (7 : Int32), .ref (gB g + (L + 89))]) (mc' := 4) (ms' := 83) tw446 tw64 tw4 tw65 rfl rfl (by decide +kernel) rfl (by decide) (by decide) rfl (Nat.le_of_ble_eq_true rfl) (Nat.le_of_ble_eq_true rfl) (Nat.le_of_ble_eq_true rfl) d_BB_init_202 (by have q := cc_SA_init (g := g) (P := P ++ (.inl (11, [(2, (L + 1)), (2, (L + 3)), (2, (L + 9)), (2, (L + 17)), (2, (L + 52)), (2, (L + 56)), (2, (L + 69)), (2, (L + 78)), (2, (L + 82)), (2, (L + 83)), (2, (L + 88)), (2, (L + 89)), (2, (L + 90)), (0, 0), (0, 0)])) :: T35) (L := L + 146) (σ := s21) (pb_n hL hm35) (fun i hi => hz21 i (by omega)); rw [pb_push] at q; exact q) ?_
    rintro _ _ s' ⟨rfl, rfl, hs⟩ -
    rw [hs, pb_push]
    show Ax g m_BB_init 150 65368 _ (P ++ (.inl (11, [(2, (L + 1)), (2, (L + 3)), (2, (L + 9)), (2, (L + 17)), (2, (L + 52)), (2, (L + 56)), (2, (L + 69)), (2, (L + 78)), (2, (L + 82)), (2, (L + 83)), (2, (L + 88)), (2, (L + 89)), (2, (L + 90)), (0, 0), (0, 0)])) :: (T35 ++ [.inl (8, [(0, 0), (0, 0), (0, 0), (0, 0), (0, 0), (0, 0), (0, 0), (0, 0), (0, 0), (0, 0), (0, 0), (2, (L + 147)), (2, (L + 148)), (2, (L + 149)), (2, (L + 150))]), .inr (0, 64, []), .inr (0, 3, []), .inr (0, 8, []), .inr (0, 8, [])])) (F_SA_init s21 (L + 146)) 150 65368 205 [(1, .int (7 : Int32)), (0, .ref (gB g + L))] [.ref (gB g + (L + 146)), .int (7 : Int32), .ref (gB g + (L + 89))]
    obtain ⟨T36, hT36⟩ : ∃ y : List Sh, y = T35 ++ [.inl (8, [(0, 0), (0, 0), (0, 0), (0, 0), (0, 0), (0, 0), (0, 0), (0, 0), (0, 0), (0, 0), (0, 0), (2, (L + 147)), (2, (L + 148)), (2, (L + 149)), (2, (L + 150))]), .inr (0, 64, []), .inr (0, 3, []), .inr (0, 8, []), .inr (0, 8, [])] := ⟨_, rfl⟩
    have hm36 : T36.length + 1 = 151 := by rw [hT36, List.length_append]; have := hm35; simp only [List.length_cons, List.length_nil]; omega
    have f36_82 : T36[82]? = some (.inl (8, [(0, 0), (0, 0), (0, 0), (0, 0), (0, 0), (0, 0), (0, 0), (0, 0), (0, 0), (0, 0), (0, 0), (2, (L + 84)), (2, (L + 85)), (2, (L + 86)), (2, (L + 87))])) := by rw [hT36, List.getElem?_append_left (by have := hm35; omega)]; exact f35_82
    have f36_87 : T36[87]? = some (.inr (5, 4, [(L + 91) + 1, (L + 96) + 1, (L + 101) + 1, (L + 106) + 1])) := by rw [hT36, List.getElem?_append_left (by have := hm35; omega)]; exact f35_87
    have f36_88 : T36[88]? = some (.inr (5, 8, [(L + 111) + 1, (L + 116) + 1, (L + 121) + 1, (L + 126) + 1, (L + 131) + 1, (L + 136) + 1, (L + 141) + 1, 0])) := by rw [hT36, List.getElem?_append_left (by have := hm35; omega)]; exact f35_88
    have f36_145 : T36[145]? = some (.inl (8, [(0, 0), (0, 0), (0, 0), (0, 0), (0, 0), (0, 0), (0, 0), (0, 0), (0, 0), (0, 0), (0, 0), (2, (L + 147)), (2, (L + 148)), (2, (L + 149)), (2, (L + 150))])) := by rw [hT36, List.getElem?_append_right (by have := hm35; omega), show 145 - T35.length = 0 by have := hm35; omega]; rfl
    have eT36 : T36 = RT_BB_init_36 L := by rw [hT36, eT35]; rfl
    rw [← hT36]
    refine a_nms (fun s22 hs22 => ?_)
    have hz22 : ∀ i, L + 151 ≤ i → zro s22 i := fun i hi => by rw [hs22]; exact zf_SA_init (by omega) (hz21 i (by omega))
    show Ax g m_BB_init 150 65368 _ (P ++ (.inl (11, [(2, (L + 1)), (2, (L + 3)), (2, (L + 9)), (2, (L + 17)), (2, (L + 52)), (2, (L + 56)), (2, (L + 69)), (2, (L + 78)), (2, (L + 82)), (2, (L + 83)), (2, (L + 88)), (2, (L + 89)), (2, (L + 90)), (0, 0), (0, 0)])) :: T36) s22 150 65368 205 [(1, .int (7 : Int32)), (0, .ref (gB g + L))] [.ref (gB g + (L + 146)), .int (7 : Int32), .ref (gB g + (L + 89))]
    refine a_astq (pc := 205) (i := L + 89) (r := L + 146) (q := vwCl[8]) (pb_t hL f36_88) (pb_t hL f36_145) rfl (Or.inr ⟨rfl, rfl⟩) (vp_in_nI (n := 7) (N := 8) (by decide) (by decide)) (Nat.le_of_ble_eq_true rfl) d_BB_init_205 ?_
    rw [pb_st hL]
    show Ax g m_BB_init 150 65368 _ (P ++ (.inl (11, [(2, (L + 1)), (2, (L + 3)), (2, (L + 9)), (2, (L + 17)), (2, (L + 52)), (2, (L + 56)), (2, (L + 69)), (2, (L + 78)), (2, (L + 82)), (2, (L + 83)), (2, (L + 88)), (2, (L + 89)), (2, (L + 90)), (0, 0), (0, 0)])) :: (T36.set 88 (.inr (5, 8, [(L + 111) + 1, (L + 116) + 1, (L + 121) + 1, (L + 126) + 1, (L + 131) + 1, (L + 136) + 1, (L + 141) + 1, (L + 146) + 1])))) s22 150 65368 206 [(1, .int (7 : Int32)), (0, .ref (gB g + L))] []
    obtain ⟨T37, hT37⟩ : ∃ y : List Sh, y = T36.set 88 (.inr (5, 8, [(L + 111) + 1, (L + 116) + 1, (L + 121) + 1, (L + 126) + 1, (L + 131) + 1, (L + 136) + 1, (L + 141) + 1, (L + 146) + 1])) := ⟨_, rfl⟩
    have hm37 : T37.length + 1 = 151 := by rw [hT37, List.length_set]; exact hm36
    have f37_82 : T37[82]? = some (.inl (8, [(0, 0), (0, 0), (0, 0), (0, 0), (0, 0), (0, 0), (0, 0), (0, 0), (0, 0), (0, 0), (0, 0), (2, (L + 84)), (2, (L + 85)), (2, (L + 86)), (2, (L + 87))])) := by rw [hT37, List.getElem?_set_ne (by decide)]; exact f36_82
    have f37_87 : T37[87]? = some (.inr (5, 4, [(L + 91) + 1, (L + 96) + 1, (L + 101) + 1, (L + 106) + 1])) := by rw [hT37, List.getElem?_set_ne (by decide)]; exact f36_87
    have f37_88 : T37[88]? = some (.inr (5, 8, [(L + 111) + 1, (L + 116) + 1, (L + 121) + 1, (L + 126) + 1, (L + 131) + 1, (L + 136) + 1, (L + 141) + 1, (L + 146) + 1])) := by rw [hT37]; exact List.getElem?_set_self (by have := hm36; omega)
    have eT37 : T37 = RT_BB_init_37 L := by rw [hT37, eT36]; rfl
    rw [← hT37]
    refine a_iinc (pc := 206) (v := (8 : Int32)) (lv' := [(1, .int (8 : Int32)), (0, .ref (gB g + L))]) 0 rfl (by decide) (Nat.le_of_ble_eq_true rfl) rfl d_BB_init_206 ?_
    refine a_goto (pc := 209) 187 (by decide) d_BB_init_209 ?_
    refine a_iload_n (pc := 187) 0 rfl rfl d_BB_init_187 ?_
    refine a_bipush (pc := 188) (8 : Int32) (by decide) d_BB_init_188 ?_
    refine a_icmp_ge (pc := 190) 212 (by decide) d_BB_init_190 ⟨fun _ => ?_, fun c0 => absurd c0 (by decide)⟩
    refine a_vret (pc := 212) rfl (by rw [pb_n hL hm37]; simp [List.length_append] <;> omega) rfl (Nat.le_refl _) d_BB_init_212 ⟨rfl, ?_, ?_⟩
    · rw [eT37]; rfl
    · rw [hs22, hs21, hs20, hs19, hs18, hs17, hs16, hs15, hs14, hs13, hs12, hs11, hs10, hs9, hs8, hs7, hs6, hs5, hs4, hs3, hs2, hs1]; rfl
  rw [← e0] at key
  exact key
