/-! the calls of the law, one after another (2) -/
section ZLC
variable {p : Program} {l : Launch} {e : Env} {s : State} {m : MethodId} {below : List Frame} {meth : Method} {c : Code} {b : Nat} {dC : Nat → ClassId} {dI : Nat → Nat → Nat} {dA : Nat → ClassId} {locC locM : Nat → Nat} {L : Nat} {xs : Nat → Int32}
variable {n : Nat} {FC AC AM : Nat → Nat → Int32} {FM : Nat → Int32} {cells slots : Nat}
theorem case_cost (hG : lwAll p s m meth c b L xs dC dI dA locC locM) (hn : n + 5 ≤ L) (hc : cells + 200 ≤ 600000 ∧ slots + 2000 ≤ 7302250) (hR : Rel FC AC FM AM) (hk : ∀ FC1 AC1 FM1 AM1, Rel FC1 AC1 FM1 AM1 → LW p l e s m below meth c b dC dI dA locC locM 1441 n [] FC1 AC1 FM1 AM1 (cells + 200) (slots + 2000)) : LW p l e s m below meth c b dC dI dA locC locM 938 n [] FC AC FM AM cells slots := by
  obtain ⟨P, H, S, E, X, hP, hC, hM⟩ := hR
  refine LW.a1 hG dL_law_938 ?_
  refine LW.arg (k := 1) hG (by omega) rfl dL_law_939 dL_law_940 dL_law_941 dL_law_942 dL_law_943 ?_
  refine LW.arg (k := 2) hG (by omega) rfl dL_law_944 dL_law_945 dL_law_946 dL_law_947 dL_law_948 ?_
  refine LW.cc (As := [.int (Int32.ofInt (xi xs (n + 1))), .int (Int32.ofInt (xi xs (n + 2)))]) (rest := []) (d := 24) hG lm_X8_cost ls_X8_cost rfl (by decide) ⟨rfl, rfl⟩ (fun _ => rfl) (by decide) dL_law_949 (by omega) ?_
  refine j_cost xi_r xi_r hC.1 hP (fun FC1 AC1 q1 => ⟨_, _, _, rfl, rfl, ?_⟩)
  have hC1 := hC.cr q1
  refine LW.a2 hG dL_law_952 ?_
  refine LW.arg (k := 1) hG (by omega) rfl dL_law_953 dL_law_954 dL_law_955 dL_law_956 dL_law_957 ?_
  refine LW.arg (k := 2) hG (by omega) rfl dL_law_958 dL_law_959 dL_law_960 dL_law_961 dL_law_962 ?_
  refine LW.cm (As := [.int (Int32.ofInt (xi xs (n + 1))), .int (Int32.ofInt (xi xs (n + 2)))]) (rest := [.int _]) (d := 25) hG lm_X9_cost ls_X9_cost rfl (by decide) (by decide) (fun _ => rfl) (Nat.le_of_ble_eq_true rfl) dL_law_963 ⟨by show cells + 0 ≤ _; omega, by show slots + 0 ≤ _; omega⟩ ?_
  refine q_cost xi_r xi_r hM.1 hP (fun FM1 AM1 r1 => ⟨_, _, _, rfl, rfl, ?_⟩)
  have hM1 := hM.m r1
  refine LW.same hG dL_law_966 (by decide) ?_
  exact LW.widen (Nat.add_le_add_left (by decide) _) (Nat.add_le_add_left (by decide) _) (hk _ _ _ _ ⟨_, _, _, _, _, hP, hC1, hM1⟩)
theorem case_openCount (hG : lwAll p s m meth c b L xs dC dI dA locC locM) (hn : n + 5 ≤ L) (hc : cells + 200 ≤ 600000 ∧ slots + 2000 ≤ 7302250) (hR : Rel FC AC FM AM) (hk : ∀ FC1 AC1 FM1 AM1, Rel FC1 AC1 FM1 AM1 → LW p l e s m below meth c b dC dI dA locC locM 1441 n [] FC1 AC1 FM1 AM1 (cells + 200) (slots + 2000)) : LW p l e s m below meth c b dC dI dA locC locM 971 n [] FC AC FM AM cells slots := by
  obtain ⟨P, H, S, E, X, hP, hC, hM⟩ := hR
  refine LW.a1 hG dL_law_971 ?_
  refine LW.cc (As := []) (rest := []) (d := 23) hG lm_X8_openCount ls_X8_openCount rfl (by decide) ⟨rfl, rfl⟩ (fun _ => rfl) (by decide) dL_law_972 (by omega) ?_
  refine j_openCount hC.1 hP ⟨_, _, _, rfl, rfl, ?_⟩
  have hC1 := hC
  refine LW.a2 hG dL_law_975 ?_
  refine LW.cm (As := []) (rest := [.int _]) (d := 26) hG lm_X9_openCount ls_X9_openCount rfl (by decide) (by decide) (fun _ => rfl) (Nat.le_of_ble_eq_true rfl) dL_law_976 ⟨by show cells + 0 ≤ _; omega, by show slots + 0 ≤ _; omega⟩ ?_
  refine q_openCount hM.1 hP (fun FM1 AM1 r1 => ⟨_, _, _, rfl, rfl, ?_⟩)
  have hM1 := hM.m r1
  refine LW.same hG dL_law_979 (by decide) ?_
  exact LW.widen (Nat.add_le_add_left (by decide) _) (Nat.add_le_add_left (by decide) _) (hk _ _ _ _ ⟨_, _, _, _, _, hP, hC1, hM1⟩)
theorem case_open (hG : lwAll p s m meth c b L xs dC dI dA locC locM) (hn : n + 5 ≤ L) (hc : cells + 200 ≤ 600000 ∧ slots + 2000 ≤ 7302250) (hR : Rel FC AC FM AM) (hk : ∀ FC1 AC1 FM1 AM1, Rel FC1 AC1 FM1 AM1 → LW p l e s m below meth c b dC dI dA locC locM 1441 n [] FC1 AC1 FM1 AM1 (cells + 200) (slots + 2000)) : LW p l e s m below meth c b dC dI dA locC locM 984 n [] FC AC FM AM cells slots := by
  obtain ⟨P, H, S, E, X, hP, hC, hM⟩ := hR
  refine LW.a1 hG dL_law_984 ?_
  refine LW.arg (k := 1) hG (by omega) rfl dL_law_985 dL_law_986 dL_law_987 dL_law_988 dL_law_989 ?_
  refine LW.cc (As := [.int (Int32.ofInt (xi xs (n + 1)))]) (rest := []) (d := 23) hG lm_X8_open ls_X8_open rfl (by decide) ⟨rfl, rfl⟩ (fun _ => rfl) (by decide) dL_law_990 (by omega) ?_
  refine j_open xi_r hC.1 hP ⟨_, _, _, rfl, rfl, ?_⟩
  have hC1 := hC
  refine LW.a2 hG dL_law_993 ?_
  refine LW.arg (k := 1) hG (by omega) rfl dL_law_994 dL_law_995 dL_law_996 dL_law_997 dL_law_998 ?_
  refine LW.cm (As := [.int (Int32.ofInt (xi xs (n + 1)))]) (rest := [.int _]) (d := 26) hG lm_X9_open ls_X9_open rfl (by decide) (by decide) (fun _ => rfl) (Nat.le_of_ble_eq_true rfl) dL_law_999 ⟨by show cells + 0 ≤ _; omega, by show slots + 0 ≤ _; omega⟩ ?_
  refine q_open xi_r hM.1 hP (fun FM1 AM1 r1 => ⟨_, _, _, rfl, rfl, ?_⟩)
  have hM1 := hM.m r1
  refine LW.same hG dL_law_1002 (by decide) ?_
  exact LW.widen (Nat.add_le_add_left (by decide) _) (Nat.add_le_add_left (by decide) _) (hk _ _ _ _ ⟨_, _, _, _, _, hP, hC1, hM1⟩)
theorem case_delay (hG : lwAll p s m meth c b L xs dC dI dA locC locM) (hn : n + 5 ≤ L) (hc : cells + 200 ≤ 600000 ∧ slots + 2000 ≤ 7302250) (hR : Rel FC AC FM AM) (hk : ∀ FC1 AC1 FM1 AM1, Rel FC1 AC1 FM1 AM1 → LW p l e s m below meth c b dC dI dA locC locM 1441 n [] FC1 AC1 FM1 AM1 (cells + 200) (slots + 2000)) : LW p l e s m below meth c b dC dI dA locC locM 1007 n [] FC AC FM AM cells slots := by
  obtain ⟨P, H, S, E, X, hP, hC, hM⟩ := hR
  refine LW.a1 hG dL_law_1007 ?_
  refine LW.arg (k := 1) hG (by omega) rfl dL_law_1008 dL_law_1009 dL_law_1010 dL_law_1011 dL_law_1012 ?_
  refine LW.arg (k := 2) hG (by omega) rfl dL_law_1013 dL_law_1014 dL_law_1015 dL_law_1016 dL_law_1017 ?_
  refine LW.cc (As := [.int (Int32.ofInt (xi xs (n + 1))), .int (Int32.ofInt (xi xs (n + 2)))]) (rest := []) (d := 25) hG lm_X8_delay ls_X8_delay rfl (by decide) ⟨rfl, rfl⟩ (fun _ => rfl) (by decide) dL_law_1018 (by omega) ?_
  refine j_delay xi_r xi_r hC.1 hP hC.2.1 (fun FC1 AC1 q1 q2 q3 q4 => ⟨_, _, _, rfl, rfl, ?_⟩)
  have hC1 := hC.ch q1 q2 q4
  refine LW.a2 hG dL_law_1021 ?_
  refine LW.arg (k := 1) hG (by omega) rfl dL_law_1022 dL_law_1023 dL_law_1024 dL_law_1025 dL_law_1026 ?_
  refine LW.arg (k := 2) hG (by omega) rfl dL_law_1027 dL_law_1028 dL_law_1029 dL_law_1030 dL_law_1031 ?_
  refine LW.cm (As := [.int (Int32.ofInt (xi xs (n + 1))), .int (Int32.ofInt (xi xs (n + 2)))]) (rest := [.int _]) (d := 29) hG lm_X9_delay ls_X9_delay rfl (by decide) (by decide) (fun _ => rfl) (Nat.le_of_ble_eq_true rfl) dL_law_1032 ⟨by show cells + 0 ≤ _; omega, by show slots + 0 ≤ _; omega⟩ ?_
  refine q_delay xi_r xi_r hM.1 hP hM.2.1 hM.2.2.2.2.2 (fun FM1 AM1 r1 r2 r3 => ⟨_, _, _, rfl, rfl, ?_⟩)
  simp only [Bool.false_eq_true, or_false, if_false] at r3
  have hM1 := hM.c r1 r2 r3
  refine LW.same hG dL_law_1035 (by decide) ?_
  exact LW.widen (Nat.add_le_add_left (by decide) _) (Nat.add_le_add_left (by decide) _) (hk _ _ _ _ ⟨_, _, _, _, _, q3, hC1, hM1⟩)
theorem case_cancel (hG : lwAll p s m meth c b L xs dC dI dA locC locM) (hn : n + 5 ≤ L) (hc : cells + 200 ≤ 600000 ∧ slots + 2000 ≤ 7302250) (hR : Rel FC AC FM AM) (hk : ∀ FC1 AC1 FM1 AM1, Rel FC1 AC1 FM1 AM1 → LW p l e s m below meth c b dC dI dA locC locM 1441 n [] FC1 AC1 FM1 AM1 (cells + 200) (slots + 2000)) : LW p l e s m below meth c b dC dI dA locC locM 1040 n [] FC AC FM AM cells slots := by
  obtain ⟨P, H, S, E, X, hP, hC, hM⟩ := hR
  refine LW.a1 hG dL_law_1040 ?_
  refine LW.arg (k := 1) hG (by omega) rfl dL_law_1041 dL_law_1042 dL_law_1043 dL_law_1044 dL_law_1045 ?_
  refine LW.cc (As := [.int (Int32.ofInt (xi xs (n + 1)))]) (rest := []) (d := 24) hG lm_X8_cancel ls_X8_cancel rfl (by decide) ⟨rfl, rfl⟩ (fun _ => rfl) (by decide) dL_law_1046 (by omega) ?_
  refine j_cancel xi_r hC.1 hP hC.2.1 (fun FC1 AC1 q1 q2 q3 q4 => ⟨_, _, _, rfl, rfl, ?_⟩)
  have hC1 := hC.ch q1 q2 q4
  refine LW.a2 hG dL_law_1049 ?_
  refine LW.arg (k := 1) hG (by omega) rfl dL_law_1050 dL_law_1051 dL_law_1052 dL_law_1053 dL_law_1054 ?_
  refine LW.cm (As := [.int (Int32.ofInt (xi xs (n + 1)))]) (rest := [.int _]) (d := 25) hG lm_X9_cancel ls_X9_cancel rfl (by decide) (by decide) (fun _ => rfl) (Nat.le_of_ble_eq_true rfl) dL_law_1055 ⟨by show cells + 0 ≤ _; omega, by show slots + 0 ≤ _; omega⟩ ?_
  refine q_cancel xi_r hM.1 hP hM.2.1 hM.2.2.2.2.2 (fun FM1 AM1 r1 r2 r3 => ⟨_, _, _, rfl, rfl, ?_⟩)
  simp only [Bool.false_eq_true, or_false, if_false] at r3
  have hM1 := hM.c r1 r2 r3
  refine LW.same hG dL_law_1058 (by decide) ?_
  exact LW.widen (Nat.add_le_add_left (by decide) _) (Nat.add_le_add_left (by decide) _) (hk _ _ _ _ ⟨_, _, _, _, _, q3, hC1, hM1⟩)
theorem case_setReserve (hG : lwAll p s m meth c b L xs dC dI dA locC locM) (hn : n + 5 ≤ L) (hc : cells + 200 ≤ 600000 ∧ slots + 2000 ≤ 7302250) (hR : Rel FC AC FM AM) (hk : ∀ FC1 AC1 FM1 AM1, Rel FC1 AC1 FM1 AM1 → LW p l e s m below meth c b dC dI dA locC locM 1441 n [] FC1 AC1 FM1 AM1 (cells + 200) (slots + 2000)) : LW p l e s m below meth c b dC dI dA locC locM 1063 n [] FC AC FM AM cells slots := by
  obtain ⟨P, H, S, E, X, hP, hC, hM⟩ := hR
  refine LW.a1 hG dL_law_1063 ?_
  refine LW.arg (k := 1) hG (by omega) rfl dL_law_1064 dL_law_1065 dL_law_1066 dL_law_1067 dL_law_1068 ?_
  refine LW.arg (k := 2) hG (by omega) rfl dL_law_1069 dL_law_1070 dL_law_1071 dL_law_1072 dL_law_1073 ?_
  refine LW.arg (k := 3) hG (by omega) rfl dL_law_1074 dL_law_1075 dL_law_1076 dL_law_1077 dL_law_1078 ?_
  refine LW.cc (As := [.int (Int32.ofInt (xi xs (n + 1))), .int (Int32.ofInt (xi xs (n + 2))), .int (Int32.ofInt (xi xs (n + 3)))]) (rest := []) (d := 24) hG lm_X8_setReserve ls_X8_setReserve rfl (by decide) ⟨rfl, rfl⟩ (fun _ => rfl) (by decide) dL_law_1079 (by omega) ?_
  refine j_setReserve xi_r xi_r xi_r hC.1 hP hC.2.1 (fun FC1 AC1 q1 q2 q4 => ⟨_, _, _, rfl, rfl, ?_⟩)
  have hC1 := hC.ch q1 q2 q4
  refine LW.a2 hG dL_law_1082 ?_
  refine LW.arg (k := 1) hG (by omega) rfl dL_law_1083 dL_law_1084 dL_law_1085 dL_law_1086 dL_law_1087 ?_
  refine LW.arg (k := 2) hG (by omega) rfl dL_law_1088 dL_law_1089 dL_law_1090 dL_law_1091 dL_law_1092 ?_
  refine LW.arg (k := 3) hG (by omega) rfl dL_law_1093 dL_law_1094 dL_law_1095 dL_law_1096 dL_law_1097 ?_
  refine LW.cm (As := [.int (Int32.ofInt (xi xs (n + 1))), .int (Int32.ofInt (xi xs (n + 2))), .int (Int32.ofInt (xi xs (n + 3)))]) (rest := [.int _]) (d := 24) hG lm_X9_setReserve ls_X9_setReserve rfl (by decide) (by decide) (fun _ => rfl) (Nat.le_of_ble_eq_true rfl) dL_law_1098 ⟨by show cells + 0 ≤ _; omega, by show slots + 0 ≤ _; omega⟩ ?_
  refine q_setReserve xi_r xi_r xi_r hM.1 hP hM.2.1 hM.2.2.2.2.2 (fun FM1 AM1 r1 r2 r3 => ⟨_, _, _, rfl, rfl, ?_⟩)
  simp only [Bool.false_eq_true, or_false, if_false] at r3
  have hM1 := hM.c r1 r2 r3
  refine LW.same hG dL_law_1101 (by decide) ?_
  exact LW.widen (Nat.add_le_add_left (by decide) _) (Nat.add_le_add_left (by decide) _) (hk _ _ _ _ ⟨_, _, _, _, _, (aRes_ok hP), hC1, hM1⟩)
theorem case_reserve (hG : lwAll p s m meth c b L xs dC dI dA locC locM) (hn : n + 5 ≤ L) (hc : cells + 200 ≤ 600000 ∧ slots + 2000 ≤ 7302250) (hR : Rel FC AC FM AM) (hk : ∀ FC1 AC1 FM1 AM1, Rel FC1 AC1 FM1 AM1 → LW p l e s m below meth c b dC dI dA locC locM 1441 n [] FC1 AC1 FM1 AM1 (cells + 200) (slots + 2000)) : LW p l e s m below meth c b dC dI dA locC locM 1106 n [] FC AC FM AM cells slots := by
  obtain ⟨P, H, S, E, X, hP, hC, hM⟩ := hR
  refine LW.a1 hG dL_law_1106 ?_
  refine LW.arg (k := 1) hG (by omega) rfl dL_law_1107 dL_law_1108 dL_law_1109 dL_law_1110 dL_law_1111 ?_
  refine LW.arg (k := 2) hG (by omega) rfl dL_law_1112 dL_law_1113 dL_law_1114 dL_law_1115 dL_law_1116 ?_
  refine LW.cc (As := [.int (Int32.ofInt (xi xs (n + 1))), .int (Int32.ofInt (xi xs (n + 2)))]) (rest := []) (d := 22) hG lm_X8_reserve ls_X8_reserve rfl (by decide) ⟨rfl, rfl⟩ (fun _ => rfl) (by decide) dL_law_1117 (by omega) ?_
  refine j_reserve xi_r xi_r hC.1 hP (fun FC1 AC1 q1 => ⟨_, _, _, rfl, rfl, ?_⟩)
  have hC1 := hC.cr q1
  refine LW.a2 hG dL_law_1120 ?_
  refine LW.arg (k := 1) hG (by omega) rfl dL_law_1121 dL_law_1122 dL_law_1123 dL_law_1124 dL_law_1125 ?_
  refine LW.arg (k := 2) hG (by omega) rfl dL_law_1126 dL_law_1127 dL_law_1128 dL_law_1129 dL_law_1130 ?_
  refine LW.cm (As := [.int (Int32.ofInt (xi xs (n + 1))), .int (Int32.ofInt (xi xs (n + 2)))]) (rest := [.int _]) (d := 23) hG lm_X9_reserve ls_X9_reserve rfl (by decide) (by decide) (fun _ => rfl) (Nat.le_of_ble_eq_true rfl) dL_law_1131 ⟨by show cells + 0 ≤ _; omega, by show slots + 0 ≤ _; omega⟩ ?_
  refine q_reserve xi_r xi_r hM.1 hP ⟨_, _, _, rfl, rfl, ?_⟩
  have hM1 := hM
  refine LW.same hG dL_law_1134 (by decide) ?_
  exact LW.widen (Nat.add_le_add_left (by decide) _) (Nat.add_le_add_left (by decide) _) (hk _ _ _ _ ⟨_, _, _, _, _, hP, hC1, hM1⟩)
theorem case_called (hG : lwAll p s m meth c b L xs dC dI dA locC locM) (hn : n + 5 ≤ L) (hc : cells + 200 ≤ 600000 ∧ slots + 2000 ≤ 7302250) (hR : Rel FC AC FM AM) (hk : ∀ FC1 AC1 FM1 AM1, Rel FC1 AC1 FM1 AM1 → LW p l e s m below meth c b dC dI dA locC locM 1441 n [] FC1 AC1 FM1 AM1 (cells + 200) (slots + 2000)) : LW p l e s m below meth c b dC dI dA locC locM 1139 n [] FC AC FM AM cells slots := by
  obtain ⟨P, H, S, E, X, hP, hC, hM⟩ := hR
  refine LW.a1 hG dL_law_1139 ?_
  refine LW.arg (k := 1) hG (by omega) rfl dL_law_1140 dL_law_1141 dL_law_1142 dL_law_1143 dL_law_1144 ?_
  refine LW.cc (As := [.int (Int32.ofInt (xi xs (n + 1)))]) (rest := []) (d := 26) hG lm_X8_called ls_X8_called rfl (by decide) ⟨rfl, rfl⟩ (fun _ => rfl) (by decide) dL_law_1145 (by omega) ?_
  refine j_called xi_r hC.1 hP (fun FC1 AC1 q1 => ⟨_, _, _, rfl, rfl, ?_⟩)
  have hC1 := hC.cr q1
  refine LW.a2 hG dL_law_1148 ?_
  refine LW.arg (k := 1) hG (by omega) rfl dL_law_1149 dL_law_1150 dL_law_1151 dL_law_1152 dL_law_1153 ?_
  refine LW.cm (As := [.int (Int32.ofInt (xi xs (n + 1)))]) (rest := [.int _]) (d := 31) hG lm_X9_called ls_X9_called rfl (by decide) (by decide) (fun _ => rfl) (Nat.le_of_ble_eq_true rfl) dL_law_1154 ⟨by show cells + 0 ≤ _; omega, by show slots + 0 ≤ _; omega⟩ ?_
  refine q_called xi_r hM.1 hP (fun FM1 AM1 r1 => ⟨_, _, _, rfl, rfl, ?_⟩)
  have hM1 := hM.m r1
  refine LW.same hG dL_law_1157 (by decide) ?_
  exact LW.widen (Nat.add_le_add_left (by decide) _) (Nat.add_le_add_left (by decide) _) (hk _ _ _ _ ⟨_, _, _, _, _, hP, hC1, hM1⟩)
theorem case_pair (hG : lwAll p s m meth c b L xs dC dI dA locC locM) (hn : n + 5 ≤ L) (hc : cells + 200 ≤ 600000 ∧ slots + 2000 ≤ 7302250) (hR : Rel FC AC FM AM) (hk : ∀ FC1 AC1 FM1 AM1, Rel FC1 AC1 FM1 AM1 → LW p l e s m below meth c b dC dI dA locC locM 1441 n [] FC1 AC1 FM1 AM1 (cells + 200) (slots + 2000)) : LW p l e s m below meth c b dC dI dA locC locM 1162 n [] FC AC FM AM cells slots := by
  obtain ⟨P, H, S, E, X, hP, hC, hM⟩ := hR
  refine LW.a1 hG dL_law_1162 ?_
  refine LW.cc (As := []) (rest := []) (d := 27) hG lm_X8_pair ls_X8_pair rfl (by decide) ⟨rfl, rfl⟩ (fun _ => rfl) (by decide) dL_law_1163 (by omega) ?_
  refine j_pair hC.1 hP hC.2.1 (fun FC1 AC1 q1 q2 q3 q4 => ⟨_, _, _, rfl, rfl, ?_⟩)
  have hC1 := hC.ch q1 q2 q4
  refine LW.a2 hG dL_law_1166 ?_
  refine LW.cm (As := []) (rest := [.int _]) (d := 32) hG lm_X9_pair ls_X9_pair rfl (by decide) (by decide) (fun _ => rfl) (Nat.le_of_ble_eq_true rfl) dL_law_1167 ⟨by show cells + 0 ≤ _; omega, by show slots + 0 ≤ _; omega⟩ ?_
  refine q_pair hM.1 hP hM.2.1 hM.2.2.2.2.2 (fun FM1 AM1 r1 r2 r4 r3 => ⟨_, _, _, rfl, rfl, ?_⟩)
  simp only [Bool.false_eq_true, or_false, if_false] at r3
  have hM1 := hM.c r1 r2 r3
  refine LW.same hG dL_law_1170 (by decide) ?_
  exact LW.widen (Nat.add_le_add_left (by decide) _) (Nat.add_le_add_left (by decide) _) (hk _ _ _ _ ⟨_, _, _, _, _, q3, hC1, hM1⟩)
theorem case_offer (hG : lwAll p s m meth c b L xs dC dI dA locC locM) (hn : n + 5 ≤ L) (hc : cells + 200 ≤ 600000 ∧ slots + 2000 ≤ 7302250) (hR : Rel FC AC FM AM) (hk : ∀ FC1 AC1 FM1 AM1, Rel FC1 AC1 FM1 AM1 → LW p l e s m below meth c b dC dI dA locC locM 1441 n [] FC1 AC1 FM1 AM1 (cells + 200) (slots + 2000)) : LW p l e s m below meth c b dC dI dA locC locM 1175 n [] FC AC FM AM cells slots := by
  obtain ⟨P, H, S, E, X, hP, hC, hM⟩ := hR
  refine LW.a1 hG dL_law_1175 ?_
  refine LW.arg (k := 1) hG (by omega) rfl dL_law_1176 dL_law_1177 dL_law_1178 dL_law_1179 dL_law_1180 ?_
  refine LW.arg (k := 2) hG (by omega) rfl dL_law_1181 dL_law_1182 dL_law_1183 dL_law_1184 dL_law_1185 ?_
  refine LW.cc (As := [.int (Int32.ofInt (xi xs (n + 1))), .int (Int32.ofInt (xi xs (n + 2)))]) (rest := []) (d := 26) hG lm_X8_offer ls_X8_offer rfl (by decide) ⟨rfl, rfl⟩ (fun _ => rfl) (by decide) dL_law_1186 (by omega) ?_
  refine j_offer xi_r xi_r hC.1 hP (fun FC1 AC1 q1 => ⟨_, _, _, rfl, rfl, ?_⟩)
  have hC1 := hC.ob q1
  refine LW.a2 hG dL_law_1189 ?_
  refine LW.arg (k := 1) hG (by omega) rfl dL_law_1190 dL_law_1191 dL_law_1192 dL_law_1193 dL_law_1194 ?_
  refine LW.arg (k := 2) hG (by omega) rfl dL_law_1195 dL_law_1196 dL_law_1197 dL_law_1198 dL_law_1199 ?_
  refine LW.cm (As := [.int (Int32.ofInt (xi xs (n + 1))), .int (Int32.ofInt (xi xs (n + 2)))]) (rest := [.int _]) (d := 32) hG lm_X9_offer ls_X9_offer rfl (by decide) (by decide) (fun _ => rfl) (Nat.le_of_ble_eq_true rfl) dL_law_1200 ⟨by show cells + 0 ≤ _; omega, by show slots + 0 ≤ _; omega⟩ ?_
  refine q_offer xi_r xi_r hM.1 hP (fun FM1 AM1 r1 => ⟨_, _, _, rfl, rfl, ?_⟩)
  have hM1 := hM.m r1
  refine LW.same hG dL_law_1203 (by decide) ?_
  exact LW.widen (Nat.add_le_add_left (by decide) _) (Nat.add_le_add_left (by decide) _) (hk _ _ _ _ ⟨_, _, _, _, _, hP, hC1, hM1⟩)
theorem case_repair (hG : lwAll p s m meth c b L xs dC dI dA locC locM) (hn : n + 5 ≤ L) (hc : cells + 200 ≤ 600000 ∧ slots + 2000 ≤ 7302250) (hR : Rel FC AC FM AM) (hk : ∀ FC1 AC1 FM1 AM1, Rel FC1 AC1 FM1 AM1 → LW p l e s m below meth c b dC dI dA locC locM 1441 n [] FC1 AC1 FM1 AM1 (cells + 200) (slots + 2000)) : LW p l e s m below meth c b dC dI dA locC locM 1208 n [] FC AC FM AM cells slots := by
  obtain ⟨P, H, S, E, X, hP, hC, hM⟩ := hR
  refine LW.a1 hG dL_law_1208 ?_
  refine LW.cc (As := []) (rest := []) (d := 27) hG lm_X8_repair ls_X8_repair rfl (by decide) ⟨rfl, rfl⟩ (fun _ => rfl) (by decide) dL_law_1209 (by omega) ?_
  refine j_repair hC.1 hP hC.2.1 (fun FC1 AC1 q1 q2 q3 q4 q5 => ⟨_, _, _, rfl, rfl, ?_⟩)
  have hC1 := hC.rep q1 q2 q4 q5
  refine LW.a2 hG dL_law_1212 ?_
  refine LW.cm (As := []) (rest := [.int _]) (d := 33) hG lm_X9_repair ls_X9_repair rfl (by decide) (by decide) (fun _ => rfl) (Nat.le_of_ble_eq_true rfl) dL_law_1213 ⟨by show cells + 0 ≤ _; omega, by show slots + 0 ≤ _; omega⟩ ?_
  refine q_repair hM.1 hP hM.2.1 hM.2.2.2.2.2 (fun FM1 AM1 r1 r2 r3 r4 r5 r6 => ⟨_, _, _, rfl, rfl, ?_⟩)
  simp only [Bool.false_eq_true, or_false, if_false] at r6
  have hM1 := hM.rep r1 r2 r3 r5 r6
  refine LW.same hG dL_law_1216 (by decide) ?_
  exact LW.widen (Nat.add_le_add_left (by decide) _) (Nat.add_le_add_left (by decide) _) (hk _ _ _ _ ⟨_, _, _, _, _, q3, hC1, hM1⟩)
theorem case_repaired (hG : lwAll p s m meth c b L xs dC dI dA locC locM) (hn : n + 5 ≤ L) (hc : cells + 200 ≤ 600000 ∧ slots + 2000 ≤ 7302250) (hR : Rel FC AC FM AM) (hk : ∀ FC1 AC1 FM1 AM1, Rel FC1 AC1 FM1 AM1 → LW p l e s m below meth c b dC dI dA locC locM 1441 n [] FC1 AC1 FM1 AM1 (cells + 200) (slots + 2000)) : LW p l e s m below meth c b dC dI dA locC locM 1221 n [] FC AC FM AM cells slots := by
  obtain ⟨P, H, S, E, X, hP, hC, hM⟩ := hR
  refine LW.a1 hG dL_law_1221 ?_
  refine LW.arg (k := 1) hG (by omega) rfl dL_law_1222 dL_law_1223 dL_law_1224 dL_law_1225 dL_law_1226 ?_
  refine LW.arg (k := 2) hG (by omega) rfl dL_law_1227 dL_law_1228 dL_law_1229 dL_law_1230 dL_law_1231 ?_
  refine LW.cc (As := [.int (Int32.ofInt (xi xs (n + 1))), .int (Int32.ofInt (xi xs (n + 2)))]) (rest := []) (d := 22) hG lm_X8_repaired ls_X8_repaired rfl (by decide) ⟨rfl, rfl⟩ (fun _ => rfl) (by decide) dL_law_1232 (by omega) ?_
  refine j_repaired xi_r xi_r hC.2.2.2.1 ⟨_, _, _, rfl, rfl, ?_⟩
  have hC1 := hC
  refine LW.a2 hG dL_law_1235 ?_
  refine LW.arg (k := 1) hG (by omega) rfl dL_law_1236 dL_law_1237 dL_law_1238 dL_law_1239 dL_law_1240 ?_
  refine LW.arg (k := 2) hG (by omega) rfl dL_law_1241 dL_law_1242 dL_law_1243 dL_law_1244 dL_law_1245 ?_
  refine LW.cm (As := [.int (Int32.ofInt (xi xs (n + 1))), .int (Int32.ofInt (xi xs (n + 2)))]) (rest := [.int _]) (d := 22) hG lm_X9_repaired ls_X9_repaired rfl (by decide) (by decide) (fun _ => rfl) (Nat.le_of_ble_eq_true rfl) dL_law_1246 ⟨by show cells + 0 ≤ _; omega, by show slots + 0 ≤ _; omega⟩ ?_
  refine q_repaired xi_r xi_r hM.2.2.2.1.me ⟨_, _, _, rfl, rfl, ?_⟩
  have hM1 := hM
  refine LW.same hG dL_law_1249 (by decide) ?_
  exact LW.widen (Nat.add_le_add_left (by decide) _) (Nat.add_le_add_left (by decide) _) (hk _ _ _ _ ⟨_, _, _, _, _, hP, hC1, hM1⟩)
theorem case_bestMinutes (hG : lwAll p s m meth c b L xs dC dI dA locC locM) (hn : n + 5 ≤ L) (hc : cells + 200 ≤ 600000 ∧ slots + 2000 ≤ 7302250) (hR : Rel FC AC FM AM) (hk : ∀ FC1 AC1 FM1 AM1, Rel FC1 AC1 FM1 AM1 → LW p l e s m below meth c b dC dI dA locC locM 1441 n [] FC1 AC1 FM1 AM1 (cells + 200) (slots + 2000)) : LW p l e s m below meth c b dC dI dA locC locM 1254 n [] FC AC FM AM cells slots := by
  obtain ⟨P, H, S, E, X, hP, hC, hM⟩ := hR
  refine LW.a1 hG dL_law_1254 ?_
  refine LW.arg (k := 1) hG (by omega) rfl dL_law_1255 dL_law_1256 dL_law_1257 dL_law_1258 dL_law_1259 ?_
  refine LW.cc (As := [.int (Int32.ofInt (xi xs (n + 1)))]) (rest := []) (d := 32) hG lm_X8_bestMinutes ls_X8_bestMinutes rfl (by decide) ⟨rfl, rfl⟩ (fun _ => rfl) (by decide) dL_law_1260 (by omega) ?_
  refine j_bestMinutes xi_r hC.1 hP (fun FC1 AC1 q1 => ⟨_, _, _, rfl, rfl, ?_⟩)
  have hC1 := hC.sb q1
  refine LW.a2 hG dL_law_1263 ?_
  refine LW.arg (k := 1) hG (by omega) rfl dL_law_1264 dL_law_1265 dL_law_1266 dL_law_1267 dL_law_1268 ?_
  refine LW.cm (As := [.int (Int32.ofInt (xi xs (n + 1)))]) (rest := [.int _]) (d := 36) hG lm_X9_bestMinutes ls_X9_bestMinutes rfl (by decide) (by decide) (fun _ => rfl) (Nat.le_of_ble_eq_true rfl) dL_law_1269 ⟨by show cells + 0 ≤ _; omega, by show slots + 0 ≤ _; omega⟩ ?_
  refine q_bestMinutes xi_r hM.1 hP (fun FM1 AM1 r1 => ⟨_, _, _, rfl, rfl, ?_⟩)
  have hM1 := hM.m r1
  refine LW.same hG dL_law_1272 (by decide) ?_
  exact LW.widen (Nat.add_le_add_left (by decide) _) (Nat.add_le_add_left (by decide) _) (hk _ _ _ _ ⟨_, _, _, _, _, hP, hC1, hM1⟩)
theorem case_bestLeg (hG : lwAll p s m meth c b L xs dC dI dA locC locM) (hn : n + 5 ≤ L) (hc : cells + 200 ≤ 600000 ∧ slots + 2000 ≤ 7302250) (hR : Rel FC AC FM AM) (hk : ∀ FC1 AC1 FM1 AM1, Rel FC1 AC1 FM1 AM1 → LW p l e s m below meth c b dC dI dA locC locM 1441 n [] FC1 AC1 FM1 AM1 (cells + 200) (slots + 2000)) : LW p l e s m below meth c b dC dI dA locC locM 1277 n [] FC AC FM AM cells slots := by
  obtain ⟨P, H, S, E, X, hP, hC, hM⟩ := hR
  refine LW.a1 hG dL_law_1277 ?_
  refine LW.arg (k := 1) hG (by omega) rfl dL_law_1278 dL_law_1279 dL_law_1280 dL_law_1281 dL_law_1282 ?_
  refine LW.arg (k := 2) hG (by omega) rfl dL_law_1283 dL_law_1284 dL_law_1285 dL_law_1286 dL_law_1287 ?_
  refine LW.cc (As := [.int (Int32.ofInt (xi xs (n + 1))), .int (Int32.ofInt (xi xs (n + 2)))]) (rest := []) (d := 32) hG lm_X8_bestLeg ls_X8_bestLeg rfl (by decide) ⟨rfl, rfl⟩ (fun _ => rfl) (by decide) dL_law_1288 (by omega) ?_
  refine j_bestLeg xi_r xi_r hC.1 hP (fun FC1 AC1 q1 => ⟨_, _, _, rfl, rfl, ?_⟩)
  have hC1 := hC.sb q1
  refine LW.a2 hG dL_law_1291 ?_
  refine LW.arg (k := 1) hG (by omega) rfl dL_law_1292 dL_law_1293 dL_law_1294 dL_law_1295 dL_law_1296 ?_
  refine LW.arg (k := 2) hG (by omega) rfl dL_law_1297 dL_law_1298 dL_law_1299 dL_law_1300 dL_law_1301 ?_
  refine LW.cm (As := [.int (Int32.ofInt (xi xs (n + 1))), .int (Int32.ofInt (xi xs (n + 2)))]) (rest := [.int _]) (d := 36) hG lm_X9_bestLeg ls_X9_bestLeg rfl (by decide) (by decide) (fun _ => rfl) (Nat.le_of_ble_eq_true rfl) dL_law_1302 ⟨by show cells + 0 ≤ _; omega, by show slots + 0 ≤ _; omega⟩ ?_
  refine q_bestLeg xi_r xi_r hM.1 hP (fun FM1 AM1 r1 => ⟨_, _, _, rfl, rfl, ?_⟩)
  have hM1 := hM.m r1
  refine LW.same hG dL_law_1305 (by decide) ?_
  exact LW.widen (Nat.add_le_add_left (by decide) _) (Nat.add_le_add_left (by decide) _) (hk _ _ _ _ ⟨_, _, _, _, _, hP, hC1, hM1⟩)
theorem case_takeBest (hG : lwAll p s m meth c b L xs dC dI dA locC locM) (hn : n + 5 ≤ L) (hc : cells + 200 ≤ 600000 ∧ slots + 2000 ≤ 7302250) (hR : Rel FC AC FM AM) (hk : ∀ FC1 AC1 FM1 AM1, Rel FC1 AC1 FM1 AM1 → LW p l e s m below meth c b dC dI dA locC locM 1441 n [] FC1 AC1 FM1 AM1 (cells + 200) (slots + 2000)) : LW p l e s m below meth c b dC dI dA locC locM 1310 n [] FC AC FM AM cells slots := by
  obtain ⟨P, H, S, E, X, hP, hC, hM⟩ := hR
  refine LW.a1 hG dL_law_1310 ?_
  refine LW.arg (k := 1) hG (by omega) rfl dL_law_1311 dL_law_1312 dL_law_1313 dL_law_1314 dL_law_1315 ?_
  refine LW.cc (As := [.int (Int32.ofInt (xi xs (n + 1)))]) (rest := []) (d := 33) hG lm_X8_takeBest ls_X8_takeBest rfl (by decide) ⟨rfl, rfl⟩ (fun _ => rfl) (by decide) dL_law_1316 (by omega) ?_
  refine j_takeBest xi_r hC.1 hP hC.2.1 (fun FC1 AC1 q1 q2 q3 q4 => ⟨_, _, _, rfl, rfl, ?_⟩)
  have hC1 := hC.ch q1 q2 q4
  refine LW.a2 hG dL_law_1319 ?_
  refine LW.arg (k := 1) hG (by omega) rfl dL_law_1320 dL_law_1321 dL_law_1322 dL_law_1323 dL_law_1324 ?_
  refine LW.cm (As := [.int (Int32.ofInt (xi xs (n + 1)))]) (rest := [.int _]) (d := 36) hG lm_X9_takeBest ls_X9_takeBest rfl (by decide) (by decide) (fun _ => rfl) (Nat.le_of_ble_eq_true rfl) dL_law_1325 ⟨by show cells + 0 ≤ _; omega, by show slots + 0 ≤ _; omega⟩ ?_
  refine q_takeBest xi_r hM.1 hP hM.2.1 hM.2.2.2.2.2 (fun FM1 AM1 r1 r2 r4 r3 => ⟨_, _, _, rfl, rfl, ?_⟩)
  simp only [Bool.false_eq_true, or_false, if_false] at r3
  have hM1 := hM.c r1 r2 r3
  refine LW.same hG dL_law_1328 (by decide) ?_
  exact LW.widen (Nat.add_le_add_left (by decide) _) (Nat.add_le_add_left (by decide) _) (hk _ _ _ _ ⟨_, _, _, _, _, q3, hC1, hM1⟩)
theorem case_letter (hG : lwAll p s m meth c b L xs dC dI dA locC locM) (hn : n + 5 ≤ L) (hc : cells + 200 ≤ 600000 ∧ slots + 2000 ≤ 7302250) (hR : Rel FC AC FM AM) (hk : ∀ FC1 AC1 FM1 AM1, Rel FC1 AC1 FM1 AM1 → LW p l e s m below meth c b dC dI dA locC locM 1441 n [] FC1 AC1 FM1 AM1 (cells + 200) (slots + 2000)) : LW p l e s m below meth c b dC dI dA locC locM 1333 n [] FC AC FM AM cells slots := by
  obtain ⟨P, H, S, E, X, hP, hC, hM⟩ := hR
  refine LW.a1 hG dL_law_1333 ?_
  refine LW.arg (k := 1) hG (by omega) rfl dL_law_1334 dL_law_1335 dL_law_1336 dL_law_1337 dL_law_1338 ?_
  refine LW.arg (k := 2) hG (by omega) rfl dL_law_1339 dL_law_1340 dL_law_1341 dL_law_1342 dL_law_1343 ?_
  refine LW.cc (As := [.int (Int32.ofInt (xi xs (n + 1))), .int (Int32.ofInt (xi xs (n + 2)))]) (rest := []) (d := 26) hG lm_X8_letter ls_X8_letter rfl (by decide) ⟨rfl, rfl⟩ (fun _ => rfl) (by decide) dL_law_1344 (by omega) ?_
  refine j_letter xi_r xi_r hC.1 hP (fun FC1 AC1 q1 => ⟨_, _, _, rfl, rfl, ?_⟩)
  have hC1 := hC.rp q1
  refine LW.a2 hG dL_law_1347 ?_
  refine LW.arg (k := 1) hG (by omega) rfl dL_law_1348 dL_law_1349 dL_law_1350 dL_law_1351 dL_law_1352 ?_
  refine LW.arg (k := 2) hG (by omega) rfl dL_law_1353 dL_law_1354 dL_law_1355 dL_law_1356 dL_law_1357 ?_
  refine LW.cm (As := [.int (Int32.ofInt (xi xs (n + 1))), .int (Int32.ofInt (xi xs (n + 2)))]) (rest := [.int _]) (d := 26) hG lm_X9_letter ls_X9_letter rfl (by decide) (by decide) (fun _ => rfl) (Nat.le_of_ble_eq_true rfl) dL_law_1358 ⟨by show cells + 0 ≤ _; omega, by show slots + 0 ≤ _; omega⟩ ?_
  refine q_letter xi_r xi_r hM.1 hP (fun FM1 AM1 r1 => ⟨_, _, _, rfl, rfl, ?_⟩)
  have hM1 := hM.m r1
  refine LW.same hG dL_law_1361 (by decide) ?_
  exact LW.widen (Nat.add_le_add_left (by decide) _) (Nat.add_le_add_left (by decide) _) (hk _ _ _ _ ⟨_, _, _, _, _, hP, hC1, hM1⟩)
theorem case_feed (hG : lwAll p s m meth c b L xs dC dI dA locC locM) (hn : n + 5 ≤ L) (hc : cells + 200 ≤ 600000 ∧ slots + 2000 ≤ 7302250) (hR : Rel FC AC FM AM) (hk : ∀ FC1 AC1 FM1 AM1, Rel FC1 AC1 FM1 AM1 → LW p l e s m below meth c b dC dI dA locC locM 1441 n [] FC1 AC1 FM1 AM1 (cells + 200) (slots + 2000)) : LW p l e s m below meth c b dC dI dA locC locM 1366 n [] FC AC FM AM cells slots := by
  obtain ⟨P, H, S, E, X, hP, hC, hM⟩ := hR
  refine LW.a1 hG dL_law_1366 ?_
  refine LW.arg (k := 1) hG (by omega) rfl dL_law_1367 dL_law_1368 dL_law_1369 dL_law_1370 dL_law_1371 ?_
  refine LW.cc (As := [.int (Int32.ofInt (xi xs (n + 1)))]) (rest := []) (d := 22) hG lm_X8_feed ls_X8_feed rfl (by decide) ⟨rfl, rfl⟩ (fun _ => rfl) (by decide) dL_law_1372 (by omega) ?_
  refine j_feed xi_r hC.2.2.2.2 (fun FC1 AC1 q1 q2 q3 => ⟨_, _, _, rfl, rfl, ?_⟩)
  have hC1 := hC.feed q1 q2 q3
  refine LW.a2 hG dL_law_1375 ?_
  refine LW.arg (k := 1) hG (by omega) rfl dL_law_1376 dL_law_1377 dL_law_1378 dL_law_1379 dL_law_1380 ?_
  refine LW.cm (As := [.int (Int32.ofInt (xi xs (n + 1)))]) (rest := [.int _]) (d := 22) hG lm_X9_feed ls_X9_feed rfl (by decide) (by decide) (fun _ => rfl) (Nat.le_of_ble_eq_true rfl) dL_law_1381 ⟨by show cells + 0 ≤ _; omega, by show slots + 0 ≤ _; omega⟩ ?_
  refine q_feed xi_r hM.2.2.2.2.1 (fun FM1 AM1 r1 r2 r3 => ⟨_, _, _, rfl, rfl, ?_⟩)
  have hM1 := hM.feed r1 r2 r3
  refine LW.same hG dL_law_1384 (by decide) ?_
  exact LW.widen (Nat.add_le_add_left (by decide) _) (Nat.add_le_add_left (by decide) _) (hk _ _ _ _ ⟨_, _, _, _, _, hP, hC1, hM1⟩)
theorem case_execute (hG : lwAll p s m meth c b L xs dC dI dA locC locM) (hn : n + 5 ≤ L) (hc : cells + 200 ≤ 600000 ∧ slots + 2000 ≤ 7302250) (hR : Rel FC AC FM AM) (hk : ∀ FC1 AC1 FM1 AM1, Rel FC1 AC1 FM1 AM1 → LW p l e s m below meth c b dC dI dA locC locM 1441 n [] FC1 AC1 FM1 AM1 (cells + 200) (slots + 2000)) : LW p l e s m below meth c b dC dI dA locC locM 1389 n [] FC AC FM AM cells slots := by
  obtain ⟨P, H, S, E, X, hP, hC, hM⟩ := hR
  refine LW.a1 hG dL_law_1389 ?_
  refine LW.cc (As := []) (rest := []) (d := 28) hG lm_X8_execute ls_X8_execute rfl (by decide) ⟨rfl, rfl⟩ (fun _ => rfl) (by decide) dL_law_1390 (by omega) ?_
  refine j_execute hC.1 hP hC.2.1 hC.2.2.2.1 hC.2.2.2.2 (fun FC1 AC1 q1 q2 q3 q4 q5 q6 => ⟨_, _, _, rfl, rfl, ?_⟩)
  have hC1 := hC.exec q1 q2 q4 q5 q6
  refine LW.a2 hG dL_law_1393 ?_
  refine LW.cm (As := []) (rest := [.int _]) (d := 36) hG lm_X9_execute ls_X9_execute rfl (by decide) (by decide) (fun _ => rfl) (Nat.le_of_ble_eq_true rfl) dL_law_1394 ⟨hc.1, hc.2⟩ ?_
  refine q_execute hM.1 hP hM.2.1 hM.2.2.2.1 hM.2.2.2.2.1 hM.2.2.2.2.2 (fun FM1 AM1 r1 r2 r3 r4 r5 r6 r7 r8 => ⟨_, _, _, rfl, rfl, ?_⟩)
  have hM1 := hM.exec r1 r2 r3 r4 r6 r7 r8
  refine LW.same hG dL_law_1397 (by decide) ?_
  exact LW.widen (Nat.add_le_add_left (by decide) _) (Nat.add_le_add_left (by decide) _) (hk _ _ _ _ ⟨_, _, _, _, _, q3, hC1, hM1⟩)
theorem case_save (hG : lwAll p s m meth c b L xs dC dI dA locC locM) (hn : n + 5 ≤ L) (hc : cells + 200 ≤ 600000 ∧ slots + 2000 ≤ 7302250) (hR : Rel FC AC FM AM) (hk : ∀ FC1 AC1 FM1 AM1, Rel FC1 AC1 FM1 AM1 → LW p l e s m below meth c b dC dI dA locC locM 1441 n [] FC1 AC1 FM1 AM1 (cells + 200) (slots + 2000)) : LW p l e s m below meth c b dC dI dA locC locM 1402 n [] FC AC FM AM cells slots := by
  obtain ⟨P, H, S, E, X, hP, hC, hM⟩ := hR
  refine LW.a1 hG dL_law_1402 ?_
  refine LW.cc (As := []) (rest := []) (d := 22) hG lm_X8_save ls_X8_save rfl (by decide) ⟨rfl, rfl⟩ (fun _ => rfl) (by decide) dL_law_1403 (by omega) ?_
  refine j_save hC.1 hP (fun FC1 AC1 q1 q2 q3 q4 => ⟨_, _, _, rfl, rfl, ?_⟩)
  have hC1 := hC.save q1 q2 q3 q4
  refine LW.a2 hG dL_law_1406 ?_
  refine LW.cm (As := []) (rest := [.int _]) (d := 22) hG lm_X9_save ls_X9_save rfl (by decide) (by decide) (fun _ => rfl) (Nat.le_of_ble_eq_true rfl) dL_law_1407 ⟨by show cells + 0 ≤ _; omega, by show slots + 0 ≤ _; omega⟩ ?_
  refine q_save hM.1 hP (fun FM1 AM1 r1 r2 r3 => ⟨_, _, _, rfl, rfl, ?_⟩)
  have hM1 := hM.save r1 r2 r3
  refine LW.same hG dL_law_1410 (by decide) ?_
  exact LW.widen (Nat.add_le_add_left (by decide) _) (Nat.add_le_add_left (by decide) _) (hk _ _ _ _ ⟨_, _, _, _, _, hP, hC1, hM1⟩)
theorem case_restore (hG : lwAll p s m meth c b L xs dC dI dA locC locM) (hn : n + 5 ≤ L) (hc : cells + 200 ≤ 600000 ∧ slots + 2000 ≤ 7302250) (hR : Rel FC AC FM AM) (hk : ∀ FC1 AC1 FM1 AM1, Rel FC1 AC1 FM1 AM1 → LW p l e s m below meth c b dC dI dA locC locM 1441 n [] FC1 AC1 FM1 AM1 (cells + 200) (slots + 2000)) : LW p l e s m below meth c b dC dI dA locC locM 1415 n [] FC AC FM AM cells slots := by
  obtain ⟨P, H, S, E, X, hP, hC, hM⟩ := hR
  refine LW.a1 hG dL_law_1415 ?_
  refine LW.cc (As := []) (rest := []) (d := 24) hG lm_X8_restore ls_X8_restore rfl (by decide) ⟨rfl, rfl⟩ (fun _ => rfl) (by decide) dL_law_1416 (by omega) ?_
  refine j_restore hC.1 hP hC.2.1 hC.2.2.1 (fun FC1 AC1 q1 q2 q3 q4 => ⟨_, _, _, rfl, rfl, ?_⟩)
  have hC1 := hC.ch q1 q2 q4
  refine LW.a2 hG dL_law_1419 ?_
  refine LW.cm (As := []) (rest := [.int _]) (d := 23) hG lm_X9_restore ls_X9_restore rfl (by decide) (by decide) (fun _ => rfl) (Nat.le_of_ble_eq_true rfl) dL_law_1420 ⟨by show cells + 0 ≤ _; omega, by show slots + 0 ≤ _; omega⟩ ?_
  refine q_restore hM.1 hP hM.2.1 hM.2.2.1 hM.2.2.2.2.2 (fun FM1 AM1 r1 r2 r3 => ⟨_, _, _, rfl, rfl, ?_⟩)
  simp only [Bool.false_eq_true, or_false, if_false] at r3
  have hM1 := hM.c r1 r2 r3
  refine LW.same hG dL_law_1423 (by decide) ?_
  exact LW.widen (Nat.add_le_add_left (by decide) _) (Nat.add_le_add_left (by decide) _) (hk _ _ _ _ ⟨_, _, _, _, _, q3, hC1, hM1⟩)
theorem case_undo (hG : lwAll p s m meth c b L xs dC dI dA locC locM) (hn : n + 5 ≤ L) (hc : cells + 200 ≤ 600000 ∧ slots + 2000 ≤ 7302250) (hR : Rel FC AC FM AM) (hk : ∀ FC1 AC1 FM1 AM1, Rel FC1 AC1 FM1 AM1 → LW p l e s m below meth c b dC dI dA locC locM 1441 n [] FC1 AC1 FM1 AM1 (cells + 200) (slots + 2000)) : LW p l e s m below meth c b dC dI dA locC locM 1428 n [] FC AC FM AM cells slots := by
  obtain ⟨P, H, S, E, X, hP, hC, hM⟩ := hR
  refine LW.a1 hG dL_law_1428 ?_
  refine LW.cc (As := []) (rest := []) (d := 23) hG lm_X8_undo ls_X8_undo rfl (by decide) ⟨rfl, rfl⟩ (fun _ => rfl) (by decide) dL_law_1429 (by omega) ?_
  refine j_undo hC.1 hP hC.2.1 (fun FC1 AC1 q1 q2 q3 q4 => ⟨_, _, _, rfl, rfl, ?_⟩)
  have hC1 := hC.ch q1 q2 q4
  refine LW.a2 hG dL_law_1432 ?_
  refine LW.cm (As := []) (rest := [.int _]) (d := 22) hG lm_X9_undo ls_X9_undo rfl (by decide) (by decide) (fun _ => rfl) (Nat.le_of_ble_eq_true rfl) dL_law_1433 ⟨by show cells + 0 ≤ _; omega, by show slots + 0 ≤ _; omega⟩ ?_
  refine q_undo hM.1 hP hM.2.1 (fun FM1 AM1 r1 r2 r3 => ⟨_, _, _, rfl, rfl, ?_⟩)
  have hM1 := hM.c r1 r2 r3
  refine LW.same hG dL_law_1436 (by decide) ?_
  exact LW.widen (Nat.add_le_add_left (by decide) _) (Nat.add_le_add_left (by decide) _) (hk _ _ _ _ ⟨_, _, _, _, _, q3, hC1, hM1⟩)
end ZLC
