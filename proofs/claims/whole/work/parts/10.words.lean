theorem kw_50 : (Jvm.Cond.fieldLink "TaylorModels$Model" (25 : Nat) "TaylorModels$Model" "high" "J") ∈ FW := fw_ix 96 (by decide +kernel) rfl
theorem kw_47 : (Jvm.Cond.fieldLink "TaylorModels$Model" (21 : Nat) "TaylorModels$Model" "low" "J") ∈ FW := fw_ix 93 (by decide +kernel) rfl
theorem kw_45 : (Jvm.Cond.fieldLink "TaylorModels$Model" (9 : Nat) "TaylorModels$Model" "coefficients" "[J") ∈ FW := fw_ix 91 (by decide +kernel) rfl
theorem kw_530 : (Jvm.Cond.constantLong "TaylorModels$Model" (58 : Nat) (-100000000 : Int64)) ∈ FW := fw_ix 576 (by decide +kernel) rfl
theorem kw_531 : (Jvm.Cond.constantLong "TaylorModels$Model" (60 : Nat) (100000000 : Int64)) ∈ FW := fw_ix 577 (by decide +kernel) rfl
theorem kw_517 : (Jvm.Cond.methodLink "TaylorModels" (264 : Nat) ({ cls := "java/lang/Math", name := "min", desc := "(JJ)J" } : Jvm.MethodName)) ∈ FW := fw_ix 563 (by decide +kernel) rfl
theorem kw_518 : (Jvm.Cond.static ({ cls := "java/lang/Math", name := "min", desc := "(JJ)J" } : Jvm.MethodName)) ∈ FW := fw_ix 564 (by decide +kernel) rfl
theorem kw_19 : (Jvm.Cond.initialized "java/lang/Math") ∈ FW := fw_ix 65 (by decide +kernel) rfl
theorem kw_519 : (Jvm.Cond.code ({ cls := "java/lang/Math", name := "min", desc := "(JJ)J" } : Jvm.MethodName) prog_18_method_70_code (4 : Nat) (Option.some Jvm.ClassFile.FieldType.long)) ∈ FW := fw_ix 565 (by decide +kernel) rfl
theorem kw_506 : (Jvm.Cond.fieldLinkNest "TaylorModels$Model" (50 : Nat) "TaylorModels" "LOWEST" "[I" "TaylorModels") ∈ FW := fw_ix 552 (by decide +kernel) rfl
theorem kw_569 : (Jvm.Cond.methodLink "TaylorModels$Model" (62 : Nat) ({ cls := "java/lang/Math", name := "min", desc := "(JJ)J" } : Jvm.MethodName)) ∈ FW := fw_ix 615 (by decide +kernel) rfl
theorem kw_108 : (Jvm.Cond.laysFinal "TaylorModels$Arithmetic" "TaylorModels$Arithmetic" "products" "[J") ∈ FW := fw_ix 154 (by decide +kernel) rfl
theorem kw_110 : (Jvm.Cond.lays "TaylorModels$Arithmetic" "TaylorModels$Arithmetic" "low" "J") ∈ FW := fw_ix 156 (by decide +kernel) rfl
theorem kw_112 : (Jvm.Cond.lays "TaylorModels$Arithmetic" "TaylorModels$Arithmetic" "high" "J") ∈ FW := fw_ix 158 (by decide +kernel) rfl
theorem kw_114 : (Jvm.Cond.laysFinal "TaylorModels$Arithmetic" "TaylorModels$Arithmetic" "part" "LTaylorModels$Model;") ∈ FW := fw_ix 160 (by decide +kernel) rfl
theorem kw_116 : (Jvm.Cond.laysFinal "TaylorModels$Arithmetic" "TaylorModels$Arithmetic" "whole" "LTaylorModels$Model;") ∈ FW := fw_ix 162 (by decide +kernel) rfl
theorem kw_118 : (Jvm.Cond.laysFinal "TaylorModels$Arithmetic" "TaylorModels$Arithmetic" "speed" "LTaylorModels$Model;") ∈ FW := fw_ix 164 (by decide +kernel) rfl
theorem kw_120 : (Jvm.Cond.laysFinal "TaylorModels$Arithmetic" "TaylorModels$Arithmetic" "nextX" "LTaylorModels$Model;") ∈ FW := fw_ix 166 (by decide +kernel) rfl
theorem kw_122 : (Jvm.Cond.laysFinal "TaylorModels$Arithmetic" "TaylorModels$Arithmetic" "nextY" "LTaylorModels$Model;") ∈ FW := fw_ix 168 (by decide +kernel) rfl
theorem kw_85 : (Jvm.Cond.laysFinal "TaylorModels$History" "TaylorModels$History" "ring" "[LTaylorModels$Models;") ∈ FW := fw_ix 131 (by decide +kernel) rfl
theorem kw_87 : (Jvm.Cond.lays "TaylorModels$History" "TaylorModels$History" "next" "I") ∈ FW := fw_ix 133 (by decide +kernel) rfl
theorem kw_89 : (Jvm.Cond.lays "TaylorModels$History" "TaylorModels$History" "count" "I") ∈ FW := fw_ix 135 (by decide +kernel) rfl
theorem kw_53 : (Jvm.Cond.laysFinal "TaylorModels$Model" "TaylorModels$Model" "coefficients" "[J") ∈ FW := fw_ix 99 (by decide +kernel) rfl
theorem kw_55 : (Jvm.Cond.lays "TaylorModels$Model" "TaylorModels$Model" "low" "J") ∈ FW := fw_ix 101 (by decide +kernel) rfl
theorem kw_57 : (Jvm.Cond.lays "TaylorModels$Model" "TaylorModels$Model" "high" "J") ∈ FW := fw_ix 103 (by decide +kernel) rfl
theorem kw_67 : (Jvm.Cond.laysFinal "TaylorModels$Models" "TaylorModels$Models" "rows" "[LTaylorModels$Model;") ∈ FW := fw_ix 113 (by decide +kernel) rfl
theorem kw_69 : (Jvm.Cond.lays "TaylorModels$Models" "TaylorModels$Models" "mask" "I") ∈ FW := fw_ix 115 (by decide +kernel) rfl
theorem kw_186 : (Jvm.Cond.laysFinal "TaylorModels$SetupReader" "TaylorModels$SetupReader" "text" "LTaylorModels$SetupText;") ∈ FW := fw_ix 232 (by decide +kernel) rfl
theorem kw_188 : (Jvm.Cond.laysFinal "TaylorModels$SetupReader" "TaylorModels$SetupReader" "draft" "LTaylorModels$Models;") ∈ FW := fw_ix 234 (by decide +kernel) rfl
theorem kw_190 : (Jvm.Cond.laysFinal "TaylorModels$SetupReader" "TaylorModels$SetupReader" "arithmetic" "LTaylorModels$Arithmetic;") ∈ FW := fw_ix 236 (by decide +kernel) rfl
theorem kw_192 : (Jvm.Cond.laysFinal "TaylorModels$SetupReader" "TaylorModels$SetupReader" "sums" "[LTaylorModels$Model;") ∈ FW := fw_ix 238 (by decide +kernel) rfl
theorem kw_194 : (Jvm.Cond.laysFinal "TaylorModels$SetupReader" "TaylorModels$SetupReader" "terms" "[LTaylorModels$Model;") ∈ FW := fw_ix 240 (by decide +kernel) rfl
theorem kw_196 : (Jvm.Cond.laysFinal "TaylorModels$SetupReader" "TaylorModels$SetupReader" "factors" "[LTaylorModels$Model;") ∈ FW := fw_ix 242 (by decide +kernel) rfl
theorem kw_198 : (Jvm.Cond.laysFinal "TaylorModels$SetupReader" "TaylorModels$SetupReader" "arguments" "[LTaylorModels$Model;") ∈ FW := fw_ix 244 (by decide +kernel) rfl
theorem kw_200 : (Jvm.Cond.lays "TaylorModels$SetupReader" "TaylorModels$SetupReader" "error" "I") ∈ FW := fw_ix 246 (by decide +kernel) rfl
theorem kw_149 : (Jvm.Cond.laysFinal "TaylorModels$SetupText" "TaylorModels$SetupText" "bytes" "[I") ∈ FW := fw_ix 195 (by decide +kernel) rfl
theorem kw_151 : (Jvm.Cond.lays "TaylorModels$SetupText" "TaylorModels$SetupText" "filled" "I") ∈ FW := fw_ix 197 (by decide +kernel) rfl
theorem kw_153 : (Jvm.Cond.laysFinal "TaylorModels$SetupText" "TaylorModels$SetupText" "starts" "[I") ∈ FW := fw_ix 199 (by decide +kernel) rfl
theorem kw_155 : (Jvm.Cond.laysFinal "TaylorModels$SetupText" "TaylorModels$SetupText" "ends" "[I") ∈ FW := fw_ix 201 (by decide +kernel) rfl
theorem kw_157 : (Jvm.Cond.lays "TaylorModels$SetupText" "TaylorModels$SetupText" "last" "I") ∈ FW := fw_ix 203 (by decide +kernel) rfl
theorem kw_159 : (Jvm.Cond.lays "TaylorModels$SetupText" "TaylorModels$SetupText" "current" "I") ∈ FW := fw_ix 205 (by decide +kernel) rfl
theorem kw_161 : (Jvm.Cond.lays "TaylorModels$SetupText" "TaylorModels$SetupText" "start" "I") ∈ FW := fw_ix 207 (by decide +kernel) rfl
theorem kw_163 : (Jvm.Cond.lays "TaylorModels$SetupText" "TaylorModels$SetupText" "end" "I") ∈ FW := fw_ix 209 (by decide +kernel) rfl
theorem kw_165 : (Jvm.Cond.lays "TaylorModels$SetupText" "TaylorModels$SetupText" "first" "I") ∈ FW := fw_ix 211 (by decide +kernel) rfl
theorem kw_211 : (Jvm.Cond.laysFinal "TaylorModels" "TaylorModels" "models" "LTaylorModels$Models;") ∈ FW := fw_ix 257 (by decide +kernel) rfl
theorem kw_213 : (Jvm.Cond.laysFinal "TaylorModels" "TaylorModels" "history" "LTaylorModels$History;") ∈ FW := fw_ix 259 (by decide +kernel) rfl
theorem kw_215 : (Jvm.Cond.laysFinal "TaylorModels" "TaylorModels" "arithmetic" "LTaylorModels$Arithmetic;") ∈ FW := fw_ix 261 (by decide +kernel) rfl
theorem kw_217 : (Jvm.Cond.laysFinal "TaylorModels" "TaylorModels" "reader" "LTaylorModels$SetupReader;") ∈ FW := fw_ix 263 (by decide +kernel) rfl
theorem kw_219 : (Jvm.Cond.laysFinal "TaylorModels" "TaylorModels" "result" "LTaylorModels$Model;") ∈ FW := fw_ix 265 (by decide +kernel) rfl
theorem kw_221 : (Jvm.Cond.lays "TaylorModels" "TaylorModels" "errorStart" "I") ∈ FW := fw_ix 267 (by decide +kernel) rfl
theorem kw_939 : (Jvm.Cond.lays "TaylorModelsModel" "TaylorModelsModel" "thrown" "I") ∈ FW := fw_ix 985 (by decide +kernel) rfl
theorem kw_941 : (Jvm.Cond.laysFinal "TaylorModelsModel" "TaylorModelsModel" "buffer" "[I") ∈ FW := fw_ix 987 (by decide +kernel) rfl
theorem kw_943 : (Jvm.Cond.lays "TaylorModelsModel" "TaylorModelsModel" "bufferLength" "I") ∈ FW := fw_ix 989 (by decide +kernel) rfl
theorem kw_945 : (Jvm.Cond.lays "TaylorModelsModel" "TaylorModelsModel" "textLength" "I") ∈ FW := fw_ix 991 (by decide +kernel) rfl
theorem kw_947 : (Jvm.Cond.lays "TaylorModelsModel" "TaylorModelsModel" "position" "I") ∈ FW := fw_ix 993 (by decide +kernel) rfl
theorem kw_949 : (Jvm.Cond.lays "TaylorModelsModel" "TaylorModelsModel" "error" "I") ∈ FW := fw_ix 995 (by decide +kernel) rfl
theorem kw_951 : (Jvm.Cond.lays "TaylorModelsModel" "TaylorModelsModel" "errorAt" "I") ∈ FW := fw_ix 997 (by decide +kernel) rfl
theorem kw_953 : (Jvm.Cond.lays "TaylorModelsModel" "TaylorModelsModel" "errorOffset" "I") ∈ FW := fw_ix 999 (by decide +kernel) rfl
theorem kw_955 : (Jvm.Cond.laysFinal "TaylorModelsModel" "TaylorModelsModel" "data" "[I") ∈ FW := fw_ix 1001 (by decide +kernel) rfl
theorem kw_957 : (Jvm.Cond.laysFinal "TaylorModelsModel" "TaylorModelsModel" "draft" "[I") ∈ FW := fw_ix 1003 (by decide +kernel) rfl
theorem kw_959 : (Jvm.Cond.laysFinal "TaylorModelsModel" "TaylorModelsModel" "history" "[[I") ∈ FW := fw_ix 1005 (by decide +kernel) rfl
theorem kw_961 : (Jvm.Cond.lays "TaylorModelsModel" "TaylorModelsModel" "undoDepth" "I") ∈ FW := fw_ix 1007 (by decide +kernel) rfl
theorem kw_963 : (Jvm.Cond.laysFinal "TaylorModelsModel" "TaylorModelsModel" "products" "[J") ∈ FW := fw_ix 1009 (by decide +kernel) rfl
theorem kw_965 : (Jvm.Cond.laysFinal "TaylorModelsModel" "TaylorModelsModel" "product" "[J") ∈ FW := fw_ix 1011 (by decide +kernel) rfl
theorem kw_967 : (Jvm.Cond.laysFinal "TaylorModelsModel" "TaylorModelsModel" "composed" "[J") ∈ FW := fw_ix 1013 (by decide +kernel) rfl
theorem kw_969 : (Jvm.Cond.laysFinal "TaylorModelsModel" "TaylorModelsModel" "power" "[J") ∈ FW := fw_ix 1015 (by decide +kernel) rfl
theorem kw_971 : (Jvm.Cond.laysFinal "TaylorModelsModel" "TaylorModelsModel" "integral" "[J") ∈ FW := fw_ix 1017 (by decide +kernel) rfl
theorem kw_973 : (Jvm.Cond.lays "TaylorModelsModel" "TaylorModelsModel" "numberStart" "I") ∈ FW := fw_ix 1019 (by decide +kernel) rfl
theorem kw_975 : (Jvm.Cond.laysFinal "TaylorModelsModel" "TaylorModelsModel" "sums" "[[J") ∈ FW := fw_ix 1021 (by decide +kernel) rfl
theorem kw_977 : (Jvm.Cond.laysFinal "TaylorModelsModel" "TaylorModelsModel" "terms" "[[J") ∈ FW := fw_ix 1023 (by decide +kernel) rfl
theorem kw_979 : (Jvm.Cond.laysFinal "TaylorModelsModel" "TaylorModelsModel" "factors" "[[J") ∈ FW := fw_ix 1025 (by decide +kernel) rfl
theorem kw_981 : (Jvm.Cond.laysFinal "TaylorModelsModel" "TaylorModelsModel" "firsts" "[[J") ∈ FW := fw_ix 1027 (by decide +kernel) rfl
theorem kw_983 : (Jvm.Cond.laysFinal "TaylorModelsModel" "TaylorModelsModel" "named" "[J") ∈ FW := fw_ix 1029 (by decide +kernel) rfl
theorem kw_985 : (Jvm.Cond.lays "TaylorModelsModel" "TaylorModelsModel" "nesting" "I") ∈ FW := fw_ix 1031 (by decide +kernel) rfl
theorem kw_987 : (Jvm.Cond.laysFinal "TaylorModelsModel" "TaylorModelsModel" "one" "[J") ∈ FW := fw_ix 1033 (by decide +kernel) rfl
theorem kw_989 : (Jvm.Cond.laysFinal "TaylorModelsModel" "TaylorModelsModel" "two" "[J") ∈ FW := fw_ix 1035 (by decide +kernel) rfl
theorem kw_991 : (Jvm.Cond.laysFinal "TaylorModelsModel" "TaylorModelsModel" "three" "[J") ∈ FW := fw_ix 1037 (by decide +kernel) rfl
theorem kw_993 : (Jvm.Cond.laysFinal "TaylorModelsModel" "TaylorModelsModel" "result" "[J") ∈ FW := fw_ix 1039 (by decide +kernel) rfl
theorem kw_995 : (Jvm.Cond.laysFinal "TaylorModelsModel" "TaylorModelsModel" "nextX" "[J") ∈ FW := fw_ix 1041 (by decide +kernel) rfl
theorem kw_997 : (Jvm.Cond.laysFinal "TaylorModelsModel" "TaylorModelsModel" "nextY" "[J") ∈ FW := fw_ix 1043 (by decide +kernel) rfl
theorem in_X0 : ∀ w ∈ u_ws RX0 TX0 8, w ∈ FW := by
  intro w hw
  obtain ⟨k, hk, rfl⟩ := List.mem_map.mp hw
  have hk := List.mem_range.mp hk
  match k, hk with
  | 0, _ => exact kw_108
  | 1, _ => exact kw_110
  | 2, _ => exact kw_112
  | 3, _ => exact kw_114
  | 4, _ => exact kw_116
  | 5, _ => exact kw_118
  | 6, _ => exact kw_120
  | 7, _ => exact kw_122
  | k + 8, h => exact absurd h (by omega)
theorem in_X1 : ∀ w ∈ u_ws RX1 TX1 3, w ∈ FW := by
  intro w hw
  obtain ⟨k, hk, rfl⟩ := List.mem_map.mp hw
  have hk := List.mem_range.mp hk
  match k, hk with
  | 0, _ => exact kw_85
  | 1, _ => exact kw_87
  | 2, _ => exact kw_89
  | k + 3, h => exact absurd h (by omega)
theorem in_X2 : ∀ w ∈ u_ws RX2 TX2 3, w ∈ FW := by
  intro w hw
  obtain ⟨k, hk, rfl⟩ := List.mem_map.mp hw
  have hk := List.mem_range.mp hk
  match k, hk with
  | 0, _ => exact kw_53
  | 1, _ => exact kw_55
  | 2, _ => exact kw_57
  | k + 3, h => exact absurd h (by omega)
theorem in_X3 : ∀ w ∈ u_ws RX3 TX3 2, w ∈ FW := by
  intro w hw
  obtain ⟨k, hk, rfl⟩ := List.mem_map.mp hw
  have hk := List.mem_range.mp hk
  match k, hk with
  | 0, _ => exact kw_67
  | 1, _ => exact kw_69
  | k + 2, h => exact absurd h (by omega)
theorem in_X4 : ∀ w ∈ u_ws RX4 TX4 8, w ∈ FW := by
  intro w hw
  obtain ⟨k, hk, rfl⟩ := List.mem_map.mp hw
  have hk := List.mem_range.mp hk
  match k, hk with
  | 0, _ => exact kw_186
  | 1, _ => exact kw_188
  | 2, _ => exact kw_190
  | 3, _ => exact kw_192
  | 4, _ => exact kw_194
  | 5, _ => exact kw_196
  | 6, _ => exact kw_198
  | 7, _ => exact kw_200
  | k + 8, h => exact absurd h (by omega)
theorem in_X5 : ∀ w ∈ u_ws RX5 TX5 9, w ∈ FW := by
  intro w hw
  obtain ⟨k, hk, rfl⟩ := List.mem_map.mp hw
  have hk := List.mem_range.mp hk
  match k, hk with
  | 0, _ => exact kw_149
  | 1, _ => exact kw_151
  | 2, _ => exact kw_153
  | 3, _ => exact kw_155
  | 4, _ => exact kw_157
  | 5, _ => exact kw_159
  | 6, _ => exact kw_161
  | 7, _ => exact kw_163
  | 8, _ => exact kw_165
  | k + 9, h => exact absurd h (by omega)
theorem in_X6 : ∀ w ∈ u_ws RX6 TX6 6, w ∈ FW := by
  intro w hw
  obtain ⟨k, hk, rfl⟩ := List.mem_map.mp hw
  have hk := List.mem_range.mp hk
  match k, hk with
  | 0, _ => exact kw_211
  | 1, _ => exact kw_213
  | 2, _ => exact kw_215
  | 3, _ => exact kw_217
  | 4, _ => exact kw_219
  | 5, _ => exact kw_221
  | k + 6, h => exact absurd h (by omega)
theorem in_X7 : ∀ w ∈ u_ws RX7 TX7 30, w ∈ FW := by
  intro w hw
  obtain ⟨k, hk, rfl⟩ := List.mem_map.mp hw
  have hk := List.mem_range.mp hk
  match k, hk with
  | 0, _ => exact kw_939
  | 1, _ => exact kw_941
  | 2, _ => exact kw_943
  | 3, _ => exact kw_945
  | 4, _ => exact kw_947
  | 5, _ => exact kw_949
  | 6, _ => exact kw_951
  | 7, _ => exact kw_953
  | 8, _ => exact kw_955
  | 9, _ => exact kw_957
  | 10, _ => exact kw_959
  | 11, _ => exact kw_961
  | 12, _ => exact kw_963
  | 13, _ => exact kw_965
  | 14, _ => exact kw_967
  | 15, _ => exact kw_969
  | 16, _ => exact kw_971
  | 17, _ => exact kw_973
  | 18, _ => exact kw_975
  | 19, _ => exact kw_977
  | 20, _ => exact kw_979
  | 21, _ => exact kw_981
  | 22, _ => exact kw_983
  | 23, _ => exact kw_985
  | 24, _ => exact kw_987
  | 25, _ => exact kw_989
  | 26, _ => exact kw_991
  | 27, _ => exact kw_993
  | 28, _ => exact kw_995
  | 29, _ => exact kw_997
  | k + 30, h => exact absurd h (by omega)
theorem gf_X2_25 {p : Program} {l : Launch} {e : Env} {R : Room} {s : State} {m : MethodId} {args : Array Value} {below : List Frame} {meth : Method} {c : Code} {H : Heap} {locs : List Loc} {cells slots : Nat} {Q : State → Prop} {cc : ByteArray} {nL : Nat} {G : GP} {A0 : Nat → Prop} {sk : Sk} {σ : St} {pc : Nat} {ls : Array Slot} {rest : List Value} (E : En p m c s cc nL RX2 G A0) (hW : Wo G sk A0 s σ H locs) {q : Nat} (hk : sk.2.1 q = (0, 2)) (hdg : decode cc pc = .ok (.getfield 25, 3)) (kk : W p l e R s m args below meth c H locs cells slots Q (F0 m (pc + 3) ls (.long (σ.2 q 2) :: rest))) : W p l e R s m args below meth c H locs cells slots Q (F0 m pc ls (.ref (G.2.2.2 + q) :: rest)) :=
  r_get E hW hk (k := 2) (T := TX2) (n := 3) rfl in_X2 (by decide) rfl ⟨rfl, rfl, rfl⟩ kw_50 hdg kk
theorem gf_X2_21 {p : Program} {l : Launch} {e : Env} {R : Room} {s : State} {m : MethodId} {args : Array Value} {below : List Frame} {meth : Method} {c : Code} {H : Heap} {locs : List Loc} {cells slots : Nat} {Q : State → Prop} {cc : ByteArray} {nL : Nat} {G : GP} {A0 : Nat → Prop} {sk : Sk} {σ : St} {pc : Nat} {ls : Array Slot} {rest : List Value} (E : En p m c s cc nL RX2 G A0) (hW : Wo G sk A0 s σ H locs) {q : Nat} (hk : sk.2.1 q = (0, 2)) (hdg : decode cc pc = .ok (.getfield 21, 3)) (kk : W p l e R s m args below meth c H locs cells slots Q (F0 m (pc + 3) ls (.long (σ.2 q 1) :: rest))) : W p l e R s m args below meth c H locs cells slots Q (F0 m pc ls (.ref (G.2.2.2 + q) :: rest)) :=
  r_get E hW hk (k := 1) (T := TX2) (n := 3) rfl in_X2 (by decide) rfl ⟨rfl, rfl, rfl⟩ kw_47 hdg kk
theorem gf_X2_9 {p : Program} {l : Launch} {e : Env} {R : Room} {s : State} {m : MethodId} {args : Array Value} {below : List Frame} {meth : Method} {c : Code} {H : Heap} {locs : List Loc} {cells slots : Nat} {Q : State → Prop} {cc : ByteArray} {nL : Nat} {G : GP} {A0 : Nat → Prop} {sk : Sk} {σ : St} {pc : Nat} {ls : Array Slot} {rest : List Value} (E : En p m c s cc nL RX2 G A0) (hW : Wo G sk A0 s σ H locs) {q : Nat} (hk : sk.2.1 q = (0, 2)) (hdg : decode cc pc = .ok (.getfield 9, 3)) (kk : W p l e R s m args below meth c H locs cells slots Q (F0 m (pc + 3) ls (.ref (G.2.2.2 + sk.2.2 q 0) :: rest))) : W p l e R s m args below meth c H locs cells slots Q (F0 m pc ls (.ref (G.2.2.2 + q) :: rest)) :=
  r_get E hW hk (k := 0) (T := TX2) (n := 3) rfl in_X2 (by decide) rfl ⟨rfl, rfl, rfl⟩ kw_45 hdg kk
