/-! ===== every entry of the tables is linked as the class files say; by wip/p60/gen_facts.py ===== -/
def gLn (own nm : String) (E : GE) : Prop := match E with
  | (i, _, a, b, c, d, e) => match i with
    | .getfield idx => ∃ C T N, vwCl[a]? = some (C, T, N) ∧ b < N ∧ (T b).1 = C ∧ Cond.fieldLink own idx C (T b).2.1 (T b).2.2.1 ∈ gw
    | .putfield idx => ∃ C T N ty, vwCl[a]? = some (C, T, N) ∧ b < N ∧ (T b).1 = C ∧ Cond.fieldLink own idx C (T b).2.1 (T b).2.2.1 ∈ gw ∧ parseFieldDescriptor (T b).2.2.1 = some ty ∧ ((c = 0 ∧ ty = .int) ∨ (c = 1 ∧ gIsRef (some ty) = true) ∨ (c = 2 ∧ ty = .boolean)) ∧ ((T b).2.2.2 = true → C = own ∧ nm = "<init>")
    | .getstatic idx => ∃ j q, gStats[j]? = some q ∧ a = gRB + j ∧ Cond.fieldLink own idx q.1 q.2.1 q.2.2 ∈ gw
    | .ldc idx => (match e with
      | 0 => Cond.constant own idx (gK b a) ∈ gw
      | _ => gRB ≤ a ∧ ∃ tx, (own, idx, tx, a) ∈ gPool)
    | .ldc_w idx => (match e with
      | 0 => False
      | _ => gRB ≤ a ∧ ∃ tx, (own, idx, tx, a) ∈ gPool)
    | .new idx => (match e with
      | 0 => ∃ C T N, vwCl[a]? = some (C, T, N) ∧ b = N ∧ Cond.classLink own idx C ∈ gw ∧ Cond.instantiable C N ∈ gw ∧ Cond.initialized C ∈ gw
      | _ => gTw own idx d (gExc a) ∧ ∃ tx, (own, c, tx) ∈ gMsgs)
    | .anewarray idx => Cond.classLink own idx "TrunkDuel$State" ∈ gw
    | .newarray ty => Cond.arrayClass (newarray.typeOf ty) ∈ gw
    | .invokevirtual idx => (match e with
      | 0 | 1 | 2 | 3 | 4 | 10 | 11 => Cond.methodLink own idx (gY a) ∈ gw ∧ gMwV a
      | 23 => Cond.methodLink own idx yJ0_length_8abf5 ∈ gw
      | 24 => Cond.methodLink own idx yJ0_charAt_5068e ∈ gw
      | 27 => Cond.methodLink own idx yJ0_length_8abf5 ∈ gw
      | 28 => Cond.methodLink own idx yJ0_charAt_5068e ∈ gw
      | _ => False)
    | .invokestatic idx => (match e with
      | 0 | 1 | 2 | 3 | 4 => Cond.methodLink own idx (gY a) ∈ gw ∧ gMwS a
      | 10 | 11 => Cond.methodLink own idx (gY a) ∈ gw ∧ gMwS a ∧ gHT a = []
      | 20 => Cond.methodLink own idx Lib.Math.min.name ∈ gw
      | 21 => Cond.methodLink own idx Lib.Math.max.name ∈ gw
      | 22 => Cond.methodLink own idx Lib.Math.abs.name ∈ gw
      | 25 => Cond.methodLink own idx arraycopyName ∈ gw
      | _ => False)
    | .invokespecial idx => (match e with
      | 1 => (Cond.methodLink own idx (gY a) ∈ gw ∨ Cond.methodLinkNest own idx (gY a) "TrunkDuel" ∈ gnw) ∧ gMwI a
      | 26 => Cond.methodLink own idx objectInit ∈ gw
      | _ => False)
    | _ => True
def gOptL (own nm : String) : Option GE → Prop
  | none => True
  | some E => gLn own nm E
def gAll (own nm : String) : List (Option GE) → Prop
  | [] => True
  | o :: r => gOptL own nm o ∧ gAll own nm r
theorem gAll_mem {own nm : String} : ∀ {l : List (Option GE)} {E : GE}, gAll own nm l → some E ∈ l → gLn own nm E
  | o :: r, E, h, hm => by
    rcases List.mem_cons.mp hm with rfl | hm
    · exact h.1
    · exact gAll_mem h.2 hm
theorem gAll_look {m : Nat} {own nm : String} {t : List (List (Option GE))} (h1 : gTab m = t) (h2 : gY m = ⟨own, nm, (gY m).desc⟩) (h : ∀ l ∈ t, gAll own nm l) : ∀ pc E, gLook (gTab m) pc = some E → gLnk m E := by
  intro pc E hE
  rw [h1] at hE
  have key : gLn own nm E := by
    unfold gLook at hE
    split at hE
    · next ch hch =>
      split at hE
      · next o ho =>
        subst hE
        exact gAll_mem (h ch (List.mem_of_getElem? hch)) (List.mem_of_getElem? ho)
      · cases hE
    · cases hE
  have e : gLnk m E = gLn (gY m).cls (gY m).name E := rfl
  rw [e, h2]
  exact key
theorem mwV_74 : gMwV 74 := ⟨kw_582, kw_583, kw_3, kw_584, rfl, rfl⟩
theorem mwV_75 : gMwV 75 := ⟨kw_522, kw_523, kw_3, kw_524, rfl, rfl⟩
theorem mwV_37 : gMwV 37 := ⟨kw_587, kw_588, kw_6, kw_589, rfl, rfl⟩
theorem mwV_2 : gMwV 2 := ⟨kw_1179, kp_27, kw_9, kw_1180, rfl, rfl⟩
theorem mwV_11 : gMwV 11 := ⟨kw_668, kw_669, kw_7, kw_670, rfl, rfl⟩
theorem mwV_102 : gMwV 102 := ⟨kw_674, kw_675, kw_4, kw_676, rfl, rfl⟩
theorem mwV_104 : gMwV 104 := ⟨kw_624, kw_625, kw_4, kw_626, rfl, rfl⟩
theorem mwV_3 : gMwV 3 := ⟨kw_1186, kp_28, kw_9, kw_1187, rfl, rfl⟩
theorem mwV_6 : gMwV 6 := ⟨kw_1199, kp_29, kw_10, kw_1200, rfl, rfl⟩
theorem mwV_15 : gMwV 15 := ⟨kw_607, kw_608, kw_7, kw_609, rfl, rfl⟩
theorem mwV_16 : gMwV 16 := ⟨kw_611, kw_612, kw_7, kw_613, rfl, rfl⟩
theorem mwV_17 : gMwV 17 := ⟨kw_615, kw_616, kw_7, kw_617, rfl, rfl⟩
theorem mwV_7 : gMwV 7 := ⟨kw_1208, kp_30, kw_10, kw_1209, rfl, rfl⟩
theorem mwV_18 : gMwV 18 := ⟨kw_567, kp_17, kw_7, kw_568, rfl, rfl⟩
theorem mwV_9 : gMwV 9 := ⟨kw_556, kw_557, kw_7, kw_558, rfl, rfl⟩
theorem mwV_10 : gMwV 10 := ⟨kw_574, kw_575, kw_7, kw_576, rfl, rfl⟩
theorem mwI_71 : gMwI 71 := ⟨kw_46, kw_3, kw_47, rfl, rfl, rfl, rfl⟩
theorem mwV_73 : gMwV 73 := ⟨kw_687, kw_688, kw_3, kw_689, rfl, rfl⟩
theorem mwV_25 : gMwV 25 := ⟨kw_1058, kw_1059, kw_5, kw_1060, rfl, rfl⟩
theorem mwI_8 : gMwI 8 := ⟨kw_165, kw_7, kw_166, rfl, rfl, rfl, rfl⟩
theorem mwV_43 : gMwV 43 := ⟨kw_399, kp_0, kw_2, kw_400, rfl, rfl⟩
theorem mwV_59 : gMwV 59 := ⟨kw_407, kp_1, kw_2, kw_408, rfl, rfl⟩
theorem mwV_47 : gMwV 47 := ⟨kw_430, kp_5, kw_2, kw_431, rfl, rfl⟩
theorem mwV_48 : gMwV 48 := ⟨kw_464, kp_10, kw_2, kw_465, rfl, rfl⟩
theorem mwV_49 : gMwV 49 := ⟨kw_481, kp_11, kw_2, kw_482, rfl, rfl⟩
theorem mwV_50 : gMwV 50 := ⟨kw_514, kp_13, kw_2, kw_515, rfl, rfl⟩
theorem mwV_62 : gMwV 62 := ⟨kw_435, kp_6, kw_2, kw_436, rfl, rfl⟩
theorem mwV_52 : gMwV 52 := ⟨kw_544, kp_15, kw_2, kw_545, rfl, rfl⟩
theorem mwV_53 : gMwV 53 := ⟨kw_645, kp_19, kw_2, kw_646, rfl, rfl⟩
theorem mwV_80 : gMwV 80 := ⟨kw_664, kw_665, kw_3, kw_666, rfl, rfl⟩
theorem mwV_58 : gMwV 58 := ⟨kw_439, kp_7, kw_2, kw_440, rfl, rfl⟩
theorem mwV_81 : gMwV 81 := ⟨kw_683, kw_684, kw_3, kw_685, rfl, rfl⟩
theorem mwV_57 : gMwV 57 := ⟨kw_460, kp_9, kw_2, kw_461, rfl, rfl⟩
theorem mwV_56 : gMwV 56 := ⟨kw_443, kp_8, kw_2, kw_444, rfl, rfl⟩
theorem mwV_72 : gMwV 72 := ⟨kw_446, kw_447, kw_3, kw_448, rfl, rfl⟩
theorem mwV_89 : gMwV 89 := ⟨kw_468, kw_469, kw_4, kw_470, rfl, rfl⟩
theorem mwV_90 : gMwV 90 := ⟨kw_472, kw_473, kw_4, kw_474, rfl, rfl⟩
theorem mwV_54 : gMwV 54 := ⟨kw_486, kp_12, kw_2, kw_487, rfl, rfl⟩
theorem mwV_91 : gMwV 91 := ⟨kw_495, kw_496, kw_4, kw_497, rfl, rfl⟩
theorem mwV_94 : gMwV 94 := ⟨kw_499, kw_500, kw_4, kw_501, rfl, rfl⟩
theorem mwV_92 : gMwV 92 := ⟨kw_508, kw_509, kw_4, kw_510, rfl, rfl⟩
theorem mwV_51 : gMwV 51 := ⟨kw_519, kp_14, kw_2, kw_520, rfl, rfl⟩
theorem mwV_38 : gMwV 38 := ⟨kw_534, kw_535, kw_6, kw_536, rfl, rfl⟩
theorem mwV_63 : gMwV 63 := ⟨kw_415, kp_3, kw_2, kw_416, rfl, rfl⟩
theorem mwV_35 : gMwV 35 := ⟨kw_526, kw_527, kw_6, kw_528, rfl, rfl⟩
theorem mwV_36 : gMwV 36 := ⟨kw_530, kw_531, kw_6, kw_532, rfl, rfl⟩
theorem mwV_55 : gMwV 55 := ⟨kw_548, kp_16, kw_2, kw_549, rfl, rfl⟩
theorem mwV_76 : gMwV 76 := ⟨kw_578, kw_579, kw_3, kw_580, rfl, rfl⟩
theorem mwV_77 : gMwV 77 := ⟨kw_620, kw_621, kw_3, kw_622, rfl, rfl⟩
theorem mwV_78 : gMwV 78 := ⟨kw_648, kw_649, kw_3, kw_650, rfl, rfl⟩
theorem mwV_79 : gMwV 79 := ⟨kw_658, kw_659, kw_3, kw_660, rfl, rfl⟩
theorem mwV_88 : gMwV 88 := ⟨kw_491, kw_492, kw_4, kw_493, rfl, rfl⟩
theorem mwV_60 : gMwV 60 := ⟨kw_411, kp_2, kw_2, kw_412, rfl, rfl⟩
theorem mwV_61 : gMwV 61 := ⟨kw_419, kp_4, kw_2, kw_420, rfl, rfl⟩
theorem mwV_69 : gMwV 69 := ⟨kw_975, kp_22, kw_11, kw_976, rfl, rfl⟩
theorem mwV_67 : gMwV 67 := ⟨kw_988, kw_989, kw_11, kw_990, rfl, rfl⟩
theorem mwV_70 : gMwV 70 := ⟨kw_979, kp_23, kw_11, kw_980, rfl, rfl⟩
theorem mwI_84 : gMwI 84 := ⟨kw_52, kw_4, kw_53, rfl, rfl, rfl, rfl⟩
theorem mwI_22 : gMwI 22 := ⟨kw_79, kw_5, kw_80, rfl, rfl, rfl, rfl⟩
theorem mwI_32 : gMwI 32 := ⟨kw_109, kw_6, kw_110, rfl, rfl, rfl, rfl⟩
theorem mwV_85 : gMwV 85 := ⟨kw_450, kw_451, kw_4, kw_452, rfl, rfl⟩
theorem mwV_33 : gMwV 33 := ⟨kw_455, kw_456, kw_6, kw_457, rfl, rfl⟩
theorem mwV_86 : gMwV 86 := ⟨kw_691, kw_692, kw_4, kw_693, rfl, rfl⟩
theorem mwV_23 : gMwV 23 := ⟨kw_698, kw_699, kw_5, kw_700, rfl, rfl⟩
theorem mwV_34 : gMwV 34 := ⟨kw_703, kw_704, kw_6, kw_705, rfl, rfl⟩
theorem mwV_100 : gMwV 100 := ⟨kw_591, kw_592, kw_4, kw_593, rfl, rfl⟩
theorem mwV_13 : gMwV 13 := ⟨kw_595, kw_596, kw_7, kw_597, rfl, rfl⟩
theorem mwV_14 : gMwV 14 := ⟨kw_599, kw_600, kw_7, kw_601, rfl, rfl⟩
theorem mwV_24 : gMwV 24 := ⟨kw_635, kw_636, kw_5, kw_637, rfl, rfl⟩
theorem mwV_83 : gMwV 83 := ⟨kw_641, kp_18, kw_3, kw_642, rfl, rfl⟩
theorem mwV_95 : gMwV 95 := ⟨kw_654, kw_655, kw_4, kw_656, rfl, rfl⟩
theorem mwV_103 : gMwV 103 := ⟨kw_1233, kw_1234, kw_4, kw_1235, rfl, rfl⟩
theorem mwV_87 : gMwV 87 := ⟨kw_476, kw_477, kw_4, kw_478, rfl, rfl⟩
theorem mwV_93 : gMwV 93 := ⟨kw_504, kw_505, kw_4, kw_506, rfl, rfl⟩
theorem mwV_97 : gMwV 97 := ⟨kw_759, kw_760, kw_4, kw_761, rfl, rfl⟩
theorem mwV_101 : gMwV 101 := ⟨kw_603, kw_604, kw_4, kw_605, rfl, rfl⟩
theorem mwV_12 : gMwV 12 := ⟨kw_678, kw_679, kw_7, kw_680, rfl, rfl⟩
theorem mwV_96 : gMwV 96 := ⟨kw_628, kw_629, kw_4, kw_630, rfl, rfl⟩
theorem mwI_39 : gMwI 39 := ⟨kw_40, kw_2, kw_41, rfl, rfl, rfl, rfl⟩
theorem mwI_19 : gMwI 19 := ⟨kw_266, kw_8, kw_267, rfl, rfl, rfl, rfl⟩
theorem mwI_0 : gMwI 0 := ⟨kw_288, kw_9, kw_289, rfl, rfl, rfl, rfl⟩
theorem mwI_4 : gMwI 4 := ⟨kw_314, kw_10, kw_315, rfl, rfl, rfl, rfl⟩
theorem mwI_65 : gMwI 65 := ⟨kw_324, kw_11, kw_325, rfl, rfl, rfl, rfl⟩
theorem mwV_41 : gMwV 41 := ⟨kw_346, kw_347, kw_2, kw_348, rfl, rfl⟩
theorem mwV_44 : gMwV 44 := ⟨kw_402, kw_403, kw_2, kw_404, rfl, rfl⟩
theorem mwV_45 : gMwV 45 := ⟨kw_425, kw_426, kw_2, kw_427, rfl, rfl⟩
theorem mwV_46 : gMwV 46 := ⟨kw_538, kw_539, kw_2, kw_540, rfl, rfl⟩
theorem mwV_64 : gMwV 64 := ⟨kw_708, kw_709, kw_2, kw_710, rfl, rfl⟩
theorem mwV_40 : gMwV 40 := ⟨kw_919, kw_920, kw_2, kw_921, rfl, rfl⟩
theorem mwV_42 : gMwV 42 := ⟨kw_923, kw_924, kw_2, kw_925, rfl, rfl⟩
theorem mwV_20 : gMwV 20 := ⟨kw_754, kw_755, kw_8, kw_756, rfl, rfl⟩
theorem mwV_152 : gMwV 152 := ⟨kw_1007, kp_24, kw_1, kw_1008, rfl, rfl⟩
theorem mwV_156 : gMwV 156 := ⟨kw_1026, kp_25, kw_1, kw_1027, rfl, rfl⟩
theorem mwV_21 : gMwV 21 := ⟨kw_851, kw_852, kw_8, kw_853, rfl, rfl⟩
theorem mwV_99 : gMwV 99 := ⟨kw_1130, kw_1131, kw_4, kw_1132, rfl, rfl⟩
theorem mwV_155 : gMwV 155 := ⟨kw_950, kp_21, kw_1, kw_951, rfl, rfl⟩
theorem mwV_157 : gMwV 157 := ⟨kw_1050, kp_26, kw_1, kw_1051, rfl, rfl⟩
theorem mwV_26 : gMwV 26 := ⟨kw_1069, kw_1070, kw_5, kw_1071, rfl, rfl⟩
theorem mwV_27 : gMwV 27 := ⟨kw_1102, kw_1103, kw_5, kw_1104, rfl, rfl⟩
theorem mwV_28 : gMwV 28 := ⟨kw_1080, kw_1081, kw_5, kw_1082, rfl, rfl⟩
theorem mwV_29 : gMwV 29 := ⟨kw_1091, kw_1092, kw_5, kw_1093, rfl, rfl⟩
theorem mwV_30 : gMwV 30 := ⟨kw_1299, kw_1300, kw_5, kw_1301, rfl, rfl⟩
theorem mwV_31 : gMwV 31 := ⟨kw_1054, kw_1055, kw_5, kw_1056, rfl, rfl⟩
theorem mwS_154 : gMwS 154 := ⟨kw_863, kw_1, Or.inl ⟨rfl, rfl, kw_864⟩⟩
theorem mwS_153 : gMwS 153 := ⟨kw_1010, kw_1, Or.inl ⟨rfl, rfl, kw_1011⟩⟩
theorem mwV_82 : gMwV 82 := ⟨kw_1229, kw_1230, kw_3, kw_1231, rfl, rfl⟩
theorem mwV_1 : gMwV 1 := ⟨kw_1171, kw_1172, kw_9, kw_1173, rfl, rfl⟩
theorem mwV_5 : gMwV 5 := ⟨kw_1193, kw_1194, kw_10, kw_1195, rfl, rfl⟩
theorem mwV_66 : gMwV 66 := ⟨kw_970, kw_971, kw_11, kw_972, rfl, rfl⟩
theorem mwV_68 : gMwV 68 := ⟨kw_984, kw_985, kw_11, kw_986, rfl, rfl⟩
theorem mwV_98 : gMwV 98 := ⟨kw_1154, kw_1155, kw_4, kw_1156, rfl, rfl⟩
theorem mwV_107 : gMwV 107 := ⟨kw_890, kw_891, kw_1, kw_892, rfl, rfl⟩
theorem mwV_109 : gMwV 109 := ⟨kw_1287, kw_1288, kw_1, kw_1289, rfl, rfl⟩
theorem mwV_110 : gMwV 110 := ⟨kw_1249, kw_1250, kw_1, kw_1251, rfl, rfl⟩
theorem mwV_111 : gMwV 111 := ⟨kw_1215, kw_1216, kw_1, kw_1217, rfl, rfl⟩
theorem mwV_112 : gMwV 112 := ⟨kw_780, kw_781, kw_1, kw_782, rfl, rfl⟩
theorem mwV_120 : gMwV 120 := ⟨kw_959, kw_960, kw_1, kw_961, rfl, rfl⟩
theorem mwV_121 : gMwV 121 := ⟨kw_945, kw_946, kw_1, kw_947, rfl, rfl⟩
theorem mwV_122 : gMwV 122 := ⟨kw_1021, kw_1022, kw_1, kw_1023, rfl, rfl⟩
theorem mwV_123 : gMwV 123 := ⟨kw_1036, kw_1037, kw_1, kw_1038, rfl, rfl⟩
theorem mwV_124 : gMwV 124 := ⟨kw_1065, kw_1066, kw_1, kw_1067, rfl, rfl⟩
theorem mwV_125 : gMwV 125 := ⟨kw_1098, kw_1099, kw_1, kw_1100, rfl, rfl⟩
theorem mwV_126 : gMwV 126 := ⟨kw_1076, kw_1077, kw_1, kw_1078, rfl, rfl⟩
theorem mwV_127 : gMwV 127 := ⟨kw_1087, kw_1088, kw_1, kw_1089, rfl, rfl⟩
theorem mwV_128 : gMwV 128 := ⟨kw_1295, kw_1296, kw_1, kw_1297, rfl, rfl⟩
theorem mwV_129 : gMwV 129 := ⟨kw_1045, kw_1046, kw_1, kw_1047, rfl, rfl⟩
theorem mwV_133 : gMwV 133 := ⟨kw_859, kw_860, kw_1, kw_861, rfl, rfl⟩
theorem mwV_134 : gMwV 134 := ⟨kw_1270, kw_1271, kw_1, kw_1272, rfl, rfl⟩
theorem mwV_135 : gMwV 135 := ⟨kw_1242, kw_1243, kw_1, kw_1244, rfl, rfl⟩
theorem mwV_136 : gMwV 136 := ⟨kw_1002, kw_1003, kw_1, kw_1004, rfl, rfl⟩
theorem mwV_137 : gMwV 137 := ⟨kw_1109, kw_1110, kw_1, kw_1111, rfl, rfl⟩
theorem mwV_138 : gMwV 138 := ⟨kw_1262, kw_1263, kw_1, kw_1264, rfl, rfl⟩
theorem mwV_139 : gMwV 139 := ⟨kw_1225, kw_1226, kw_1, kw_1227, rfl, rfl⟩
theorem mwV_140 : gMwV 140 := ⟨kw_1278, kw_1279, kw_1, kw_1280, rfl, rfl⟩
theorem mwV_148 : gMwV 148 := ⟨kw_966, kw_967, kw_1, kw_968, rfl, rfl⟩
theorem mwV_149 : gMwV 149 := ⟨kw_995, kw_996, kw_1, kw_997, rfl, rfl⟩
theorem mwS_158 : gMwS 158 := ⟨kw_886, kw_0, Or.inr kw_887⟩
theorem mwS_183 : gMwS 183 := ⟨kw_911, kw_0, Or.inl ⟨rfl, rfl, kw_912⟩⟩
theorem mwV_106 : gMwV 106 := ⟨kw_915, kw_916, kw_1, kw_917, rfl, rfl⟩
theorem mwV_114 : gMwV 114 := ⟨kw_934, kw_935, kw_1, kw_936, rfl, rfl⟩
theorem mwV_113 : gMwV 113 := ⟨kw_938, kw_939, kw_1, kw_940, rfl, rfl⟩
theorem mwS_164 : gMwS 164 := ⟨kw_942, kw_0, Or.inr kw_943⟩
theorem mwS_163 : gMwS 163 := ⟨kw_956, kw_0, Or.inr kw_957⟩
theorem mwV_116 : gMwV 116 := ⟨kw_763, kw_764, kw_1, kw_765, rfl, rfl⟩
theorem mwS_181 : gMwS 181 := ⟨kw_963, kw_0, Or.inr kw_964⟩
theorem mwS_182 : gMwS 182 := ⟨kw_992, kw_0, Or.inr kw_993⟩
theorem mwS_176 : gMwS 176 := ⟨kw_999, kw_0, Or.inr kw_1000⟩
theorem mwS_165 : gMwS 165 := ⟨kw_1018, kw_0, Or.inr kw_1019⟩
theorem mwS_166 : gMwS 166 := ⟨kw_1033, kw_0, Or.inr kw_1034⟩
theorem mwS_172 : gMwS 172 := ⟨kw_1042, kw_0, Or.inr kw_1043⟩
theorem mwS_167 : gMwS 167 := ⟨kw_1062, kw_0, Or.inr kw_1063⟩
theorem mwS_169 : gMwS 169 := ⟨kw_1073, kw_0, Or.inr kw_1074⟩
theorem mwS_170 : gMwS 170 := ⟨kw_1084, kw_0, Or.inr kw_1085⟩
theorem mwS_168 : gMwS 168 := ⟨kw_1095, kw_0, Or.inr kw_1096⟩
theorem mwS_177 : gMwS 177 := ⟨kw_1106, kw_0, Or.inr kw_1107⟩
theorem mwS_173 : gMwS 173 := ⟨kw_855, kw_0, Or.inr kw_856⟩
theorem mwV_115 : gMwV 115 := ⟨kw_1113, kw_1114, kw_1, kw_1115, rfl, rfl⟩
theorem mwV_150 : gMwV 150 := ⟨kw_1117, kw_1118, kw_1, kw_1119, rfl, rfl⟩
theorem mwV_118 : gMwV 118 := ⟨kw_1122, kw_1123, kw_1, kw_1124, rfl, rfl⟩
theorem mwV_117 : gMwV 117 := ⟨kw_1126, kw_1127, kw_1, kw_1128, rfl, rfl⟩
theorem mwV_132 : gMwV 132 := ⟨kw_1134, kw_1135, kw_1, kw_1136, rfl, rfl⟩
theorem mwV_147 : gMwV 147 := ⟨kw_1138, kw_1139, kw_1, kw_1140, rfl, rfl⟩
theorem mwV_146 : gMwV 146 := ⟨kw_1145, kw_1146, kw_1, kw_1147, rfl, rfl⟩
theorem mwV_151 : gMwV 151 := ⟨kw_1149, kw_1150, kw_1, kw_1151, rfl, rfl⟩
theorem mwV_130 : gMwV 130 := ⟨kw_771, kw_772, kw_1, kw_773, rfl, rfl⟩
theorem mwV_131 : gMwV 131 := ⟨kw_1163, kw_1164, kw_1, kw_1165, rfl, rfl⟩
theorem mwV_141 : gMwV 141 := ⟨kw_1167, kw_1168, kw_1, kw_1169, rfl, rfl⟩
theorem mwV_145 : gMwV 145 := ⟨kw_1189, kw_1190, kw_1, kw_1191, rfl, rfl⟩
theorem mwS_161 : gMwS 161 := ⟨kw_1212, kw_0, Or.inr kw_1213⟩
theorem mwS_179 : gMwS 179 := ⟨kw_1222, kw_0, Or.inr kw_1223⟩
theorem mwS_185 : gMwS 185 := ⟨kw_927, kw_0, Or.inl ⟨rfl, rfl, kw_928⟩⟩
theorem mwS_175 : gMwS 175 := ⟨kw_1239, kw_0, Or.inr kw_1240⟩
theorem mwS_160 : gMwS 160 := ⟨kw_1246, kw_0, Or.inr kw_1247⟩
theorem mwS_188 : gMwS 188 := ⟨kw_1256, kw_0, Or.inl ⟨rfl, rfl, kw_1257⟩⟩
theorem mwV_142 : gMwV 142 := ⟨kw_1303, kw_1304, kw_1, kw_1305, rfl, rfl⟩
theorem mwV_143 : gMwV 143 := ⟨kw_1307, kw_1308, kw_1, kw_1309, rfl, rfl⟩
theorem mwV_144 : gMwV 144 := ⟨kw_1311, kw_1312, kw_1, kw_1313, rfl, rfl⟩
theorem mwS_178 : gMwS 178 := ⟨kw_1259, kw_0, Or.inr kw_1260⟩
theorem mwS_174 : gMwS 174 := ⟨kw_1267, kw_0, Or.inr kw_1268⟩
theorem mwS_180 : gMwS 180 := ⟨kw_1275, kw_0, Or.inr kw_1276⟩
theorem mwS_159 : gMwS 159 := ⟨kw_1284, kw_0, Or.inr kw_1285⟩
theorem mwS_171 : gMwS 171 := ⟨kw_1292, kw_0, Or.inr kw_1293⟩
theorem mwS_184 : gMwS 184 := ⟨kw_883, kw_0, Or.inl ⟨rfl, rfl, kw_884⟩⟩
theorem mwV_108 : gMwV 108 := ⟨kw_750, kw_751, kw_1, kw_752, rfl, rfl⟩
theorem mwS_187 : gMwS 187 := ⟨kw_1160, kw_0, Or.inl ⟨rfl, rfl, kw_1161⟩⟩
theorem mwS_186 : gMwS 186 := ⟨kw_931, kw_0, Or.inl ⟨rfl, rfl, kw_932⟩⟩
theorem mwV_119 : gMwV 119 := ⟨kw_767, kw_768, kw_1, kw_769, rfl, rfl⟩
theorem mwS_162 : gMwS 162 := ⟨kw_776, kw_0, Or.inr kw_777⟩
theorem at_0 : ∀ w ∈ vx_atS "TrunkDuel" 117 "java/lang/IllegalArgumentException" gNames, w ∈ gw ∨ w ∈ gnw := by decide +kernel
theorem at_1 : ∀ w ∈ vx_atS "TrunkDuel" 156 "java/lang/IllegalStateException" gNames, w ∈ gw ∨ w ∈ gnw := by decide +kernel
theorem at_2 : ∀ w ∈ vx_atS "TrunkDuel" 231 "java/lang/IndexOutOfBoundsException" gNames, w ∈ gw ∨ w ∈ gnw := by decide +kernel
theorem lk_0 (n : Nat) (nm : String) : gLn "TrunkDuel$Choice" nm (.invokespecial 3, n, 0, 0, 0, 0, 26) := kw_290
theorem lk_1 (n : Nat) (nm : String) : gLn "TrunkDuel$Choice" nm (.putfield 9, n, 0, 0, 0, 0, 0) := ⟨_, _, _, tyX0 0, rfl, by decide, rfl, kw_291, tyX0_ok 0 (by decide), Or.inl ⟨rfl, rfl⟩, fun h => by cases h⟩
theorem lk_2 (n : Nat) (nm : String) : gLn "TrunkDuel$Choice" nm (.putfield 15, n, 0, 1, 0, 0, 0) := ⟨_, _, _, tyX0 1, rfl, by decide, rfl, kw_293, tyX0_ok 1 (by decide), Or.inl ⟨rfl, rfl⟩, fun h => by cases h⟩
theorem lk_3 (n : Nat) (nm : String) : gLn "TrunkDuel$Choice" nm (.putfield 18, n, 0, 2, 0, 0, 0) := ⟨_, _, _, tyX0 2, rfl, by decide, rfl, kw_295, tyX0_ok 2 (by decide), Or.inl ⟨rfl, rfl⟩, fun h => by cases h⟩
theorem lk_4 (n : Nat) (nm : String) : gLn "TrunkDuel$Choice" nm (.putfield 21, n, 0, 3, 0, 0, 0) := ⟨_, _, _, tyX0 3, rfl, by decide, rfl, kw_297, tyX0_ok 3 (by decide), Or.inl ⟨rfl, rfl⟩, fun h => by cases h⟩
theorem lk_5 (n : Nat) (nm : String) : gLn "TrunkDuel$Choice" nm (.putfield 24, n, 0, 4, 0, 0, 0) := ⟨_, _, _, tyX0 4, rfl, by decide, rfl, kw_299, tyX0_ok 4 (by decide), Or.inl ⟨rfl, rfl⟩, fun h => by cases h⟩
theorem lk_6 (n : Nat) (nm : String) : gLn "TrunkDuel$Choice" nm (.invokevirtual 27, n, 74, 1, 0, 0, 0) := ⟨kw_1174, mwV_74⟩
theorem lk_7 (n : Nat) (nm : String) : gLn "TrunkDuel$Choice" nm (.getfield 33, n, 8, 4, 0, 0, 0) := ⟨_, _, _, rfl, by decide, rfl, kw_146⟩
theorem lk_8 (n : Nat) (nm : String) : gLn "TrunkDuel$Choice" nm (.invokevirtual 36, n, 75, 2, 0, 0, 2) := ⟨kw_1175, mwV_75⟩
theorem lk_9 (n : Nat) (nm : String) : gLn "TrunkDuel$Choice" nm (.invokevirtual 40, n, 37, 2, 0, 0, 0) := ⟨kw_1176, mwV_37⟩
theorem lk_10 (n : Nat) (nm : String) : gLn "TrunkDuel$Choice" nm (.getfield 46, n, 8, 0, 1, 1, 0) := ⟨_, _, _, rfl, by decide, rfl, kw_134⟩
theorem lk_11 (n : Nat) (nm : String) : gLn "TrunkDuel$Choice" nm (.invokevirtual 50, n, 2, 4, 0, 0, 1) := ⟨kw_1177, mwV_2⟩
theorem lk_12 (n : Nat) (nm : String) : gLn "TrunkDuel$Choice" nm (.invokevirtual 54, n, 11, 2, 0, 0, 1) := ⟨kw_1181, mwV_11⟩
theorem lk_13 (n : Nat) (nm : String) : gLn "TrunkDuel$Choice" nm (.invokevirtual 60, n, 102, 2, 0, 0, 0) := ⟨kw_1182, mwV_102⟩
theorem lk_14 (n : Nat) (nm : String) : gLn "TrunkDuel$Choice" nm (.invokevirtual 66, n, 104, 2, 0, 0, 0) := ⟨kw_1183, mwV_104⟩
theorem lk_15 (n : Nat) (nm : String) : gLn "TrunkDuel$Choice" nm (.invokevirtual 70, n, 3, 3, 0, 0, 1) := ⟨kw_1184, mwV_3⟩
theorem lk_16 (n : Nat) (nm : String) : gLn "TrunkDuel$Choice" nm (.getfield 24, n, 0, 4, 0, 0, 0) := ⟨_, _, _, rfl, by decide, rfl, kw_299⟩
theorem lk_17 (n : Nat) (nm : String) : gLn "TrunkDuel$Choice" nm (.getfield 74, n, 2, 0, 0, 0, 0) := ⟨_, _, _, rfl, by decide, rfl, kw_170⟩
theorem lk_18 (n : Nat) (nm : String) : gLn "TrunkDuel$Choice" nm (.getfield 75, n, 2, 1, 0, 0, 0) := ⟨_, _, _, rfl, by decide, rfl, kw_174⟩
theorem lk_19 (n : Nat) (nm : String) : gLn "TrunkDuel$Choice" nm (.getfield 76, n, 2, 2, 0, 0, 0) := ⟨_, _, _, rfl, by decide, rfl, kw_177⟩
theorem lk_20 (n : Nat) (nm : String) : gLn "TrunkDuel$Choice" nm (.getfield 77, n, 2, 3, 0, 0, 0) := ⟨_, _, _, rfl, by decide, rfl, kw_180⟩
theorem lk_21 (n : Nat) (nm : String) : gLn "TrunkDuel$Crossings" nm (.invokespecial 3, n, 0, 0, 0, 0, 26) := kw_316
theorem lk_22 (n : Nat) (nm : String) : gLn "TrunkDuel$Crossings" nm (.newarray .int, n, 0, 0, 0, 0, 0) := kw_74
theorem lk_23 (n : Nat) : gLn "TrunkDuel$Crossings" "<init>" (.putfield 9, n, 1, 0, 1, 1, 0) := ⟨_, _, _, tyX1 0, rfl, by decide, rfl, kw_317, tyX1_ok 0 (by decide), Or.inr (Or.inl ⟨rfl, rfl⟩), fun _ => ⟨rfl, rfl⟩⟩
theorem lk_24 (n : Nat) (nm : String) : gLn "TrunkDuel$Crossings" nm (.getfield 9, n, 1, 0, 1, 1, 0) := ⟨_, _, _, rfl, by decide, rfl, kw_317⟩
theorem lk_25 (n : Nat) (nm : String) : gLn "TrunkDuel$Crossings" nm (.invokevirtual 15, n, 37, 2, 0, 0, 0) := ⟨kw_1196, mwV_37⟩
theorem lk_26 (n : Nat) (nm : String) : gLn "TrunkDuel$Crossings" nm (.invokevirtual 21, n, 6, 4, 0, 0, 1) := ⟨kw_1197, mwV_6⟩
theorem lk_27 (n : Nat) (nm : String) : gLn "TrunkDuel$Crossings" nm (.invokestatic 25, n, 0, 0, 0, 0, 21) := kw_1210
theorem lk_28 (n : Nat) (nm : String) : gLn "TrunkDuel$Crossings" nm (.invokevirtual 31, n, 11, 2, 0, 0, 1) := ⟨kw_1201, mwV_11⟩
theorem lk_29 (n : Nat) (nm : String) : gLn "TrunkDuel$Crossings" nm (.invokevirtual 37, n, 102, 2, 0, 0, 0) := ⟨kw_1202, mwV_102⟩
theorem lk_30 (n : Nat) (nm : String) : gLn "TrunkDuel$Crossings" nm (.getfield 43, n, 2, 5, 0, 0, 0) := ⟨_, _, _, rfl, by decide, rfl, kw_186⟩
theorem lk_31 (n : Nat) (nm : String) : gLn "TrunkDuel$Crossings" nm (.invokevirtual 47, n, 15, 2, 0, 0, 0) := ⟨kw_1203, mwV_15⟩
theorem lk_32 (n : Nat) (nm : String) : gLn "TrunkDuel$Crossings" nm (.invokevirtual 50, n, 16, 2, 0, 0, 0) := ⟨kw_1204, mwV_16⟩
theorem lk_33 (n : Nat) (nm : String) : gLn "TrunkDuel$Crossings" nm (.invokevirtual 53, n, 17, 2, 0, 0, 0) := ⟨kw_1205, mwV_17⟩
theorem lk_34 (n : Nat) (nm : String) : gLn "TrunkDuel$Crossings" nm (.invokevirtual 56, n, 7, 4, 0, 0, 1) := ⟨kw_1206, mwV_7⟩
theorem lk_35 (n : Nat) (nm : String) : gLn "TrunkDuel$Footprint" nm (.invokespecial 3, n, 0, 0, 0, 0, 26) := kw_167
theorem lk_36 (n : Nat) (nm : String) : gLn "TrunkDuel$Footprint" nm (.putfield 9, n, 2, 0, 0, 0, 0) := ⟨_, _, _, tyX2 0, rfl, by decide, rfl, kw_168, tyX2_ok 0 (by decide), Or.inl ⟨rfl, rfl⟩, fun h => by cases h⟩
theorem lk_37 (n : Nat) (nm : String) : gLn "TrunkDuel$Footprint" nm (.putfield 15, n, 2, 1, 0, 0, 0) := ⟨_, _, _, tyX2 1, rfl, by decide, rfl, kw_172, tyX2_ok 1 (by decide), Or.inl ⟨rfl, rfl⟩, fun h => by cases h⟩
theorem lk_38 (n : Nat) (nm : String) : gLn "TrunkDuel$Footprint" nm (.putfield 18, n, 2, 2, 0, 0, 0) := ⟨_, _, _, tyX2 2, rfl, by decide, rfl, kw_175, tyX2_ok 2 (by decide), Or.inl ⟨rfl, rfl⟩, fun h => by cases h⟩
theorem lk_39 (n : Nat) (nm : String) : gLn "TrunkDuel$Footprint" nm (.putfield 21, n, 2, 3, 0, 0, 0) := ⟨_, _, _, tyX2 3, rfl, by decide, rfl, kw_178, tyX2_ok 3 (by decide), Or.inl ⟨rfl, rfl⟩, fun h => by cases h⟩
theorem lk_40 (n : Nat) (nm : String) : gLn "TrunkDuel$Footprint" nm (.putfield 24, n, 2, 4, 0, 0, 0) := ⟨_, _, _, tyX2 4, rfl, by decide, rfl, kw_181, tyX2_ok 4 (by decide), Or.inl ⟨rfl, rfl⟩, fun h => by cases h⟩
theorem lk_41 (n : Nat) (nm : String) : gLn "TrunkDuel$Footprint" nm (.putfield 27, n, 2, 5, 0, 0, 0) := ⟨_, _, _, tyX2 5, rfl, by decide, rfl, kw_185, tyX2_ok 5 (by decide), Or.inl ⟨rfl, rfl⟩, fun h => by cases h⟩
theorem lk_42 (n : Nat) (nm : String) : gLn "TrunkDuel$Footprint" nm (.newarray .int, n, 0, 0, 0, 0, 0) := kw_74
theorem lk_43 (n : Nat) : gLn "TrunkDuel$Footprint" "<init>" (.putfield 30, n, 2, 6, 1, 1, 0) := ⟨_, _, _, tyX2 6, rfl, by decide, rfl, kw_188, tyX2_ok 6 (by decide), Or.inr (Or.inl ⟨rfl, rfl⟩), fun _ => ⟨rfl, rfl⟩⟩
theorem lk_44 (n : Nat) : gLn "TrunkDuel$Footprint" "<init>" (.putfield 34, n, 2, 7, 1, 1, 0) := ⟨_, _, _, tyX2 7, rfl, by decide, rfl, kw_189, tyX2_ok 7 (by decide), Or.inr (Or.inl ⟨rfl, rfl⟩), fun _ => ⟨rfl, rfl⟩⟩
theorem lk_45 (n : Nat) : gLn "TrunkDuel$Footprint" "<init>" (.putfield 37, n, 2, 8, 1, 1, 0) := ⟨_, _, _, tyX2 8, rfl, by decide, rfl, kw_190, tyX2_ok 8 (by decide), Or.inr (Or.inl ⟨rfl, rfl⟩), fun _ => ⟨rfl, rfl⟩⟩
theorem lk_46 (n : Nat) : gLn "TrunkDuel$Footprint" "<init>" (.putfield 40, n, 2, 9, 1, 1, 0) := ⟨_, _, _, tyX2 9, rfl, by decide, rfl, kw_191, tyX2_ok 9 (by decide), Or.inr (Or.inl ⟨rfl, rfl⟩), fun _ => ⟨rfl, rfl⟩⟩
theorem lk_47 (n : Nat) : gLn "TrunkDuel$Footprint" "<init>" (.putfield 43, n, 2, 10, 1, 1, 0) := ⟨_, _, _, tyX2 10, rfl, by decide, rfl, kw_192, tyX2_ok 10 (by decide), Or.inr (Or.inl ⟨rfl, rfl⟩), fun _ => ⟨rfl, rfl⟩⟩
theorem lk_48 (n : Nat) (nm : String) : gLn "TrunkDuel$Footprint" nm (.getstatic 46, n, 100000, 0, 0, 0, 0) := ⟨0, _, rfl, rfl, kw_559⟩
theorem lk_49 (n : Nat) (nm : String) : gLn "TrunkDuel$Footprint" nm (.getfield 24, n, 2, 4, 0, 0, 0) := ⟨_, _, _, rfl, by decide, rfl, kw_181⟩
theorem lk_50 (n : Nat) (nm : String) : gLn "TrunkDuel$Footprint" nm (.getstatic 49, n, 100001, 0, 0, 0, 0) := ⟨1, _, rfl, rfl, kw_561⟩
theorem lk_51 (n : Nat) (nm : String) : gLn "TrunkDuel$Footprint" nm (.getstatic 52, n, 100002, 0, 0, 0, 0) := ⟨2, _, rfl, rfl, kw_563⟩
theorem lk_52 (n : Nat) (nm : String) : gLn "TrunkDuel$Footprint" nm (.getfield 30, n, 2, 6, 1, 1, 0) := ⟨_, _, _, rfl, by decide, rfl, kw_188⟩
theorem lk_53 (n : Nat) (nm : String) : gLn "TrunkDuel$Footprint" nm (.getfield 34, n, 2, 7, 1, 1, 0) := ⟨_, _, _, rfl, by decide, rfl, kw_189⟩
theorem lk_54 (n : Nat) (nm : String) : gLn "TrunkDuel$Footprint" nm (.invokevirtual 55, n, 18, 1, 0, 0, 1) := ⟨kw_565, mwV_18⟩
theorem lk_55 (n : Nat) (nm : String) : gLn "TrunkDuel$Footprint" nm (.invokevirtual 58, n, 9, 3, 0, 0, 1) := ⟨kw_671, mwV_9⟩
theorem lk_56 (n : Nat) (nm : String) : gLn "TrunkDuel$Footprint" nm (.invokevirtual 62, n, 10, 3, 0, 0, 1) := ⟨kw_672, mwV_10⟩
theorem lk_57 (n : Nat) (nm : String) : gLn "TrunkDuel$Footprint" nm (.getfield 18, n, 2, 2, 0, 0, 0) := ⟨_, _, _, rfl, by decide, rfl, kw_175⟩
theorem lk_58 (n : Nat) (nm : String) : gLn "TrunkDuel$Footprint" nm (.getfield 21, n, 2, 3, 0, 0, 0) := ⟨_, _, _, rfl, by decide, rfl, kw_178⟩
theorem lk_59 (n : Nat) (nm : String) : gLn "TrunkDuel$Footprint" nm (.getfield 15, n, 2, 1, 0, 0, 0) := ⟨_, _, _, rfl, by decide, rfl, kw_172⟩
theorem lk_60 (n : Nat) (nm : String) : gLn "TrunkDuel$Footprint" nm (.getfield 9, n, 2, 0, 0, 0, 0) := ⟨_, _, _, rfl, by decide, rfl, kw_168⟩
theorem lk_61 (n : Nat) (nm : String) : gLn "TrunkDuel$Footprint" nm (.getfield 37, n, 2, 8, 1, 1, 0) := ⟨_, _, _, rfl, by decide, rfl, kw_190⟩
theorem lk_62 (n : Nat) (nm : String) : gLn "TrunkDuel$Footprint" nm (.getfield 40, n, 2, 9, 1, 1, 0) := ⟨_, _, _, rfl, by decide, rfl, kw_191⟩
theorem lk_63 (n : Nat) (nm : String) : gLn "TrunkDuel$Footprint" nm (.getfield 43, n, 2, 10, 1, 1, 0) := ⟨_, _, _, rfl, by decide, rfl, kw_192⟩
theorem lk_64 (n : Nat) (nm : String) : gLn "TrunkDuel$Footprint" nm (.invokestatic 65, n, 0, 0, 0, 0, 22) := kw_569
theorem lk_65 (n : Nat) (nm : String) : gLn "TrunkDuel$Footprint" nm (.getfield 27, n, 2, 5, 0, 0, 0) := ⟨_, _, _, rfl, by decide, rfl, kw_185⟩
theorem lk_66 (n : Nat) (nm : String) : gLn "TrunkDuel$Footprint" nm (.invokestatic 71, n, 0, 0, 0, 0, 20) := kw_572
theorem lk_67 (n : Nat) (nm : String) : gLn "TrunkDuel$History" nm (.invokespecial 3, n, 0, 0, 0, 0, 26) := kw_268
theorem lk_68 (n : Nat) (nm : String) : gLn "TrunkDuel$History" nm (.putfield 9, n, 3, 0, 0, 0, 0) := ⟨_, _, _, tyX3 0, rfl, by decide, rfl, kw_272, tyX3_ok 0 (by decide), Or.inl ⟨rfl, rfl⟩, fun h => by cases h⟩
theorem lk_69 (n : Nat) (nm : String) : gLn "TrunkDuel$History" nm (.putfield 15, n, 3, 1, 0, 0, 0) := ⟨_, _, _, tyX3 1, rfl, by decide, rfl, kw_274, tyX3_ok 1 (by decide), Or.inl ⟨rfl, rfl⟩, fun h => by cases h⟩
theorem lk_70 (n : Nat) (nm : String) : gLn "TrunkDuel$History" nm (.anewarray 18, n, 0, 0, 0, 0, 0) := kw_269
theorem lk_71 (n : Nat) : gLn "TrunkDuel$History" "<init>" (.putfield 20, n, 3, 2, 1, 1, 0) := ⟨_, _, _, tyX3 2, rfl, by decide, rfl, kw_275, tyX3_ok 2 (by decide), Or.inr (Or.inl ⟨rfl, rfl⟩), fun _ => ⟨rfl, rfl⟩⟩
theorem lk_72 (n : Nat) (nm : String) : gLn "TrunkDuel$History" nm (.getfield 20, n, 3, 2, 1, 1, 0) := ⟨_, _, _, rfl, by decide, rfl, kw_275⟩
theorem lk_73 (n : Nat) (nm : String) : gLn "TrunkDuel$History" nm (.new 18, n, 8, 6, 0, 0, 0) := ⟨_, _, _, rfl, rfl, kw_269, kw_44, kw_3⟩
theorem lk_74 (n : Nat) (nm : String) : gLn "TrunkDuel$History" nm (.invokespecial 24, n, 71, 1, 16, 427, 1) := ⟨Or.inr (List.mem_of_getElem? (i := 7) rfl), mwI_71⟩
theorem lk_75 (n : Nat) (nm : String) : gLn "TrunkDuel$History" nm (.getfield 9, n, 3, 0, 0, 0, 0) := ⟨_, _, _, rfl, by decide, rfl, kw_272⟩
theorem lk_76 (n : Nat) (nm : String) : gLn "TrunkDuel$History" nm (.getfield 15, n, 3, 1, 0, 0, 0) := ⟨_, _, _, rfl, by decide, rfl, kw_274⟩
theorem lk_77 (n : Nat) (nm : String) : gLn "TrunkDuel$History" nm (.invokevirtual 25, n, 73, 2, 0, 0, 1) := ⟨kw_757, mwV_73⟩
theorem lk_78 (n : Nat) (nm : String) : gLn "TrunkDuel$Pieces" nm (.invokespecial 3, n, 0, 0, 0, 0, 26) := kw_81
theorem lk_79 (n : Nat) (nm : String) : gLn "TrunkDuel$Pieces" nm (.putfield 9, n, 4, 0, 0, 0, 0) := ⟨_, _, _, tyX4 0, rfl, by decide, rfl, kw_82, tyX4_ok 0 (by decide), Or.inl ⟨rfl, rfl⟩, fun h => by cases h⟩
theorem lk_80 (n : Nat) (nm : String) : gLn "TrunkDuel$Pieces" nm (.newarray .int, n, 0, 0, 0, 0, 0) := kw_74
theorem lk_81 (n : Nat) : gLn "TrunkDuel$Pieces" "<init>" (.putfield 15, n, 4, 1, 1, 1, 0) := ⟨_, _, _, tyX4 1, rfl, by decide, rfl, kw_85, tyX4_ok 1 (by decide), Or.inr (Or.inl ⟨rfl, rfl⟩), fun _ => ⟨rfl, rfl⟩⟩
theorem lk_82 (n : Nat) : gLn "TrunkDuel$Pieces" "<init>" (.putfield 19, n, 4, 2, 1, 1, 0) := ⟨_, _, _, tyX4 2, rfl, by decide, rfl, kw_86, tyX4_ok 2 (by decide), Or.inr (Or.inl ⟨rfl, rfl⟩), fun _ => ⟨rfl, rfl⟩⟩
theorem lk_83 (n : Nat) : gLn "TrunkDuel$Pieces" "<init>" (.putfield 22, n, 4, 3, 1, 1, 0) := ⟨_, _, _, tyX4 3, rfl, by decide, rfl, kw_87, tyX4_ok 3 (by decide), Or.inr (Or.inl ⟨rfl, rfl⟩), fun _ => ⟨rfl, rfl⟩⟩
theorem lk_84 (n : Nat) : gLn "TrunkDuel$Pieces" "<init>" (.putfield 25, n, 4, 4, 1, 1, 0) := ⟨_, _, _, tyX4 4, rfl, by decide, rfl, kw_88, tyX4_ok 4 (by decide), Or.inr (Or.inl ⟨rfl, rfl⟩), fun _ => ⟨rfl, rfl⟩⟩
theorem lk_85 (n : Nat) : gLn "TrunkDuel$Pieces" "<init>" (.putfield 28, n, 4, 5, 1, 1, 0) := ⟨_, _, _, tyX4 5, rfl, by decide, rfl, kw_89, tyX4_ok 5 (by decide), Or.inr (Or.inl ⟨rfl, rfl⟩), fun _ => ⟨rfl, rfl⟩⟩
theorem lk_86 (n : Nat) : gLn "TrunkDuel$Pieces" "<init>" (.putfield 31, n, 4, 6, 1, 1, 0) := ⟨_, _, _, tyX4 6, rfl, by decide, rfl, kw_90, tyX4_ok 6 (by decide), Or.inr (Or.inl ⟨rfl, rfl⟩), fun _ => ⟨rfl, rfl⟩⟩
theorem lk_87 (n : Nat) (nm : String) : gLn "TrunkDuel$Pieces" nm (.getfield 9, n, 4, 0, 0, 0, 0) := ⟨_, _, _, rfl, by decide, rfl, kw_82⟩
theorem lk_88 (n : Nat) (nm : String) : gLn "TrunkDuel$Pieces" nm (.getfield 15, n, 4, 1, 1, 1, 0) := ⟨_, _, _, rfl, by decide, rfl, kw_85⟩
theorem lk_89 (n : Nat) (nm : String) : gLn "TrunkDuel$Pieces" nm (.invokestatic 34, n, 0, 0, 0, 0, 25) := kw_701
theorem lk_90 (n : Nat) (nm : String) : gLn "TrunkDuel$Pieces" nm (.getfield 19, n, 4, 2, 1, 1, 0) := ⟨_, _, _, rfl, by decide, rfl, kw_86⟩
theorem lk_91 (n : Nat) (nm : String) : gLn "TrunkDuel$Pieces" nm (.getfield 22, n, 4, 3, 1, 1, 0) := ⟨_, _, _, rfl, by decide, rfl, kw_87⟩
theorem lk_92 (n : Nat) (nm : String) : gLn "TrunkDuel$Pieces" nm (.getfield 25, n, 4, 4, 1, 1, 0) := ⟨_, _, _, rfl, by decide, rfl, kw_88⟩
theorem lk_93 (n : Nat) (nm : String) : gLn "TrunkDuel$Pieces" nm (.getfield 28, n, 4, 5, 1, 1, 0) := ⟨_, _, _, rfl, by decide, rfl, kw_89⟩
theorem lk_94 (n : Nat) (nm : String) : gLn "TrunkDuel$Pieces" nm (.getfield 31, n, 4, 6, 1, 1, 0) := ⟨_, _, _, rfl, by decide, rfl, kw_90⟩
theorem lk_95 (n : Nat) (nm : String) : gLn "TrunkDuel$Pieces" nm (.getfield 40, n, 2, 0, 0, 0, 0) := ⟨_, _, _, rfl, by decide, rfl, kw_169⟩
theorem lk_96 (n : Nat) (nm : String) : gLn "TrunkDuel$Pieces" nm (.getfield 45, n, 2, 1, 0, 0, 0) := ⟨_, _, _, rfl, by decide, rfl, kw_173⟩
theorem lk_97 (n : Nat) (nm : String) : gLn "TrunkDuel$Pieces" nm (.getfield 48, n, 2, 2, 0, 0, 0) := ⟨_, _, _, rfl, by decide, rfl, kw_176⟩
theorem lk_98 (n : Nat) (nm : String) : gLn "TrunkDuel$Pieces" nm (.getfield 51, n, 2, 3, 0, 0, 0) := ⟨_, _, _, rfl, by decide, rfl, kw_179⟩
theorem lk_99 (n : Nat) (nm : String) : gLn "TrunkDuel$Pieces" nm (.invokevirtual 54, n, 25, 2, 0, 0, 0) := ⟨kw_1057, mwV_25⟩
theorem lk_100 (n : Nat) (nm : String) : gLn "TrunkDuel$Player" nm (.invokespecial 3, n, 0, 0, 0, 0, 26) := kw_111
theorem lk_101 (n : Nat) (nm : String) : gLn "TrunkDuel$Player" nm (.putfield 9, n, 5, 0, 0, 0, 0) := ⟨_, _, _, tyX5 0, rfl, by decide, rfl, kw_112, tyX5_ok 0 (by decide), Or.inl ⟨rfl, rfl⟩, fun h => by cases h⟩
theorem lk_102 (n : Nat) (nm : String) : gLn "TrunkDuel$Player" nm (.putfield 15, n, 5, 1, 0, 0, 0) := ⟨_, _, _, tyX5 1, rfl, by decide, rfl, kw_115, tyX5_ok 1 (by decide), Or.inl ⟨rfl, rfl⟩, fun h => by cases h⟩
theorem lk_103 (n : Nat) (nm : String) : gLn "TrunkDuel$Player" nm (.putfield 18, n, 5, 2, 0, 0, 0) := ⟨_, _, _, tyX5 2, rfl, by decide, rfl, kw_119, tyX5_ok 2 (by decide), Or.inl ⟨rfl, rfl⟩, fun h => by cases h⟩
theorem lk_104 (n : Nat) (nm : String) : gLn "TrunkDuel$Player" nm (.newarray .int, n, 0, 0, 0, 0, 0) := kw_74
theorem lk_105 (n : Nat) : gLn "TrunkDuel$Player" "<init>" (.putfield 21, n, 5, 3, 1, 1, 0) := ⟨_, _, _, tyX5 3, rfl, by decide, rfl, kw_120, tyX5_ok 3 (by decide), Or.inr (Or.inl ⟨rfl, rfl⟩), fun _ => ⟨rfl, rfl⟩⟩
theorem lk_106 (n : Nat) : gLn "TrunkDuel$Player" "<init>" (.putfield 25, n, 5, 4, 1, 1, 0) := ⟨_, _, _, tyX5 4, rfl, by decide, rfl, kw_121, tyX5_ok 4 (by decide), Or.inr (Or.inl ⟨rfl, rfl⟩), fun _ => ⟨rfl, rfl⟩⟩
theorem lk_107 (n : Nat) (nm : String) : gLn "TrunkDuel$Player" nm (.getfield 25, n, 5, 4, 1, 1, 0) := ⟨_, _, _, rfl, by decide, rfl, kw_121⟩
theorem lk_108 (n : Nat) (nm : String) : gLn "TrunkDuel$Player" nm (.getfield 9, n, 5, 0, 0, 0, 0) := ⟨_, _, _, rfl, by decide, rfl, kw_112⟩
theorem lk_109 (n : Nat) (nm : String) : gLn "TrunkDuel$Player" nm (.getfield 15, n, 5, 1, 0, 0, 0) := ⟨_, _, _, rfl, by decide, rfl, kw_115⟩
theorem lk_110 (n : Nat) (nm : String) : gLn "TrunkDuel$Player" nm (.getfield 18, n, 5, 2, 0, 0, 0) := ⟨_, _, _, rfl, by decide, rfl, kw_119⟩
theorem lk_111 (n : Nat) (nm : String) : gLn "TrunkDuel$Player" nm (.getfield 21, n, 5, 3, 1, 1, 0) := ⟨_, _, _, rfl, by decide, rfl, kw_120⟩
theorem lk_112 (n : Nat) (nm : String) : gLn "TrunkDuel$Player" nm (.invokestatic 28, n, 0, 0, 0, 0, 25) := kw_706
theorem lk_113 (n : Nat) (nm : String) : gLn "TrunkDuel$Reader" nm (.invokespecial 3, n, 0, 0, 0, 0, 26) := kw_42
theorem lk_114 (n : Nat) (nm : String) : gLn "TrunkDuel$Reader" nm (.putfield 9, n, 6, 0, 0, 0, 0) := ⟨_, _, _, tyX6 0, rfl, by decide, rfl, kw_216, tyX6_ok 0 (by decide), Or.inl ⟨rfl, rfl⟩, fun h => by cases h⟩
theorem lk_115 (n : Nat) (nm : String) : gLn "TrunkDuel$Reader" nm (.putfield 15, n, 6, 1, 0, 0, 0) := ⟨_, _, _, tyX6 1, rfl, by decide, rfl, kw_218, tyX6_ok 1 (by decide), Or.inl ⟨rfl, rfl⟩, fun h => by cases h⟩
theorem lk_116 (n : Nat) (nm : String) : gLn "TrunkDuel$Reader" nm (.putfield 18, n, 6, 2, 0, 0, 0) := ⟨_, _, _, tyX6 2, rfl, by decide, rfl, kw_219, tyX6_ok 2 (by decide), Or.inl ⟨rfl, rfl⟩, fun h => by cases h⟩
theorem lk_117 (n : Nat) (nm : String) : gLn "TrunkDuel$Reader" nm (.putfield 21, n, 6, 3, 0, 0, 0) := ⟨_, _, _, tyX6 3, rfl, by decide, rfl, kw_220, tyX6_ok 3 (by decide), Or.inl ⟨rfl, rfl⟩, fun h => by cases h⟩
theorem lk_118 (n : Nat) (nm : String) : gLn "TrunkDuel$Reader" nm (.new 24, n, 8, 6, 0, 0, 0) := ⟨_, _, _, rfl, rfl, kw_43, kw_44, kw_3⟩
theorem lk_119 (n : Nat) (nm : String) : gLn "TrunkDuel$Reader" nm (.invokespecial 26, n, 71, 1, 16, 427, 1) := ⟨Or.inr (List.mem_of_getElem? (i := 1) rfl), mwI_71⟩
theorem lk_120 (n : Nat) : gLn "TrunkDuel$Reader" "<init>" (.putfield 27, n, 6, 4, 1, 1, 0) := ⟨_, _, _, tyX6 4, rfl, by decide, rfl, kw_221, tyX6_ok 4 (by decide), Or.inr (Or.inl ⟨rfl, rfl⟩), fun _ => ⟨rfl, rfl⟩⟩
theorem lk_121 (n : Nat) (nm : String) : gLn "TrunkDuel$Reader" nm (.new 31, n, 2, 11, 0, 0, 0) := ⟨_, _, _, rfl, rfl, kw_162, kw_163, kw_7⟩
theorem lk_122 (n : Nat) (nm : String) : gLn "TrunkDuel$Reader" nm (.invokespecial 33, n, 8, 1, 5, 20, 1) := ⟨Or.inr (List.mem_of_getElem? (i := 5) rfl), mwI_8⟩
theorem lk_123 (n : Nat) : gLn "TrunkDuel$Reader" "<init>" (.putfield 34, n, 6, 5, 1, 1, 0) := ⟨_, _, _, tyX6 5, rfl, by decide, rfl, kw_223, tyX6_ok 5 (by decide), Or.inr (Or.inl ⟨rfl, rfl⟩), fun _ => ⟨rfl, rfl⟩⟩
theorem lk_124 (n : Nat) (nm : String) : gLn "TrunkDuel$Reader" nm (.newarray .int, n, 0, 0, 0, 0, 0) := kw_74
theorem lk_125 (n : Nat) : gLn "TrunkDuel$Reader" "<init>" (.putfield 38, n, 6, 6, 1, 1, 0) := ⟨_, _, _, tyX6 6, rfl, by decide, rfl, kw_224, tyX6_ok 6 (by decide), Or.inr (Or.inl ⟨rfl, rfl⟩), fun _ => ⟨rfl, rfl⟩⟩
theorem lk_126 (n : Nat) (nm : String) : gLn "TrunkDuel$Reader" nm (.putfield 42, n, 6, 7, 0, 0, 0) := ⟨_, _, _, tyX6 7, rfl, by decide, rfl, kw_225, tyX6_ok 7 (by decide), Or.inl ⟨rfl, rfl⟩, fun h => by cases h⟩
theorem lk_127 (n : Nat) (nm : String) : gLn "TrunkDuel$Reader" nm (.putfield 45, n, 6, 8, 0, 0, 0) := ⟨_, _, _, tyX6 8, rfl, by decide, rfl, kw_226, tyX6_ok 8 (by decide), Or.inl ⟨rfl, rfl⟩, fun h => by cases h⟩
theorem lk_128 (n : Nat) (nm : String) : gLn "TrunkDuel$Reader" nm (.putfield 48, n, 6, 9, 0, 0, 0) := ⟨_, _, _, tyX6 9, rfl, by decide, rfl, kw_227, tyX6_ok 9 (by decide), Or.inl ⟨rfl, rfl⟩, fun h => by cases h⟩
theorem lk_129 (n : Nat) (nm : String) : gLn "TrunkDuel$Reader" nm (.putfield 51, n, 6, 10, 0, 0, 0) := ⟨_, _, _, tyX6 10, rfl, by decide, rfl, kw_228, tyX6_ok 10 (by decide), Or.inl ⟨rfl, rfl⟩, fun h => by cases h⟩
theorem lk_130 (n : Nat) (nm : String) : gLn "TrunkDuel$Reader" nm (.putfield 54, n, 6, 11, 0, 0, 0) := ⟨_, _, _, tyX6 11, rfl, by decide, rfl, kw_229, tyX6_ok 11 (by decide), Or.inl ⟨rfl, rfl⟩, fun h => by cases h⟩
theorem lk_131 (n : Nat) (nm : String) : gLn "TrunkDuel$Reader" nm (.putfield 57, n, 6, 12, 0, 0, 0) := ⟨_, _, _, tyX6 12, rfl, by decide, rfl, kw_230, tyX6_ok 12 (by decide), Or.inl ⟨rfl, rfl⟩, fun h => by cases h⟩
theorem lk_132 (n : Nat) (nm : String) : gLn "TrunkDuel$Reader" nm (.putfield 60, n, 6, 13, 0, 0, 0) := ⟨_, _, _, tyX6 13, rfl, by decide, rfl, kw_231, tyX6_ok 13 (by decide), Or.inl ⟨rfl, rfl⟩, fun h => by cases h⟩
theorem lk_133 (n : Nat) (nm : String) : gLn "TrunkDuel$Reader" nm (.getfield 9, n, 6, 0, 0, 0, 0) := ⟨_, _, _, rfl, by decide, rfl, kw_216⟩
theorem lk_134 (n : Nat) (nm : String) : gLn "TrunkDuel$Reader" nm (.invokevirtual 63, n, 0, 0, 0, 0, 23) := kw_349
theorem lk_135 (n : Nat) (nm : String) : gLn "TrunkDuel$Reader" nm (.invokevirtual 68, n, 0, 0, 0, 0, 24) := kw_359
theorem lk_136 (n : Nat) (nm : String) : gLn "TrunkDuel$Reader" nm (.invokevirtual 72, n, 43, 2, 0, 0, 1) := ⟨kw_397, mwV_43⟩
theorem lk_137 (n : Nat) (nm : String) : gLn "TrunkDuel$Reader" nm (.getfield 38, n, 6, 6, 1, 1, 0) := ⟨_, _, _, rfl, by decide, rfl, kw_224⟩
theorem lk_138 (n : Nat) (nm : String) : gLn "TrunkDuel$Reader" nm (.invokevirtual 76, n, 59, 1, 0, 0, 1) := ⟨kw_405, mwV_59⟩
theorem lk_139 (n : Nat) (nm : String) : gLn "TrunkDuel$Reader" nm (.invokevirtual 86, n, 47, 1, 0, 0, 0) := ⟨kw_428, mwV_47⟩
theorem lk_140 (n : Nat) (nm : String) : gLn "TrunkDuel$Reader" nm (.invokevirtual 90, n, 48, 1, 0, 0, 0) := ⟨kw_462, mwV_48⟩
theorem lk_141 (n : Nat) (nm : String) : gLn "TrunkDuel$Reader" nm (.invokevirtual 93, n, 49, 1, 0, 0, 0) := ⟨kw_479, mwV_49⟩
theorem lk_142 (n : Nat) (nm : String) : gLn "TrunkDuel$Reader" nm (.invokevirtual 96, n, 50, 2, 0, 0, 0) := ⟨kw_512, mwV_50⟩
theorem lk_143 (n : Nat) (nm : String) : gLn "TrunkDuel$Reader" nm (.getfield 45, n, 6, 8, 0, 0, 0) := ⟨_, _, _, rfl, by decide, rfl, kw_226⟩
theorem lk_144 (n : Nat) (nm : String) : gLn "TrunkDuel$Reader" nm (.ldc 100, n, 100023, 0, 0, 0, 1) := ⟨by decide, _, List.mem_of_getElem? (i := 1) rfl⟩
theorem lk_145 (n : Nat) (nm : String) : gLn "TrunkDuel$Reader" nm (.invokevirtual 102, n, 62, 2, 0, 0, 0) := ⟨kw_433, mwV_62⟩
theorem lk_146 (n : Nat) (nm : String) : gLn "TrunkDuel$Reader" nm (.invokevirtual 106, n, 52, 1, 0, 0, 0) := ⟨kw_542, mwV_52⟩
theorem lk_147 (n : Nat) (nm : String) : gLn "TrunkDuel$Reader" nm (.ldc 109, n, 100019, 0, 0, 0, 1) := ⟨by decide, _, List.mem_of_getElem? (i := 2) rfl⟩
theorem lk_148 (n : Nat) (nm : String) : gLn "TrunkDuel$Reader" nm (.invokevirtual 111, n, 53, 1, 0, 0, 0) := ⟨kw_643, mwV_53⟩
theorem lk_149 (n : Nat) (nm : String) : gLn "TrunkDuel$Reader" nm (.ldc 114, n, 100029, 0, 0, 0, 1) := ⟨by decide, _, List.mem_of_getElem? (i := 3) rfl⟩
theorem lk_150 (n : Nat) (nm : String) : gLn "TrunkDuel$Reader" nm (.getfield 27, n, 6, 4, 1, 1, 0) := ⟨_, _, _, rfl, by decide, rfl, kw_221⟩
theorem lk_151 (n : Nat) (nm : String) : gLn "TrunkDuel$Reader" nm (.getfield 34, n, 6, 5, 1, 1, 0) := ⟨_, _, _, rfl, by decide, rfl, kw_223⟩
theorem lk_152 (n : Nat) (nm : String) : gLn "TrunkDuel$Reader" nm (.invokevirtual 116, n, 80, 2, 0, 0, 0) := ⟨kw_663, mwV_80⟩
theorem lk_153 (n : Nat) (nm : String) : gLn "TrunkDuel$Reader" nm (.invokevirtual 120, n, 58, 2, 0, 0, 0) := ⟨kw_437, mwV_58⟩
theorem lk_154 (n : Nat) (nm : String) : gLn "TrunkDuel$Reader" nm (.invokevirtual 123, n, 81, 1, 0, 0, 0) := ⟨kw_682, mwV_81⟩
theorem lk_155 (n : Nat) (nm : String) : gLn "TrunkDuel$Reader" nm (.invokevirtual 126, n, 57, 1, 0, 0, 0) := ⟨kw_458, mwV_57⟩
theorem lk_156 (n : Nat) (nm : String) : gLn "TrunkDuel$Reader" nm (.getfield 21, n, 6, 3, 0, 0, 0) := ⟨_, _, _, rfl, by decide, rfl, kw_220⟩
theorem lk_157 (n : Nat) (nm : String) : gLn "TrunkDuel$Reader" nm (.ldc 129, n, 100017, 0, 0, 0, 1) := ⟨by decide, _, List.mem_of_getElem? (i := 4) rfl⟩
theorem lk_158 (n : Nat) (nm : String) : gLn "TrunkDuel$Reader" nm (.invokevirtual 131, n, 56, 3, 0, 0, 0) := ⟨kw_441, mwV_56⟩
theorem lk_159 (n : Nat) (nm : String) : gLn "TrunkDuel$Reader" nm (.invokevirtual 135, n, 72, 3, 0, 0, 1) := ⟨kw_445, mwV_72⟩
theorem lk_160 (n : Nat) (nm : String) : gLn "TrunkDuel$Reader" nm (.ldc 139, n, 100018, 0, 0, 0, 1) := ⟨by decide, _, List.mem_of_getElem? (i := 5) rfl⟩
theorem lk_161 (n : Nat) (nm : String) : gLn "TrunkDuel$Reader" nm (.getfield 141, n, 8, 0, 1, 1, 0) := ⟨_, _, _, rfl, by decide, rfl, kw_136⟩
theorem lk_162 (n : Nat) (nm : String) : gLn "TrunkDuel$Reader" nm (.getfield 144, n, 9, 0, 0, 0, 0) := ⟨_, _, _, rfl, by decide, rfl, kw_57⟩
theorem lk_163 (n : Nat) (nm : String) : gLn "TrunkDuel$Reader" nm (.getfield 149, n, 9, 1, 0, 0, 0) := ⟨_, _, _, rfl, by decide, rfl, kw_61⟩
theorem lk_164 (n : Nat) (nm : String) : gLn "TrunkDuel$Reader" nm (.invokevirtual 152, n, 89, 3, 0, 0, 0) := ⟨kw_467, mwV_89⟩
theorem lk_165 (n : Nat) (nm : String) : gLn "TrunkDuel$Reader" nm (.invokevirtual 155, n, 90, 4, 0, 0, 1) := ⟨kw_471, mwV_90⟩
theorem lk_166 (n : Nat) (nm : String) : gLn "TrunkDuel$Reader" nm (.invokevirtual 159, n, 54, 1, 0, 0, 0) := ⟨kw_484, mwV_54⟩
theorem lk_167 (n : Nat) (nm : String) : gLn "TrunkDuel$Reader" nm (.getfield 54, n, 6, 11, 0, 0, 0) := ⟨_, _, _, rfl, by decide, rfl, kw_229⟩
theorem lk_168 (n : Nat) (nm : String) : gLn "TrunkDuel$Reader" nm (.getfield 57, n, 6, 12, 0, 0, 0) := ⟨_, _, _, rfl, by decide, rfl, kw_230⟩
theorem lk_169 (n : Nat) (nm : String) : gLn "TrunkDuel$Reader" nm (.getfield 60, n, 6, 13, 0, 0, 0) := ⟨_, _, _, rfl, by decide, rfl, kw_231⟩
theorem lk_170 (n : Nat) (nm : String) : gLn "TrunkDuel$Reader" nm (.invokevirtual 162, n, 91, 4, 0, 0, 0) := ⟨kw_494, mwV_91⟩
theorem lk_171 (n : Nat) (nm : String) : gLn "TrunkDuel$Reader" nm (.invokevirtual 166, n, 94, 4, 0, 0, 0) := ⟨kw_498, mwV_94⟩
theorem lk_172 (n : Nat) (nm : String) : gLn "TrunkDuel$Reader" nm (.invokevirtual 169, n, 92, 4, 0, 0, 1) := ⟨kw_507, mwV_92⟩
theorem lk_173 (n : Nat) (nm : String) : gLn "TrunkDuel$Reader" nm (.ldc 172, n, 100022, 0, 0, 0, 1) := ⟨by decide, _, List.mem_of_getElem? (i := 6) rfl⟩
theorem lk_174 (n : Nat) (nm : String) : gLn "TrunkDuel$Reader" nm (.invokevirtual 174, n, 51, 2, 0, 0, 0) := ⟨kw_517, mwV_51⟩
theorem lk_175 (n : Nat) (nm : String) : gLn "TrunkDuel$Reader" nm (.invokevirtual 177, n, 75, 2, 0, 0, 2) := ⟨kw_521, mwV_75⟩
theorem lk_176 (n : Nat) (nm : String) : gLn "TrunkDuel$Reader" nm (.invokevirtual 181, n, 38, 3, 0, 0, 1) := ⟨kw_533, mwV_38⟩
theorem lk_177 (n : Nat) (nm : String) : gLn "TrunkDuel$Reader" nm (.putfield 186, n, 5, 1, 0, 0, 0) := ⟨_, _, _, tyX5 1, rfl, by decide, rfl, kw_117, tyX5_ok 1 (by decide), Or.inl ⟨rfl, rfl⟩, fun h => by cases h⟩
theorem lk_178 (n : Nat) (nm : String) : gLn "TrunkDuel$Reader" nm (.getfield 42, n, 6, 7, 0, 0, 0) := ⟨_, _, _, rfl, by decide, rfl, kw_225⟩
theorem lk_179 (n : Nat) (nm : String) : gLn "TrunkDuel$Reader" nm (.getfield 48, n, 6, 9, 0, 0, 0) := ⟨_, _, _, rfl, by decide, rfl, kw_227⟩
theorem lk_180 (n : Nat) (nm : String) : gLn "TrunkDuel$Reader" nm (.invokevirtual 189, n, 63, 2, 0, 0, 0) := ⟨kw_413, mwV_63⟩
theorem lk_181 (n : Nat) (nm : String) : gLn "TrunkDuel$Reader" nm (.invokevirtual 193, n, 35, 2, 0, 0, 1) := ⟨kw_525, mwV_35⟩
theorem lk_182 (n : Nat) (nm : String) : gLn "TrunkDuel$Reader" nm (.getfield 196, n, 8, 3, 1, 1, 0) := ⟨_, _, _, rfl, by decide, rfl, kw_143⟩
theorem lk_183 (n : Nat) (nm : String) : gLn "TrunkDuel$Reader" nm (.getfield 200, n, 8, 2, 1, 1, 0) := ⟨_, _, _, rfl, by decide, rfl, kw_140⟩
theorem lk_184 (n : Nat) (nm : String) : gLn "TrunkDuel$Reader" nm (.invokevirtual 203, n, 36, 2, 0, 0, 0) := ⟨kw_529, mwV_36⟩
theorem lk_185 (n : Nat) (nm : String) : gLn "TrunkDuel$Reader" nm (.invokevirtual 207, n, 55, 1, 0, 0, 0) := ⟨kw_546, mwV_55⟩
theorem lk_186 (n : Nat) (nm : String) : gLn "TrunkDuel$Reader" nm (.invokevirtual 210, n, 9, 3, 0, 0, 1) := ⟨kw_555, mwV_9⟩
theorem lk_187 (n : Nat) (nm : String) : gLn "TrunkDuel$Reader" nm (.invokevirtual 213, n, 10, 3, 0, 0, 1) := ⟨kw_573, mwV_10⟩
theorem lk_188 (n : Nat) (nm : String) : gLn "TrunkDuel$Reader" nm (.invokevirtual 216, n, 76, 2, 0, 0, 0) := ⟨kw_577, mwV_76⟩
theorem lk_189 (n : Nat) (nm : String) : gLn "TrunkDuel$Reader" nm (.invokevirtual 219, n, 77, 2, 0, 0, 0) := ⟨kw_619, mwV_77⟩
theorem lk_190 (n : Nat) (nm : String) : gLn "TrunkDuel$Reader" nm (.invokevirtual 223, n, 78, 4, 0, 0, 0) := ⟨kw_647, mwV_78⟩
theorem lk_191 (n : Nat) (nm : String) : gLn "TrunkDuel$Reader" nm (.invokevirtual 226, n, 79, 4, 0, 0, 0) := ⟨kw_657, mwV_79⟩
theorem lk_192 (n : Nat) (nm : String) : gLn "TrunkDuel$Reader" nm (.ldc 230, n, 100020, 0, 0, 0, 1) := ⟨by decide, _, List.mem_of_getElem? (i := 7) rfl⟩
theorem lk_193 (n : Nat) (nm : String) : gLn "TrunkDuel$Reader" nm (.ldc 232, n, 100021, 0, 0, 0, 1) := ⟨by decide, _, List.mem_of_getElem? (i := 8) rfl⟩
theorem lk_194 (n : Nat) (nm : String) : gLn "TrunkDuel$Reader" nm (.invokevirtual 234, n, 88, 4, 0, 0, 0) := ⟨kw_490, mwV_88⟩
theorem lk_195 (n : Nat) (nm : String) : gLn "TrunkDuel$Reader" nm (.ldc 237, n, 100024, 0, 0, 0, 1) := ⟨by decide, _, List.mem_of_getElem? (i := 9) rfl⟩
theorem lk_196 (n : Nat) (nm : String) : gLn "TrunkDuel$Reader" nm (.ldc 239, n, 100025, 0, 0, 0, 1) := ⟨by decide, _, List.mem_of_getElem? (i := 10) rfl⟩
theorem lk_197 (n : Nat) (nm : String) : gLn "TrunkDuel$Reader" nm (.ldc 241, n, 100026, 0, 0, 0, 1) := ⟨by decide, _, List.mem_of_getElem? (i := 11) rfl⟩
theorem lk_198 (n : Nat) (nm : String) : gLn "TrunkDuel$Reader" nm (.ldc 243, n, 100027, 0, 0, 0, 1) := ⟨by decide, _, List.mem_of_getElem? (i := 12) rfl⟩
theorem lk_199 (n : Nat) (nm : String) : gLn "TrunkDuel$Reader" nm (.ldc 245, n, 100028, 0, 0, 0, 1) := ⟨by decide, _, List.mem_of_getElem? (i := 13) rfl⟩
theorem lk_200 (n : Nat) (nm : String) : gLn "TrunkDuel$Reader" nm (.getfield 51, n, 6, 10, 0, 0, 0) := ⟨_, _, _, rfl, by decide, rfl, kw_228⟩
theorem lk_201 (n : Nat) (nm : String) : gLn "TrunkDuel$Reader" nm (.invokevirtual 247, n, 60, 3, 0, 0, 0) := ⟨kw_409, mwV_60⟩
theorem lk_202 (n : Nat) (nm : String) : gLn "TrunkDuel$Reader" nm (.invokevirtual 250, n, 61, 1, 0, 0, 0) := ⟨kw_417, mwV_61⟩
theorem lk_203 (n : Nat) (nm : String) : gLn "TrunkDuel$Reader" nm (.invokestatic 253, n, 0, 0, 0, 0, 20) := kw_421
theorem lk_204 (n : Nat) (nm : String) : gLn "TrunkDuel$Regions" nm (.invokespecial 3, n, 0, 0, 0, 0, 26) := kw_326
theorem lk_205 (n : Nat) (nm : String) : gLn "TrunkDuel$Regions" nm (.putfield 9, n, 7, 0, 0, 0, 0) := ⟨_, _, _, tyX7 0, rfl, by decide, rfl, kw_327, tyX7_ok 0 (by decide), Or.inl ⟨rfl, rfl⟩, fun h => by cases h⟩
theorem lk_206 (n : Nat) (nm : String) : gLn "TrunkDuel$Regions" nm (.newarray .int, n, 0, 0, 0, 0, 0) := kw_74
theorem lk_207 (n : Nat) : gLn "TrunkDuel$Regions" "<init>" (.putfield 15, n, 7, 1, 1, 1, 0) := ⟨_, _, _, tyX7 1, rfl, by decide, rfl, kw_329, tyX7_ok 1 (by decide), Or.inr (Or.inl ⟨rfl, rfl⟩), fun _ => ⟨rfl, rfl⟩⟩
theorem lk_208 (n : Nat) : gLn "TrunkDuel$Regions" "<init>" (.putfield 19, n, 7, 2, 1, 1, 0) := ⟨_, _, _, tyX7 2, rfl, by decide, rfl, kw_330, tyX7_ok 2 (by decide), Or.inr (Or.inl ⟨rfl, rfl⟩), fun _ => ⟨rfl, rfl⟩⟩
theorem lk_209 (n : Nat) : gLn "TrunkDuel$Regions" "<init>" (.putfield 22, n, 7, 3, 1, 1, 0) := ⟨_, _, _, tyX7 3, rfl, by decide, rfl, kw_331, tyX7_ok 3 (by decide), Or.inr (Or.inl ⟨rfl, rfl⟩), fun _ => ⟨rfl, rfl⟩⟩
theorem lk_210 (n : Nat) (nm : String) : gLn "TrunkDuel$Regions" nm (.putfield 25, n, 7, 4, 0, 0, 0) := ⟨_, _, _, tyX7 4, rfl, by decide, rfl, kw_332, tyX7_ok 4 (by decide), Or.inl ⟨rfl, rfl⟩, fun h => by cases h⟩
theorem lk_211 (n : Nat) (nm : String) : gLn "TrunkDuel$Regions" nm (.getfield 15, n, 7, 1, 1, 1, 0) := ⟨_, _, _, rfl, by decide, rfl, kw_329⟩
theorem lk_212 (n : Nat) (nm : String) : gLn "TrunkDuel$Regions" nm (.getfield 19, n, 7, 2, 1, 1, 0) := ⟨_, _, _, rfl, by decide, rfl, kw_330⟩
theorem lk_213 (n : Nat) (nm : String) : gLn "TrunkDuel$Regions" nm (.getfield 28, n, 9, 1, 0, 0, 0) := ⟨_, _, _, rfl, by decide, rfl, kw_60⟩
theorem lk_214 (n : Nat) (nm : String) : gLn "TrunkDuel$Regions" nm (.getfield 33, n, 9, 0, 0, 0, 0) := ⟨_, _, _, rfl, by decide, rfl, kw_56⟩
theorem lk_215 (n : Nat) (nm : String) : gLn "TrunkDuel$Regions" nm (.invokevirtual 36, n, 69, 4, 0, 0, 1) := ⟨kw_973, mwV_69⟩
theorem lk_216 (n : Nat) (nm : String) : gLn "TrunkDuel$Regions" nm (.getfield 9, n, 7, 0, 0, 0, 0) := ⟨_, _, _, rfl, by decide, rfl, kw_327⟩
theorem lk_217 (n : Nat) (nm : String) : gLn "TrunkDuel$Regions" nm (.invokevirtual 40, n, 67, 2, 0, 0, 0) := ⟨kw_987, mwV_67⟩
theorem lk_218 (n : Nat) (nm : String) : gLn "TrunkDuel$Regions" nm (.invokevirtual 44, n, 70, 4, 0, 0, 1) := ⟨kw_977, mwV_70⟩
theorem lk_219 (n : Nat) (nm : String) : gLn "TrunkDuel$Regions" nm (.getfield 25, n, 7, 4, 0, 0, 0) := ⟨_, _, _, rfl, by decide, rfl, kw_332⟩
theorem lk_220 (n : Nat) (nm : String) : gLn "TrunkDuel$Regions" nm (.getfield 22, n, 7, 3, 1, 1, 0) := ⟨_, _, _, rfl, by decide, rfl, kw_331⟩
theorem lk_221 (n : Nat) (nm : String) : gLn "TrunkDuel$Regions" nm (.invokevirtual 47, n, 91, 4, 0, 0, 0) := ⟨kw_982, mwV_91⟩
theorem lk_222 (n : Nat) (nm : String) : gLn "TrunkDuel$Regions" nm (.invokevirtual 51, n, 89, 3, 0, 0, 0) := ⟨kw_981, mwV_89⟩
theorem lk_223 (n : Nat) (nm : String) : gLn "TrunkDuel$State" nm (.invokespecial 3, n, 0, 0, 0, 0, 26) := kw_48
theorem lk_224 (n : Nat) (nm : String) : gLn "TrunkDuel$State" nm (.new 9, n, 9, 4, 0, 0, 0) := ⟨_, _, _, rfl, rfl, kw_49, kw_50, kw_4⟩
theorem lk_225 (n : Nat) (nm : String) : gLn "TrunkDuel$State" nm (.invokespecial 11, n, 84, 1, 2, 192, 1) := ⟨Or.inr (List.mem_of_getElem? (i := 2) rfl), mwI_84⟩
theorem lk_226 (n : Nat) : gLn "TrunkDuel$State" "<init>" (.putfield 12, n, 8, 0, 1, 1, 0) := ⟨_, _, _, tyX8 0, rfl, by decide, rfl, kw_133, tyX8_ok 0 (by decide), Or.inr (Or.inl ⟨rfl, rfl⟩), fun _ => ⟨rfl, rfl⟩⟩
theorem lk_227 (n : Nat) (nm : String) : gLn "TrunkDuel$State" nm (.new 18, n, 4, 7, 0, 0, 0) := ⟨_, _, _, rfl, rfl, kw_76, kw_77, kw_5⟩
theorem lk_228 (n : Nat) (nm : String) : gLn "TrunkDuel$State" nm (.invokespecial 20, n, 22, 1, 6, 192, 1) := ⟨Or.inr (List.mem_of_getElem? (i := 3) rfl), mwI_22⟩
theorem lk_229 (n : Nat) : gLn "TrunkDuel$State" "<init>" (.putfield 21, n, 8, 1, 1, 1, 0) := ⟨_, _, _, tyX8 1, rfl, by decide, rfl, kw_137, tyX8_ok 1 (by decide), Or.inr (Or.inl ⟨rfl, rfl⟩), fun _ => ⟨rfl, rfl⟩⟩
theorem lk_230 (n : Nat) (nm : String) : gLn "TrunkDuel$State" nm (.new 25, n, 5, 5, 0, 0, 0) := ⟨_, _, _, rfl, rfl, kw_106, kw_107, kw_6⟩
theorem lk_231 (n : Nat) (nm : String) : gLn "TrunkDuel$State" nm (.invokespecial 27, n, 32, 1, 2, 11, 1) := ⟨Or.inr (List.mem_of_getElem? (i := 4) rfl), mwI_32⟩
theorem lk_232 (n : Nat) : gLn "TrunkDuel$State" "<init>" (.putfield 28, n, 8, 2, 1, 1, 0) := ⟨_, _, _, tyX8 2, rfl, by decide, rfl, kw_139, tyX8_ok 2 (by decide), Or.inr (Or.inl ⟨rfl, rfl⟩), fun _ => ⟨rfl, rfl⟩⟩
theorem lk_233 (n : Nat) : gLn "TrunkDuel$State" "<init>" (.putfield 32, n, 8, 3, 1, 1, 0) := ⟨_, _, _, tyX8 3, rfl, by decide, rfl, kw_142, tyX8_ok 3 (by decide), Or.inr (Or.inl ⟨rfl, rfl⟩), fun _ => ⟨rfl, rfl⟩⟩
theorem lk_234 (n : Nat) (nm : String) : gLn "TrunkDuel$State" nm (.putfield 35, n, 8, 4, 0, 0, 0) := ⟨_, _, _, tyX8 4, rfl, by decide, rfl, kw_145, tyX8_ok 4 (by decide), Or.inl ⟨rfl, rfl⟩, fun h => by cases h⟩
theorem lk_235 (n : Nat) (nm : String) : gLn "TrunkDuel$State" nm (.putfield 39, n, 8, 5, 0, 0, 0) := ⟨_, _, _, tyX8 5, rfl, by decide, rfl, kw_148, tyX8_ok 5 (by decide), Or.inl ⟨rfl, rfl⟩, fun h => by cases h⟩
theorem lk_236 (n : Nat) (nm : String) : gLn "TrunkDuel$State" nm (.getfield 12, n, 8, 0, 1, 1, 0) := ⟨_, _, _, rfl, by decide, rfl, kw_133⟩
theorem lk_237 (n : Nat) (nm : String) : gLn "TrunkDuel$State" nm (.invokevirtual 42, n, 85, 3, 0, 0, 1) := ⟨kw_449, mwV_85⟩
theorem lk_238 (n : Nat) (nm : String) : gLn "TrunkDuel$State" nm (.getfield 21, n, 8, 1, 1, 1, 0) := ⟨_, _, _, rfl, by decide, rfl, kw_137⟩
theorem lk_239 (n : Nat) (nm : String) : gLn "TrunkDuel$State" nm (.putfield 46, n, 4, 0, 0, 0, 0) := ⟨_, _, _, tyX4 0, rfl, by decide, rfl, kw_83, tyX4_ok 0 (by decide), Or.inl ⟨rfl, rfl⟩, fun h => by cases h⟩
theorem lk_240 (n : Nat) (nm : String) : gLn "TrunkDuel$State" nm (.getfield 28, n, 8, 2, 1, 1, 0) := ⟨_, _, _, rfl, by decide, rfl, kw_139⟩
theorem lk_241 (n : Nat) (nm : String) : gLn "TrunkDuel$State" nm (.invokevirtual 49, n, 33, 1, 0, 0, 1) := ⟨kw_454, mwV_33⟩
theorem lk_242 (n : Nat) (nm : String) : gLn "TrunkDuel$State" nm (.getfield 32, n, 8, 3, 1, 1, 0) := ⟨_, _, _, rfl, by decide, rfl, kw_142⟩
theorem lk_243 (n : Nat) (nm : String) : gLn "TrunkDuel$State" nm (.invokevirtual 51, n, 86, 2, 0, 0, 1) := ⟨kw_690, mwV_86⟩
theorem lk_244 (n : Nat) (nm : String) : gLn "TrunkDuel$State" nm (.invokevirtual 55, n, 23, 2, 0, 0, 1) := ⟨kw_697, mwV_23⟩
theorem lk_245 (n : Nat) (nm : String) : gLn "TrunkDuel$State" nm (.invokevirtual 58, n, 34, 2, 0, 0, 1) := ⟨kw_702, mwV_34⟩
theorem lk_246 (n : Nat) (nm : String) : gLn "TrunkDuel$State" nm (.getfield 35, n, 8, 4, 0, 0, 0) := ⟨_, _, _, rfl, by decide, rfl, kw_145⟩
theorem lk_247 (n : Nat) (nm : String) : gLn "TrunkDuel$State" nm (.getfield 39, n, 8, 5, 0, 0, 0) := ⟨_, _, _, rfl, by decide, rfl, kw_148⟩
theorem lk_248 (n : Nat) (nm : String) : gLn "TrunkDuel$State" nm (.invokevirtual 61, n, 74, 1, 0, 0, 0) := ⟨kw_581, mwV_74⟩
theorem lk_249 (n : Nat) (nm : String) : gLn "TrunkDuel$State" nm (.invokevirtual 65, n, 75, 2, 0, 0, 2) := ⟨kw_585, mwV_75⟩
theorem lk_250 (n : Nat) (nm : String) : gLn "TrunkDuel$State" nm (.getfield 69, n, 2, 0, 0, 0, 0) := ⟨_, _, _, rfl, by decide, rfl, kw_171⟩
theorem lk_251 (n : Nat) (nm : String) : gLn "TrunkDuel$State" nm (.invokevirtual 74, n, 37, 2, 0, 0, 0) := ⟨kw_586, mwV_37⟩
theorem lk_252 (n : Nat) (nm : String) : gLn "TrunkDuel$State" nm (.invokevirtual 78, n, 100, 2, 0, 0, 0) := ⟨kw_590, mwV_100⟩
theorem lk_253 (n : Nat) (nm : String) : gLn "TrunkDuel$State" nm (.invokevirtual 82, n, 104, 2, 0, 0, 0) := ⟨kw_623, mwV_104⟩
theorem lk_254 (n : Nat) (nm : String) : gLn "TrunkDuel$State" nm (.getfield 85, n, 2, 4, 0, 0, 0) := ⟨_, _, _, rfl, by decide, rfl, kw_182⟩
theorem lk_255 (n : Nat) (nm : String) : gLn "TrunkDuel$State" nm (.invokevirtual 88, n, 13, 2, 0, 0, 0) := ⟨kw_631, mwV_13⟩
theorem lk_256 (n : Nat) (nm : String) : gLn "TrunkDuel$State" nm (.invokevirtual 91, n, 14, 2, 0, 0, 0) := ⟨kw_632, mwV_14⟩
theorem lk_257 (n : Nat) (nm : String) : gLn "TrunkDuel$State" nm (.getfield 46, n, 4, 0, 0, 0, 0) := ⟨_, _, _, rfl, by decide, rfl, kw_83⟩
theorem lk_258 (n : Nat) (nm : String) : gLn "TrunkDuel$State" nm (.invokevirtual 94, n, 90, 4, 0, 0, 1) := ⟨kw_633, mwV_90⟩
theorem lk_259 (n : Nat) (nm : String) : gLn "TrunkDuel$State" nm (.invokevirtual 98, n, 24, 4, 0, 0, 1) := ⟨kw_634, mwV_24⟩
theorem lk_260 (n : Nat) (nm : String) : gLn "TrunkDuel$State" nm (.invokevirtual 102, n, 38, 3, 0, 0, 1) := ⟨kw_638, mwV_38⟩
theorem lk_261 (n : Nat) (nm : String) : gLn "TrunkDuel$State" nm (.getfield 105, n, 5, 0, 0, 0, 0) := ⟨_, _, _, rfl, by decide, rfl, kw_113⟩
theorem lk_262 (n : Nat) (nm : String) : gLn "TrunkDuel$State" nm (.putfield 105, n, 5, 0, 0, 0, 0) := ⟨_, _, _, tyX5 0, rfl, by decide, rfl, kw_113, tyX5_ok 0 (by decide), Or.inl ⟨rfl, rfl⟩, fun h => by cases h⟩
theorem lk_263 (n : Nat) (nm : String) : gLn "TrunkDuel$State" nm (.invokevirtual 108, n, 83, 2, 0, 0, 1) := ⟨kw_639, mwV_83⟩
theorem lk_264 (n : Nat) (nm : String) : gLn "TrunkDuel$State" nm (.getfield 112, n, 5, 1, 0, 0, 0) := ⟨_, _, _, rfl, by decide, rfl, kw_116⟩
theorem lk_265 (n : Nat) (nm : String) : gLn "TrunkDuel$State" nm (.invokevirtual 115, n, 91, 4, 0, 0, 0) := ⟨kw_651, mwV_91⟩
theorem lk_266 (n : Nat) (nm : String) : gLn "TrunkDuel$State" nm (.invokevirtual 119, n, 94, 4, 0, 0, 0) := ⟨kw_652, mwV_94⟩
theorem lk_267 (n : Nat) (nm : String) : gLn "TrunkDuel$State" nm (.invokevirtual 122, n, 95, 4, 0, 0, 0) := ⟨kw_653, mwV_95⟩
theorem lk_268 (n : Nat) (nm : String) : gLn "TrunkDuel$State" nm (.invokevirtual 125, n, 92, 4, 0, 0, 1) := ⟨kw_661, mwV_92⟩
theorem lk_269 (n : Nat) (nm : String) : gLn "TrunkDuel$State" nm (.putfield 112, n, 5, 1, 0, 0, 0) := ⟨_, _, _, tyX5 1, rfl, by decide, rfl, kw_116, tyX5_ok 1 (by decide), Or.inl ⟨rfl, rfl⟩, fun h => by cases h⟩
theorem lk_270 (n : Nat) (nm : String) : gLn "TrunkDuel$State" nm (.invokevirtual 128, n, 11, 2, 0, 0, 1) := ⟨kw_667, mwV_11⟩
theorem lk_271 (n : Nat) (nm : String) : gLn "TrunkDuel$State" nm (.invokevirtual 131, n, 102, 2, 0, 0, 0) := ⟨kw_673, mwV_102⟩
theorem lk_272 (n : Nat) (nm : String) : gLn "TrunkDuel$State" nm (.invokevirtual 135, n, 103, 3, 0, 0, 0) := ⟨kw_1232, mwV_103⟩
theorem lk_273 (n : Nat) (nm : String) : gLn "TrunkDuel$Trunk" nm (.invokespecial 3, n, 0, 0, 0, 0, 26) := kw_54
theorem lk_274 (n : Nat) (nm : String) : gLn "TrunkDuel$Trunk" nm (.putfield 9, n, 9, 0, 0, 0, 0) := ⟨_, _, _, tyX9 0, rfl, by decide, rfl, kw_55, tyX9_ok 0 (by decide), Or.inl ⟨rfl, rfl⟩, fun h => by cases h⟩
theorem lk_275 (n : Nat) (nm : String) : gLn "TrunkDuel$Trunk" nm (.putfield 15, n, 9, 1, 0, 0, 0) := ⟨_, _, _, tyX9 1, rfl, by decide, rfl, kw_59, tyX9_ok 1 (by decide), Or.inl ⟨rfl, rfl⟩, fun h => by cases h⟩
theorem lk_276 (n : Nat) (nm : String) : gLn "TrunkDuel$Trunk" nm (.newarray .int, n, 0, 0, 0, 0, 0) := kw_74
theorem lk_277 (n : Nat) : gLn "TrunkDuel$Trunk" "<init>" (.putfield 18, n, 9, 2, 1, 1, 0) := ⟨_, _, _, tyX9 2, rfl, by decide, rfl, kw_63, tyX9_ok 2 (by decide), Or.inr (Or.inl ⟨rfl, rfl⟩), fun _ => ⟨rfl, rfl⟩⟩
theorem lk_278 (n : Nat) (nm : String) : gLn "TrunkDuel$Trunk" nm (.newarray .boolean, n, 0, 0, 0, 0, 0) := kw_75
theorem lk_279 (n : Nat) : gLn "TrunkDuel$Trunk" "<init>" (.putfield 22, n, 9, 3, 1, 1, 0) := ⟨_, _, _, tyX9 3, rfl, by decide, rfl, kw_64, tyX9_ok 3 (by decide), Or.inr (Or.inl ⟨rfl, rfl⟩), fun _ => ⟨rfl, rfl⟩⟩
theorem lk_280 (n : Nat) (nm : String) : gLn "TrunkDuel$Trunk" nm (.invokestatic 26, n, 0, 0, 0, 0, 20) := kw_453
theorem lk_281 (n : Nat) (nm : String) : gLn "TrunkDuel$Trunk" nm (.getfield 18, n, 9, 2, 1, 1, 0) := ⟨_, _, _, rfl, by decide, rfl, kw_63⟩
theorem lk_282 (n : Nat) (nm : String) : gLn "TrunkDuel$Trunk" nm (.getfield 22, n, 9, 3, 1, 1, 0) := ⟨_, _, _, rfl, by decide, rfl, kw_64⟩
theorem lk_283 (n : Nat) (nm : String) : gLn "TrunkDuel$Trunk" nm (.getfield 9, n, 9, 0, 0, 0, 0) := ⟨_, _, _, rfl, by decide, rfl, kw_55⟩
theorem lk_284 (n : Nat) (nm : String) : gLn "TrunkDuel$Trunk" nm (.getfield 15, n, 9, 1, 0, 0, 0) := ⟨_, _, _, rfl, by decide, rfl, kw_59⟩
theorem lk_285 (n : Nat) (nm : String) : gLn "TrunkDuel$Trunk" nm (.invokestatic 32, n, 0, 0, 0, 0, 25) := kw_694
theorem lk_286 (n : Nat) (nm : String) : gLn "TrunkDuel$Trunk" nm (.invokevirtual 38, n, 87, 3, 0, 0, 0) := ⟨kw_475, mwV_87⟩
theorem lk_287 (n : Nat) (nm : String) : gLn "TrunkDuel$Trunk" nm (.invokevirtual 42, n, 88, 4, 0, 0, 0) := ⟨kw_511, mwV_88⟩
theorem lk_288 (n : Nat) (nm : String) : gLn "TrunkDuel$Trunk" nm (.invokevirtual 46, n, 89, 3, 0, 0, 0) := ⟨kw_502, mwV_89⟩
theorem lk_289 (n : Nat) (nm : String) : gLn "TrunkDuel$Trunk" nm (.invokevirtual 49, n, 93, 4, 0, 0, 0) := ⟨kw_503, mwV_93⟩
theorem lk_290 (n : Nat) (nm : String) : gLn "TrunkDuel$Trunk" nm (.invokevirtual 53, n, 97, 2, 0, 0, 0) := ⟨kw_1157, mwV_97⟩
theorem lk_291 (n : Nat) (nm : String) : gLn "TrunkDuel$Trunk" nm (.getfield 57, n, 2, 4, 0, 0, 0) := ⟨_, _, _, rfl, by decide, rfl, kw_183⟩
theorem lk_292 (n : Nat) (nm : String) : gLn "TrunkDuel$Trunk" nm (.invokevirtual 62, n, 13, 2, 0, 0, 0) := ⟨kw_594, mwV_13⟩
theorem lk_293 (n : Nat) (nm : String) : gLn "TrunkDuel$Trunk" nm (.invokevirtual 65, n, 14, 2, 0, 0, 0) := ⟨kw_598, mwV_14⟩
theorem lk_294 (n : Nat) (nm : String) : gLn "TrunkDuel$Trunk" nm (.invokevirtual 68, n, 101, 2, 0, 0, 0) := ⟨kw_602, mwV_101⟩
theorem lk_295 (n : Nat) (nm : String) : gLn "TrunkDuel$Trunk" nm (.getfield 72, n, 2, 5, 0, 0, 0) := ⟨_, _, _, rfl, by decide, rfl, kw_187⟩
theorem lk_296 (n : Nat) (nm : String) : gLn "TrunkDuel$Trunk" nm (.invokevirtual 75, n, 15, 2, 0, 0, 0) := ⟨kw_606, mwV_15⟩
theorem lk_297 (n : Nat) (nm : String) : gLn "TrunkDuel$Trunk" nm (.invokevirtual 78, n, 16, 2, 0, 0, 0) := ⟨kw_610, mwV_16⟩
theorem lk_298 (n : Nat) (nm : String) : gLn "TrunkDuel$Trunk" nm (.invokevirtual 81, n, 17, 2, 0, 0, 0) := ⟨kw_614, mwV_17⟩
theorem lk_299 (n : Nat) (nm : String) : gLn "TrunkDuel$Trunk" nm (.invokevirtual 84, n, 91, 4, 0, 0, 0) := ⟨kw_618, mwV_91⟩
theorem lk_300 (n : Nat) (nm : String) : gLn "TrunkDuel$Trunk" nm (.invokevirtual 87, n, 12, 3, 0, 0, 0) := ⟨kw_677, mwV_12⟩
theorem lk_301 (n : Nat) (nm : String) : gLn "TrunkDuel$Trunk" nm (.invokevirtual 90, n, 100, 2, 0, 0, 0) := ⟨kw_681, mwV_100⟩
theorem lk_302 (n : Nat) (nm : String) : gLn "TrunkDuel$Trunk" nm (.invokevirtual 94, n, 11, 2, 0, 0, 1) := ⟨kw_1236, mwV_11⟩
theorem lk_303 (n : Nat) (nm : String) : gLn "TrunkDuel$Trunk" nm (.invokevirtual 98, n, 102, 2, 0, 0, 0) := ⟨kw_1237, mwV_102⟩
theorem lk_304 (n : Nat) (nm : String) : gLn "TrunkDuel$Trunk" nm (.invokevirtual 101, n, 96, 2, 0, 0, 0) := ⟨kw_627, mwV_96⟩
theorem lk_305 (n : Nat) (nm : String) : gLn "TrunkDuel" nm (.invokespecial 3, n, 0, 0, 0, 0, 26) := kw_34
theorem lk_306 (n : Nat) (nm : String) : gLn "TrunkDuel" nm (.new 9, n, 6, 14, 0, 0, 0) := ⟨_, _, _, rfl, rfl, kw_37, kw_38, kw_2⟩
theorem lk_307 (n : Nat) (nm : String) : gLn "TrunkDuel" nm (.invokespecial 11, n, 39, 1, 24, 1064, 1) := ⟨Or.inr (List.mem_of_getElem? (i := 0) rfl), mwI_39⟩
theorem lk_308 (n : Nat) : gLn "TrunkDuel" "<init>" (.putfield 12, n, 10, 0, 1, 1, 0) := ⟨_, _, _, tyX10 0, rfl, by decide, rfl, kw_711, tyX10_ok 0 (by decide), Or.inr (Or.inl ⟨rfl, rfl⟩), fun _ => ⟨rfl, rfl⟩⟩
theorem lk_309 (n : Nat) (nm : String) : gLn "TrunkDuel" nm (.new 16, n, 8, 6, 0, 0, 0) := ⟨_, _, _, rfl, rfl, kw_261, kw_44, kw_3⟩
theorem lk_310 (n : Nat) (nm : String) : gLn "TrunkDuel" nm (.invokespecial 18, n, 71, 1, 16, 427, 1) := ⟨Or.inr (List.mem_of_getElem? (i := 6) rfl), mwI_71⟩
theorem lk_311 (n : Nat) : gLn "TrunkDuel" "<init>" (.putfield 19, n, 10, 1, 1, 1, 0) := ⟨_, _, _, tyX10 1, rfl, by decide, rfl, kw_712, tyX10_ok 1 (by decide), Or.inr (Or.inl ⟨rfl, rfl⟩), fun _ => ⟨rfl, rfl⟩⟩
theorem lk_312 (n : Nat) : gLn "TrunkDuel" "<init>" (.putfield 23, n, 10, 2, 1, 1, 0) := ⟨_, _, _, tyX10 2, rfl, by decide, rfl, kw_713, tyX10_ok 2 (by decide), Or.inr (Or.inl ⟨rfl, rfl⟩), fun _ => ⟨rfl, rfl⟩⟩
theorem lk_313 (n : Nat) (nm : String) : gLn "TrunkDuel" nm (.new 26, n, 3, 3, 0, 0, 0) := ⟨_, _, _, rfl, rfl, kw_263, kw_264, kw_8⟩
theorem lk_314 (n : Nat) (nm : String) : gLn "TrunkDuel" nm (.invokespecial 28, n, 19, 1, 137, 3472, 1) := ⟨Or.inl kw_265, mwI_19⟩
theorem lk_315 (n : Nat) : gLn "TrunkDuel" "<init>" (.putfield 29, n, 10, 3, 1, 1, 0) := ⟨_, _, _, tyX10 3, rfl, by decide, rfl, kw_714, tyX10_ok 3 (by decide), Or.inr (Or.inl ⟨rfl, rfl⟩), fun _ => ⟨rfl, rfl⟩⟩
theorem lk_316 (n : Nat) (nm : String) : gLn "TrunkDuel" nm (.anewarray 16, n, 0, 0, 0, 0, 0) := kw_261
theorem lk_317 (n : Nat) : gLn "TrunkDuel" "<init>" (.putfield 33, n, 10, 4, 1, 1, 0) := ⟨_, _, _, tyX10 4, rfl, by decide, rfl, kw_715, tyX10_ok 4 (by decide), Or.inr (Or.inl ⟨rfl, rfl⟩), fun _ => ⟨rfl, rfl⟩⟩
theorem lk_318 (n : Nat) (nm : String) : gLn "TrunkDuel" nm (.newarray .boolean, n, 0, 0, 0, 0, 0) := kw_75
theorem lk_319 (n : Nat) : gLn "TrunkDuel" "<init>" (.putfield 37, n, 10, 5, 1, 1, 0) := ⟨_, _, _, tyX10 5, rfl, by decide, rfl, kw_716, tyX10_ok 5 (by decide), Or.inr (Or.inl ⟨rfl, rfl⟩), fun _ => ⟨rfl, rfl⟩⟩
theorem lk_320 (n : Nat) (nm : String) : gLn "TrunkDuel" nm (.new 41, n, 2, 11, 0, 0, 0) := ⟨_, _, _, rfl, rfl, kw_283, kw_163, kw_7⟩
theorem lk_321 (n : Nat) (nm : String) : gLn "TrunkDuel" nm (.invokespecial 43, n, 8, 1, 5, 20, 1) := ⟨Or.inr (List.mem_of_getElem? (i := 8) rfl), mwI_8⟩
theorem lk_322 (n : Nat) : gLn "TrunkDuel" "<init>" (.putfield 44, n, 10, 6, 1, 1, 0) := ⟨_, _, _, tyX10 6, rfl, by decide, rfl, kw_717, tyX10_ok 6 (by decide), Or.inr (Or.inl ⟨rfl, rfl⟩), fun _ => ⟨rfl, rfl⟩⟩
theorem lk_323 (n : Nat) (nm : String) : gLn "TrunkDuel" nm (.new 48, n, 0, 5, 0, 0, 0) := ⟨_, _, _, rfl, rfl, kw_285, kw_286, kw_9⟩
theorem lk_324 (n : Nat) (nm : String) : gLn "TrunkDuel" nm (.invokespecial 50, n, 0, 1, 0, 0, 1) := ⟨Or.inr (List.mem_of_getElem? (i := 9) rfl), mwI_0⟩
theorem lk_325 (n : Nat) : gLn "TrunkDuel" "<init>" (.putfield 51, n, 10, 7, 1, 1, 0) := ⟨_, _, _, tyX10 7, rfl, by decide, rfl, kw_718, tyX10_ok 7 (by decide), Or.inr (Or.inl ⟨rfl, rfl⟩), fun _ => ⟨rfl, rfl⟩⟩
theorem lk_326 (n : Nat) (nm : String) : gLn "TrunkDuel" nm (.new 55, n, 1, 1, 0, 0, 0) := ⟨_, _, _, rfl, rfl, kw_311, kw_312, kw_10⟩
theorem lk_327 (n : Nat) (nm : String) : gLn "TrunkDuel" nm (.invokespecial 57, n, 4, 1, 1, 128, 1) := ⟨Or.inr (List.mem_of_getElem? (i := 10) rfl), mwI_4⟩
theorem lk_328 (n : Nat) : gLn "TrunkDuel" "<init>" (.putfield 58, n, 10, 8, 1, 1, 0) := ⟨_, _, _, tyX10 8, rfl, by decide, rfl, kw_719, tyX10_ok 8 (by decide), Or.inr (Or.inl ⟨rfl, rfl⟩), fun _ => ⟨rfl, rfl⟩⟩
theorem lk_329 (n : Nat) (nm : String) : gLn "TrunkDuel" nm (.new 62, n, 7, 5, 0, 0, 0) := ⟨_, _, _, rfl, rfl, kw_321, kw_322, kw_11⟩
theorem lk_330 (n : Nat) (nm : String) : gLn "TrunkDuel" nm (.invokespecial 64, n, 65, 1, 3, 192, 1) := ⟨Or.inr (List.mem_of_getElem? (i := 11) rfl), mwI_65⟩
theorem lk_331 (n : Nat) : gLn "TrunkDuel" "<init>" (.putfield 65, n, 10, 9, 1, 1, 0) := ⟨_, _, _, tyX10 9, rfl, by decide, rfl, kw_720, tyX10_ok 9 (by decide), Or.inr (Or.inl ⟨rfl, rfl⟩), fun _ => ⟨rfl, rfl⟩⟩
theorem lk_332 (n : Nat) (nm : String) : gLn "TrunkDuel" nm (.newarray .int, n, 0, 0, 0, 0, 0) := kw_74
theorem lk_333 (n : Nat) : gLn "TrunkDuel" "<init>" (.putfield 69, n, 10, 10, 1, 1, 0) := ⟨_, _, _, tyX10 10, rfl, by decide, rfl, kw_721, tyX10_ok 10 (by decide), Or.inr (Or.inl ⟨rfl, rfl⟩), fun _ => ⟨rfl, rfl⟩⟩
theorem lk_334 (n : Nat) (nm : String) : gLn "TrunkDuel" nm (.putfield 73, n, 10, 11, 0, 0, 0) := ⟨_, _, _, tyX10 11, rfl, by decide, rfl, kw_722, tyX10_ok 11 (by decide), Or.inl ⟨rfl, rfl⟩, fun h => by cases h⟩
theorem lk_335 (n : Nat) (nm : String) : gLn "TrunkDuel" nm (.getfield 12, n, 10, 0, 1, 1, 0) := ⟨_, _, _, rfl, by decide, rfl, kw_711⟩
theorem lk_336 (n : Nat) (nm : String) : gLn "TrunkDuel" nm (.ldc 77, n, 100016, 0, 0, 0, 1) := ⟨by decide, _, List.mem_of_getElem? (i := 0) rfl⟩
theorem lk_337 (n : Nat) (nm : String) : gLn "TrunkDuel" nm (.invokevirtual 79, n, 41, 2, 0, 0, 1) := ⟨kw_345, mwV_41⟩
theorem lk_338 (n : Nat) (nm : String) : gLn "TrunkDuel" nm (.invokevirtual 83, n, 44, 1, 0, 0, 1) := ⟨kw_401, mwV_44⟩
theorem lk_339 (n : Nat) (nm : String) : gLn "TrunkDuel" nm (.invokevirtual 86, n, 45, 1, 0, 0, 0) := ⟨kw_424, mwV_45⟩
theorem lk_340 (n : Nat) (nm : String) : gLn "TrunkDuel" nm (.invokevirtual 90, n, 46, 1, 0, 0, 0) := ⟨kw_537, mwV_46⟩
theorem lk_341 (n : Nat) (nm : String) : gLn "TrunkDuel" nm (.getfield 19, n, 10, 1, 1, 1, 0) := ⟨_, _, _, rfl, by decide, rfl, kw_712⟩
theorem lk_342 (n : Nat) (nm : String) : gLn "TrunkDuel" nm (.getfield 93, n, 6, 4, 1, 1, 0) := ⟨_, _, _, rfl, by decide, rfl, kw_222⟩
theorem lk_343 (n : Nat) (nm : String) : gLn "TrunkDuel" nm (.invokevirtual 96, n, 73, 2, 0, 0, 1) := ⟨kw_686, mwV_73⟩
theorem lk_344 (n : Nat) (nm : String) : gLn "TrunkDuel" nm (.invokevirtual 100, n, 64, 1, 0, 0, 1) := ⟨kw_707, mwV_64⟩
theorem lk_345 (n : Nat) (nm : String) : gLn "TrunkDuel" nm (.invokevirtual 103, n, 40, 1, 0, 0, 0) := ⟨kw_918, mwV_40⟩
theorem lk_346 (n : Nat) (nm : String) : gLn "TrunkDuel" nm (.invokevirtual 106, n, 42, 2, 0, 0, 1) := ⟨kw_922, mwV_42⟩
theorem lk_347 (n : Nat) (nm : String) : gLn "TrunkDuel" nm (.getfield 110, n, 6, 0, 0, 0, 0) := ⟨_, _, _, rfl, by decide, rfl, kw_217⟩
theorem lk_348 (n : Nat) (nm : String) : gLn "TrunkDuel" nm (.new 113, n, 0, 0, 115, 117, 1) := ⟨⟨kw_893, kw_26, at_0, by decide +kernel⟩, _, List.mem_of_getElem? (i := 0) rfl⟩
theorem lk_349 (n : Nat) (nm : String) : gLn "TrunkDuel" nm (.putfield 110, n, 6, 0, 0, 0, 0) := ⟨_, _, _, tyX6 0, rfl, by decide, rfl, kw_217, tyX6_ok 0 (by decide), Or.inl ⟨rfl, rfl⟩, fun h => by cases h⟩
theorem lk_350 (n : Nat) (nm : String) : gLn "TrunkDuel" nm (.getfield 29, n, 10, 3, 1, 1, 0) := ⟨_, _, _, rfl, by decide, rfl, kw_714⟩
theorem lk_351 (n : Nat) (nm : String) : gLn "TrunkDuel" nm (.invokevirtual 119, n, 20, 2, 0, 0, 1) := ⟨kw_753, mwV_20⟩
theorem lk_352 (n : Nat) (nm : String) : gLn "TrunkDuel" nm (.getfield 122, n, 8, 0, 1, 1, 0) := ⟨_, _, _, rfl, by decide, rfl, kw_135⟩
theorem lk_353 (n : Nat) (nm : String) : gLn "TrunkDuel" nm (.invokevirtual 126, n, 97, 2, 0, 0, 0) := ⟨kw_758, mwV_97⟩
theorem lk_354 (n : Nat) (nm : String) : gLn "TrunkDuel" nm (.invokevirtual 144, n, 152, 5, 3, 18, 11) := ⟨kw_1005, mwV_152⟩
theorem lk_355 (n : Nat) (nm : String) : gLn "TrunkDuel" nm (.getfield 44, n, 10, 6, 1, 1, 0) := ⟨_, _, _, rfl, by decide, rfl, kw_717⟩
theorem lk_356 (n : Nat) (nm : String) : gLn "TrunkDuel" nm (.invokevirtual 148, n, 76, 2, 0, 0, 0) := ⟨kw_1281, mwV_76⟩
theorem lk_357 (n : Nat) (nm : String) : gLn "TrunkDuel" nm (.new 152, n, 2, 0, 154, 156, 1) := ⟨⟨kw_783, kw_27, at_1, by decide +kernel⟩, _, List.mem_of_getElem? (i := 1) rfl⟩
theorem lk_358 (n : Nat) (nm : String) : gLn "TrunkDuel" nm (.invokevirtual 157, n, 77, 2, 0, 0, 0) := ⟨kw_1282, mwV_77⟩
theorem lk_359 (n : Nat) (nm : String) : gLn "TrunkDuel" nm (.invokevirtual 161, n, 156, 4, 2, 12, 11) := ⟨kw_1024, mwV_156⟩
theorem lk_360 (n : Nat) (nm : String) : gLn "TrunkDuel" nm (.invokevirtual 165, n, 78, 4, 0, 0, 0) := ⟨kw_1252, mwV_78⟩
theorem lk_361 (n : Nat) (nm : String) : gLn "TrunkDuel" nm (.new 152, n, 2, 0, 169, 156, 1) := ⟨⟨kw_783, kw_27, at_1, by decide +kernel⟩, _, List.mem_of_getElem? (i := 2) rfl⟩
theorem lk_362 (n : Nat) (nm : String) : gLn "TrunkDuel" nm (.invokevirtual 171, n, 79, 4, 0, 0, 0) := ⟨kw_1254, mwV_79⟩
theorem lk_363 (n : Nat) (nm : String) : gLn "TrunkDuel" nm (.invokevirtual 175, n, 80, 2, 0, 0, 0) := ⟨kw_1218, mwV_80⟩
theorem lk_364 (n : Nat) (nm : String) : gLn "TrunkDuel" nm (.new 152, n, 2, 0, 178, 156, 1) := ⟨⟨kw_783, kw_27, at_1, by decide +kernel⟩, _, List.mem_of_getElem? (i := 3) rfl⟩
theorem lk_365 (n : Nat) (nm : String) : gLn "TrunkDuel" nm (.invokevirtual 180, n, 81, 1, 0, 0, 0) := ⟨kw_1220, mwV_81⟩
theorem lk_366 (n : Nat) (nm : String) : gLn "TrunkDuel" nm (.getfield 184, n, 3, 0, 0, 0, 0) := ⟨_, _, _, rfl, by decide, rfl, kw_273⟩
theorem lk_367 (n : Nat) (nm : String) : gLn "TrunkDuel" nm (.new 152, n, 2, 0, 187, 156, 1) := ⟨⟨kw_783, kw_27, at_1, by decide +kernel⟩, _, List.mem_of_getElem? (i := 4) rfl⟩
theorem lk_368 (n : Nat) (nm : String) : gLn "TrunkDuel" nm (.invokevirtual 189, n, 21, 2, 0, 0, 1) := ⟨kw_850, mwV_21⟩
theorem lk_369 (n : Nat) (nm : String) : gLn "TrunkDuel" nm (.getfield 204, n, 9, 0, 0, 0, 0) := ⟨_, _, _, rfl, by decide, rfl, kw_58⟩
theorem lk_370 (n : Nat) (nm : String) : gLn "TrunkDuel" nm (.getfield 207, n, 9, 1, 0, 0, 0) := ⟨_, _, _, rfl, by decide, rfl, kw_62⟩
theorem lk_371 (n : Nat) (nm : String) : gLn "TrunkDuel" nm (.getfield 195, n, 8, 1, 1, 1, 0) := ⟨_, _, _, rfl, by decide, rfl, kw_138⟩
theorem lk_372 (n : Nat) (nm : String) : gLn "TrunkDuel" nm (.getfield 199, n, 4, 0, 0, 0, 0) := ⟨_, _, _, rfl, by decide, rfl, kw_84⟩
theorem lk_373 (n : Nat) (nm : String) : gLn "TrunkDuel" nm (.invokevirtual 210, n, 99, 1, 0, 0, 0) := ⟨kw_1129, mwV_99⟩
theorem lk_374 (n : Nat) (nm : String) : gLn "TrunkDuel" nm (.invokevirtual 213, n, 96, 2, 0, 0, 0) := ⟨kw_1040, mwV_96⟩
theorem lk_375 (n : Nat) (nm : String) : gLn "TrunkDuel" nm (.invokevirtual 216, n, 155, 3, 1, 6, 11) := ⟨kw_948, mwV_155⟩
theorem lk_376 (n : Nat) (nm : String) : gLn "TrunkDuel" nm (.invokevirtual 220, n, 89, 3, 0, 0, 0) := ⟨kw_954, mwV_89⟩
theorem lk_377 (n : Nat) (nm : String) : gLn "TrunkDuel" nm (.invokevirtual 224, n, 91, 4, 0, 0, 0) := ⟨kw_1031, mwV_91⟩
theorem lk_378 (n : Nat) (nm : String) : gLn "TrunkDuel" nm (.new 227, n, 1, 0, 229, 231, 1) := ⟨⟨kw_865, kw_28, at_2, by decide +kernel⟩, _, List.mem_of_getElem? (i := 5) rfl⟩
theorem lk_379 (n : Nat) (nm : String) : gLn "TrunkDuel" nm (.invokevirtual 232, n, 157, 2, 1, 6, 11) := ⟨kw_1048, mwV_157⟩
theorem lk_380 (n : Nat) (nm : String) : gLn "TrunkDuel" nm (.invokevirtual 235, n, 26, 2, 0, 0, 0) := ⟨kw_1068, mwV_26⟩
theorem lk_381 (n : Nat) (nm : String) : gLn "TrunkDuel" nm (.invokevirtual 238, n, 27, 2, 0, 0, 0) := ⟨kw_1101, mwV_27⟩
theorem lk_382 (n : Nat) (nm : String) : gLn "TrunkDuel" nm (.invokevirtual 241, n, 28, 2, 0, 0, 0) := ⟨kw_1079, mwV_28⟩
theorem lk_383 (n : Nat) (nm : String) : gLn "TrunkDuel" nm (.invokevirtual 244, n, 29, 2, 0, 0, 0) := ⟨kw_1090, mwV_29⟩
theorem lk_384 (n : Nat) (nm : String) : gLn "TrunkDuel" nm (.invokevirtual 247, n, 30, 2, 0, 0, 0) := ⟨kw_1298, mwV_30⟩
theorem lk_385 (n : Nat) (nm : String) : gLn "TrunkDuel" nm (.invokevirtual 250, n, 31, 2, 0, 0, 0) := ⟨kw_1053, mwV_31⟩
theorem lk_386 (n : Nat) (nm : String) : gLn "TrunkDuel" nm (.invokevirtual 253, n, 74, 1, 0, 0, 0) := ⟨kw_774, mwV_74⟩
theorem lk_387 (n : Nat) (nm : String) : gLn "TrunkDuel" nm (.getfield 256, n, 8, 4, 0, 0, 0) := ⟨_, _, _, rfl, by decide, rfl, kw_147⟩
theorem lk_388 (n : Nat) (nm : String) : gLn "TrunkDuel" nm (.getfield 259, n, 8, 2, 1, 1, 0) := ⟨_, _, _, rfl, by decide, rfl, kw_141⟩
theorem lk_389 (n : Nat) (nm : String) : gLn "TrunkDuel" nm (.getfield 263, n, 5, 0, 0, 0, 0) := ⟨_, _, _, rfl, by decide, rfl, kw_114⟩
theorem lk_390 (n : Nat) (nm : String) : gLn "TrunkDuel" nm (.getfield 268, n, 8, 3, 1, 1, 0) := ⟨_, _, _, rfl, by decide, rfl, kw_144⟩
theorem lk_391 (n : Nat) (nm : String) : gLn "TrunkDuel" nm (.invokestatic 271, n, 154, 1, 1, 6, 11) := ⟨kw_862, mwS_154, rfl⟩
theorem lk_392 (n : Nat) (nm : String) : gLn "TrunkDuel" nm (.invokevirtual 274, n, 75, 2, 0, 0, 2) := ⟨kw_881, mwV_75⟩
theorem lk_393 (n : Nat) (nm : String) : gLn "TrunkDuel" nm (.invokestatic 278, n, 153, 1, 1, 6, 11) := ⟨kw_1009, mwS_153, rfl⟩
theorem lk_394 (n : Nat) (nm : String) : gLn "TrunkDuel" nm (.invokevirtual 281, n, 37, 2, 0, 0, 0) := ⟨kw_1273, mwV_37⟩
theorem lk_395 (n : Nat) (nm : String) : gLn "TrunkDuel" nm (.getfield 284, n, 5, 1, 0, 0, 0) := ⟨_, _, _, rfl, by decide, rfl, kw_118⟩
theorem lk_396 (n : Nat) (nm : String) : gLn "TrunkDuel" nm (.invokevirtual 290, n, 100, 2, 0, 0, 0) := ⟨kw_1016, mwV_100⟩
theorem lk_397 (n : Nat) (nm : String) : gLn "TrunkDuel" nm (.invokevirtual 293, n, 104, 2, 0, 0, 0) := ⟨kw_1265, mwV_104⟩
theorem lk_398 (n : Nat) (nm : String) : gLn "TrunkDuel" nm (.invokevirtual 295, n, 82, 3, 0, 0, 0) := ⟨kw_1228, mwV_82⟩
theorem lk_399 (n : Nat) (nm : String) : gLn "TrunkDuel" nm (.getfield 23, n, 10, 2, 1, 1, 0) := ⟨_, _, _, rfl, by decide, rfl, kw_713⟩
theorem lk_400 (n : Nat) (nm : String) : gLn "TrunkDuel" nm (.getfield 51, n, 10, 7, 1, 1, 0) := ⟨_, _, _, rfl, by decide, rfl, kw_718⟩
theorem lk_401 (n : Nat) (nm : String) : gLn "TrunkDuel" nm (.invokevirtual 302, n, 1, 3, 0, 0, 1) := ⟨kw_1170, mwV_1⟩
theorem lk_402 (n : Nat) (nm : String) : gLn "TrunkDuel" nm (.getfield 306, n, 0, 0, 0, 0, 0) := ⟨_, _, _, rfl, by decide, rfl, kw_292⟩
theorem lk_403 (n : Nat) (nm : String) : gLn "TrunkDuel" nm (.getfield 309, n, 0, 1, 0, 0, 0) := ⟨_, _, _, rfl, by decide, rfl, kw_294⟩
theorem lk_404 (n : Nat) (nm : String) : gLn "TrunkDuel" nm (.getfield 312, n, 0, 2, 0, 0, 0) := ⟨_, _, _, rfl, by decide, rfl, kw_296⟩
theorem lk_405 (n : Nat) (nm : String) : gLn "TrunkDuel" nm (.getfield 315, n, 0, 3, 0, 0, 0) := ⟨_, _, _, rfl, by decide, rfl, kw_298⟩
theorem lk_406 (n : Nat) (nm : String) : gLn "TrunkDuel" nm (.getfield 58, n, 10, 8, 1, 1, 0) := ⟨_, _, _, rfl, by decide, rfl, kw_719⟩
theorem lk_407 (n : Nat) (nm : String) : gLn "TrunkDuel" nm (.invokevirtual 318, n, 5, 4, 0, 0, 0) := ⟨kw_1192, mwV_5⟩
theorem lk_408 (n : Nat) (nm : String) : gLn "TrunkDuel" nm (.getfield 65, n, 10, 9, 1, 1, 0) := ⟨_, _, _, rfl, by decide, rfl, kw_720⟩
theorem lk_409 (n : Nat) (nm : String) : gLn "TrunkDuel" nm (.invokevirtual 322, n, 66, 2, 0, 0, 1) := ⟨kw_969, mwV_66⟩
theorem lk_410 (n : Nat) (nm : String) : gLn "TrunkDuel" nm (.getfield 326, n, 7, 0, 0, 0, 0) := ⟨_, _, _, rfl, by decide, rfl, kw_328⟩
theorem lk_411 (n : Nat) (nm : String) : gLn "TrunkDuel" nm (.invokevirtual 327, n, 67, 2, 0, 0, 0) := ⟨kw_1120, mwV_67⟩
theorem lk_412 (n : Nat) (nm : String) : gLn "TrunkDuel" nm (.invokestatic 330, n, 0, 0, 0, 0, 21) := kw_1141
theorem lk_413 (n : Nat) (nm : String) : gLn "TrunkDuel" nm (.invokevirtual 335, n, 68, 3, 0, 0, 0) := ⟨kw_983, mwV_68⟩
theorem lk_414 (n : Nat) (nm : String) : gLn "TrunkDuel" nm (.invokevirtual 338, n, 9, 3, 0, 0, 1) := ⟨kw_1014, mwV_9⟩
theorem lk_415 (n : Nat) (nm : String) : gLn "TrunkDuel" nm (.invokevirtual 341, n, 10, 3, 0, 0, 1) := ⟨kw_1015, mwV_10⟩
theorem lk_416 (n : Nat) (nm : String) : gLn "TrunkDuel" nm (.getfield 344, n, 2, 4, 0, 0, 0) := ⟨_, _, _, rfl, by decide, rfl, kw_184⟩
theorem lk_417 (n : Nat) (nm : String) : gLn "TrunkDuel" nm (.invokevirtual 347, n, 101, 2, 0, 0, 0) := ⟨kw_1152, mwV_101⟩
theorem lk_418 (n : Nat) (nm : String) : gLn "TrunkDuel" nm (.invokevirtual 350, n, 98, 1, 0, 0, 0) := ⟨kw_1153, mwV_98⟩
theorem lk_419 (n : Nat) (nm : String) : gLn "TrunkDuel" nm (.invokestatic 353, n, 0, 0, 0, 0, 22) := kw_1158
theorem lk_420 (n : Nat) (nm : String) : gLn "TrunkDuel" nm (.new 113, n, 0, 1, 362, 117, 1) := ⟨⟨kw_893, kw_26, at_0, by decide +kernel⟩, _, List.mem_of_getElem? (i := 6) rfl⟩
theorem lk_421 (n : Nat) (nm : String) : gLn "TrunkDuel" nm (.new 113, n, 0, 1, 364, 117, 1) := ⟨⟨kw_893, kw_26, at_0, by decide +kernel⟩, _, List.mem_of_getElem? (i := 7) rfl⟩
theorem lk_422 (n : Nat) (nm : String) : gLn "TrunkDuel" nm (.new 227, n, 1, 1, 368, 231, 1) := ⟨⟨kw_865, kw_28, at_2, by decide +kernel⟩, _, List.mem_of_getElem? (i := 8) rfl⟩
theorem lk_423 (n : Nat) (nm : String) : gLn "TrunkDuel" nm (.invokevirtual 370, n, 87, 3, 0, 0, 0) := ⟨kw_952, mwV_87⟩
theorem lk_424 (n : Nat) (nm : String) : gLn "TrunkDuel" nm (.new 227, n, 1, 1, 374, 231, 1) := ⟨⟨kw_865, kw_28, at_2, by decide +kernel⟩, _, List.mem_of_getElem? (i := 9) rfl⟩
theorem lk_425 (n : Nat) (nm : String) : gLn "TrunkDuel" nm (.new 113, n, 0, 1, 376, 117, 1) := ⟨⟨kw_893, kw_26, at_0, by decide +kernel⟩, _, List.mem_of_getElem? (i := 10) rfl⟩
theorem lk_426 (n : Nat) (nm : String) : gLn "TrunkDuel" nm (.invokevirtual 378, n, 88, 4, 0, 0, 0) := ⟨kw_1029, mwV_88⟩
theorem lk_427 (n : Nat) (nm : String) : gLn "TrunkDuel" nm (.new 227, n, 1, 1, 381, 231, 1) := ⟨⟨kw_865, kw_28, at_2, by decide +kernel⟩, _, List.mem_of_getElem? (i := 11) rfl⟩
theorem lk_428 (n : Nat) (nm : String) : gLn "TrunkDuel" nm (.new 227, n, 1, 1, 383, 231, 1) := ⟨⟨kw_865, kw_28, at_2, by decide +kernel⟩, _, List.mem_of_getElem? (i := 12) rfl⟩
theorem lk_429 (n : Nat) (nm : String) : gLn "TrunkDuelLaw" nm (.invokevirtual 7, n, 107, 2, 1, 6, 10) := ⟨kw_889, mwV_107⟩
theorem lk_430 (n : Nat) (nm : String) : gLn "TrunkDuelLaw" nm (.invokevirtual 15, n, 109, 5, 4, 24, 10) := ⟨kw_1286, mwV_109⟩
theorem lk_431 (n : Nat) (nm : String) : gLn "TrunkDuelLaw" nm (.invokevirtual 23, n, 110, 4, 3, 18, 10) := ⟨kw_1248, mwV_110⟩
theorem lk_432 (n : Nat) (nm : String) : gLn "TrunkDuelLaw" nm (.invokevirtual 27, n, 111, 1, 1, 6, 10) := ⟨kw_1214, mwV_111⟩
theorem lk_433 (n : Nat) (nm : String) : gLn "TrunkDuelLaw" nm (.invokevirtual 31, n, 112, 1, 1, 6, 10) := ⟨kw_779, mwV_112⟩
theorem lk_434 (n : Nat) (nm : String) : gLn "TrunkDuelLaw" nm (.invokevirtual 34, n, 120, 3, 1, 6, 10) := ⟨kw_958, mwV_120⟩
theorem lk_435 (n : Nat) (nm : String) : gLn "TrunkDuelLaw" nm (.invokevirtual 38, n, 121, 3, 1, 6, 10) := ⟨kw_944, mwV_121⟩
theorem lk_436 (n : Nat) (nm : String) : gLn "TrunkDuelLaw" nm (.invokevirtual 42, n, 122, 4, 2, 12, 10) := ⟨kw_1020, mwV_122⟩
theorem lk_437 (n : Nat) (nm : String) : gLn "TrunkDuelLaw" nm (.invokevirtual 46, n, 123, 2, 1, 6, 10) := ⟨kw_1035, mwV_123⟩
theorem lk_438 (n : Nat) (nm : String) : gLn "TrunkDuelLaw" nm (.invokevirtual 49, n, 124, 2, 1, 6, 10) := ⟨kw_1064, mwV_124⟩
theorem lk_439 (n : Nat) (nm : String) : gLn "TrunkDuelLaw" nm (.invokevirtual 52, n, 125, 2, 1, 6, 10) := ⟨kw_1097, mwV_125⟩
theorem lk_440 (n : Nat) (nm : String) : gLn "TrunkDuelLaw" nm (.invokevirtual 55, n, 126, 2, 1, 6, 10) := ⟨kw_1075, mwV_126⟩
theorem lk_441 (n : Nat) (nm : String) : gLn "TrunkDuelLaw" nm (.invokevirtual 58, n, 127, 2, 1, 6, 10) := ⟨kw_1086, mwV_127⟩
theorem lk_442 (n : Nat) (nm : String) : gLn "TrunkDuelLaw" nm (.invokevirtual 61, n, 128, 2, 1, 6, 10) := ⟨kw_1294, mwV_128⟩
theorem lk_443 (n : Nat) (nm : String) : gLn "TrunkDuelLaw" nm (.invokevirtual 64, n, 129, 2, 1, 6, 10) := ⟨kw_1044, mwV_129⟩
theorem lk_444 (n : Nat) (nm : String) : gLn "TrunkDuelLaw" nm (.invokevirtual 67, n, 133, 2, 1, 6, 10) := ⟨kw_858, mwV_133⟩
theorem lk_445 (n : Nat) (nm : String) : gLn "TrunkDuelLaw" nm (.invokevirtual 70, n, 134, 3, 2, 12, 10) := ⟨kw_1269, mwV_134⟩
theorem lk_446 (n : Nat) (nm : String) : gLn "TrunkDuelLaw" nm (.invokevirtual 73, n, 135, 2, 1, 6, 10) := ⟨kw_1241, mwV_135⟩
theorem lk_447 (n : Nat) (nm : String) : gLn "TrunkDuelLaw" nm (.invokevirtual 76, n, 136, 5, 3, 18, 10) := ⟨kw_1001, mwV_136⟩
theorem lk_448 (n : Nat) (nm : String) : gLn "TrunkDuelLaw" nm (.invokevirtual 80, n, 137, 5, 3, 18, 10) := ⟨kw_1108, mwV_137⟩
theorem lk_449 (n : Nat) (nm : String) : gLn "TrunkDuelLaw" nm (.invokevirtual 83, n, 138, 5, 3, 18, 10) := ⟨kw_1261, mwV_138⟩
theorem lk_450 (n : Nat) (nm : String) : gLn "TrunkDuelLaw" nm (.invokevirtual 86, n, 139, 2, 1, 6, 10) := ⟨kw_1224, mwV_139⟩
theorem lk_451 (n : Nat) (nm : String) : gLn "TrunkDuelLaw" nm (.invokevirtual 89, n, 140, 6, 4, 24, 10) := ⟨kw_1277, mwV_140⟩
theorem lk_452 (n : Nat) (nm : String) : gLn "TrunkDuelLaw" nm (.invokevirtual 93, n, 148, 3, 1, 6, 10) := ⟨kw_965, mwV_148⟩
theorem lk_453 (n : Nat) (nm : String) : gLn "TrunkDuelLaw" nm (.invokevirtual 96, n, 149, 3, 1, 6, 10) := ⟨kw_994, mwV_149⟩
theorem lk_454 (n : Nat) (nm : String) : gLn "TrunkDuelLaw" nm (.invokevirtual 99, n, 0, 0, 0, 0, 27) := kw_909
theorem lk_455 (n : Nat) (nm : String) : gLn "TrunkDuelLaw" nm (.invokevirtual 104, n, 0, 0, 0, 0, 28) := kw_913
theorem lk_456 (n : Nat) (nm : String) : gLn "TrunkDuelLaw" nm (.invokestatic 108, n, 158, 2, 1, 6, 0) := ⟨kw_885, mwS_158⟩
theorem lk_457 (n : Nat) (nm : String) : gLn "TrunkDuelLaw" nm (.invokestatic 113, n, 183, 2, 0, 0, 0) := ⟨kw_910, mwS_183⟩
theorem lk_458 (n : Nat) (nm : String) : gLn "TrunkDuelLaw" nm (.invokevirtual 117, n, 106, 6, 0, 0, 0) := ⟨kw_914, mwV_106⟩
theorem lk_459 (n : Nat) (nm : String) : gLn "TrunkDuelLaw" nm (.ldc 120, n, 1103515245, 0, 0, 0, 0) := kw_929
theorem lk_460 (n : Nat) (nm : String) : gLn "TrunkDuelLaw" nm (.invokevirtual 121, n, 114, 1, 0, 0, 0) := ⟨kw_933, mwV_114⟩
theorem lk_461 (n : Nat) (nm : String) : gLn "TrunkDuelLaw" nm (.invokevirtual 124, n, 113, 1, 0, 0, 0) := ⟨kw_937, mwV_113⟩
theorem lk_462 (n : Nat) (nm : String) : gLn "TrunkDuelLaw" nm (.invokestatic 127, n, 164, 3, 1, 6, 0) := ⟨kw_941, mwS_164⟩
theorem lk_463 (n : Nat) (nm : String) : gLn "TrunkDuelLaw" nm (.invokestatic 130, n, 163, 3, 1, 6, 0) := ⟨kw_955, mwS_163⟩
theorem lk_464 (n : Nat) (nm : String) : gLn "TrunkDuelLaw" nm (.invokevirtual 132, n, 116, 1, 0, 0, 0) := ⟨kw_762, mwV_116⟩
theorem lk_465 (n : Nat) (nm : String) : gLn "TrunkDuelLaw" nm (.invokestatic 135, n, 181, 3, 1, 6, 0) := ⟨kw_962, mwS_181⟩
theorem lk_466 (n : Nat) (nm : String) : gLn "TrunkDuelLaw" nm (.invokestatic 137, n, 182, 3, 1, 6, 0) := ⟨kw_991, mwS_182⟩
theorem lk_467 (n : Nat) (nm : String) : gLn "TrunkDuelLaw" nm (.invokestatic 139, n, 176, 5, 3, 18, 0) := ⟨kw_998, mwS_176⟩
theorem lk_468 (n : Nat) (nm : String) : gLn "TrunkDuelLaw" nm (.invokestatic 142, n, 165, 4, 2, 12, 0) := ⟨kw_1017, mwS_165⟩
theorem lk_469 (n : Nat) (nm : String) : gLn "TrunkDuelLaw" nm (.invokestatic 145, n, 166, 2, 1, 6, 0) := ⟨kw_1032, mwS_166⟩
theorem lk_470 (n : Nat) (nm : String) : gLn "TrunkDuelLaw" nm (.invokestatic 147, n, 172, 2, 1, 6, 0) := ⟨kw_1041, mwS_172⟩
theorem lk_471 (n : Nat) (nm : String) : gLn "TrunkDuelLaw" nm (.invokestatic 149, n, 167, 2, 1, 6, 0) := ⟨kw_1061, mwS_167⟩
theorem lk_472 (n : Nat) (nm : String) : gLn "TrunkDuelLaw" nm (.invokestatic 151, n, 169, 2, 1, 6, 0) := ⟨kw_1072, mwS_169⟩
theorem lk_473 (n : Nat) (nm : String) : gLn "TrunkDuelLaw" nm (.invokestatic 153, n, 170, 2, 1, 6, 0) := ⟨kw_1083, mwS_170⟩
theorem lk_474 (n : Nat) (nm : String) : gLn "TrunkDuelLaw" nm (.invokestatic 155, n, 168, 2, 1, 6, 0) := ⟨kw_1094, mwS_168⟩
theorem lk_475 (n : Nat) (nm : String) : gLn "TrunkDuelLaw" nm (.invokestatic 157, n, 177, 5, 3, 18, 0) := ⟨kw_1105, mwS_177⟩
theorem lk_476 (n : Nat) (nm : String) : gLn "TrunkDuelLaw" nm (.invokestatic 159, n, 173, 2, 1, 6, 0) := ⟨kw_854, mwS_173⟩
theorem lk_477 (n : Nat) (nm : String) : gLn "TrunkDuelLaw" nm (.invokevirtual 161, n, 115, 1, 0, 0, 0) := ⟨kw_1112, mwV_115⟩
theorem lk_478 (n : Nat) (nm : String) : gLn "TrunkDuelLaw" nm (.invokevirtual 164, n, 150, 1, 0, 0, 0) := ⟨kw_1116, mwV_150⟩
theorem lk_479 (n : Nat) (nm : String) : gLn "TrunkDuelLaw" nm (.invokevirtual 167, n, 118, 1, 0, 0, 0) := ⟨kw_1121, mwV_118⟩
theorem lk_480 (n : Nat) (nm : String) : gLn "TrunkDuelLaw" nm (.invokevirtual 170, n, 117, 1, 0, 0, 0) := ⟨kw_1125, mwV_117⟩
theorem lk_481 (n : Nat) (nm : String) : gLn "TrunkDuelLaw" nm (.invokevirtual 173, n, 132, 1, 0, 0, 0) := ⟨kw_1133, mwV_132⟩
theorem lk_482 (n : Nat) (nm : String) : gLn "TrunkDuelLaw" nm (.invokevirtual 176, n, 147, 1, 0, 0, 0) := ⟨kw_1137, mwV_147⟩
theorem lk_483 (n : Nat) (nm : String) : gLn "TrunkDuelLaw" nm (.invokevirtual 179, n, 146, 1, 0, 0, 0) := ⟨kw_1144, mwV_146⟩
theorem lk_484 (n : Nat) (nm : String) : gLn "TrunkDuelLaw" nm (.invokevirtual 182, n, 151, 1, 0, 0, 0) := ⟨kw_1148, mwV_151⟩
theorem lk_485 (n : Nat) (nm : String) : gLn "TrunkDuelLaw" nm (.invokevirtual 185, n, 130, 1, 0, 0, 0) := ⟨kw_770, mwV_130⟩
theorem lk_486 (n : Nat) (nm : String) : gLn "TrunkDuelLaw" nm (.invokevirtual 188, n, 131, 1, 0, 0, 0) := ⟨kw_1162, mwV_131⟩
theorem lk_487 (n : Nat) (nm : String) : gLn "TrunkDuelLaw" nm (.invokevirtual 192, n, 141, 1, 0, 0, 0) := ⟨kw_1166, mwV_141⟩
theorem lk_488 (n : Nat) (nm : String) : gLn "TrunkDuelLaw" nm (.invokevirtual 195, n, 145, 1, 0, 0, 0) := ⟨kw_1188, mwV_145⟩
theorem lk_489 (n : Nat) (nm : String) : gLn "TrunkDuelLaw" nm (.invokestatic 198, n, 161, 1, 1, 6, 0) := ⟨kw_1211, mwS_161⟩
theorem lk_490 (n : Nat) (nm : String) : gLn "TrunkDuelLaw" nm (.invokestatic 201, n, 179, 2, 1, 6, 0) := ⟨kw_1221, mwS_179⟩
theorem lk_491 (n : Nat) (nm : String) : gLn "TrunkDuelLaw" nm (.invokestatic 203, n, 185, 2, 0, 0, 0) := ⟨kw_926, mwS_185⟩
theorem lk_492 (n : Nat) (nm : String) : gLn "TrunkDuelLaw" nm (.invokestatic 207, n, 175, 2, 1, 6, 0) := ⟨kw_1238, mwS_175⟩
theorem lk_493 (n : Nat) (nm : String) : gLn "TrunkDuelLaw" nm (.invokestatic 209, n, 160, 4, 3, 18, 0) := ⟨kw_1245, mwS_160⟩
theorem lk_494 (n : Nat) (nm : String) : gLn "TrunkDuelLaw" nm (.invokestatic 211, n, 188, 6, 26, 156, 0) := ⟨kw_1255, mwS_188⟩
theorem lk_495 (n : Nat) (nm : String) : gLn "TrunkDuelLaw" nm (.invokevirtual 215, n, 142, 1, 0, 0, 0) := ⟨kw_1302, mwV_142⟩
theorem lk_496 (n : Nat) (nm : String) : gLn "TrunkDuelLaw" nm (.invokevirtual 218, n, 143, 1, 0, 0, 0) := ⟨kw_1306, mwV_143⟩
theorem lk_497 (n : Nat) (nm : String) : gLn "TrunkDuelLaw" nm (.invokevirtual 221, n, 144, 1, 0, 0, 0) := ⟨kw_1310, mwV_144⟩
theorem lk_498 (n : Nat) (nm : String) : gLn "TrunkDuelLaw" nm (.invokestatic 224, n, 178, 5, 3, 18, 0) := ⟨kw_1258, mwS_178⟩
theorem lk_499 (n : Nat) (nm : String) : gLn "TrunkDuelLaw" nm (.invokestatic 226, n, 174, 3, 2, 12, 0) := ⟨kw_1266, mwS_174⟩
theorem lk_500 (n : Nat) (nm : String) : gLn "TrunkDuelLaw" nm (.invokestatic 228, n, 180, 6, 4, 24, 0) := ⟨kw_1274, mwS_180⟩
theorem lk_501 (n : Nat) (nm : String) : gLn "TrunkDuelLaw" nm (.invokestatic 231, n, 159, 5, 4, 24, 0) := ⟨kw_1283, mwS_159⟩
theorem lk_502 (n : Nat) (nm : String) : gLn "TrunkDuelLaw" nm (.invokestatic 233, n, 171, 2, 1, 6, 0) := ⟨kw_1291, mwS_171⟩
theorem lk_503 (n : Nat) (nm : String) : gLn "TrunkDuelLaw" nm (.invokestatic 264, n, 184, 2, 2, 12, 0) := ⟨kw_882, mwS_184⟩
theorem lk_504 (n : Nat) (nm : String) : gLn "TrunkDuelLaw" nm (.invokevirtual 268, n, 108, 1, 0, 0, 0) := ⟨kw_749, mwV_108⟩
theorem lk_505 (n : Nat) (nm : String) : gLn "TrunkDuelLaw" nm (.invokestatic 271, n, 187, 2, 73, 438, 0) := ⟨kw_1159, mwS_187⟩
theorem lk_506 (n : Nat) (nm : String) : gLn "TrunkDuelLaw" nm (.invokestatic 275, n, 186, 1, 28, 168, 0) := ⟨kw_930, mwS_186⟩
theorem lk_507 (n : Nat) (nm : String) : gLn "TrunkDuelLaw" nm (.invokevirtual 279, n, 119, 1, 0, 0, 0) := ⟨kw_766, mwV_119⟩
theorem lk_508 (n : Nat) (nm : String) : gLn "TrunkDuelLaw" nm (.invokestatic 282, n, 162, 1, 1, 6, 0) := ⟨kw_775, mwS_162⟩
theorem lk_509 (n : Nat) (nm : String) : gLn "TrunkDuelLaw" nm (.invokestatic 284, n, 0, 0, 0, 0, 20) := kw_1314
