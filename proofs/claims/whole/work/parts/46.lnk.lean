/-! ===== every entry of the tables is linked as the class files say; by wip/whole/gen_facts.py ===== -/
def gLn (own nm : String) (E : GE) : Prop := match E with
  | (i, _, a, b, c, d, e) => match i with
    | .getfield idx => ∃ C T N, vwCl[a]? = some (C, T, N) ∧ b < N ∧ (T b).1 = C ∧ Cond.fieldLink own idx C (T b).2.1 (T b).2.2.1 ∈ gw
    | .putfield idx => ∃ C T N ty, vwCl[a]? = some (C, T, N) ∧ b < N ∧ (T b).1 = C ∧ Cond.fieldLink own idx C (T b).2.1 (T b).2.2.1 ∈ gw ∧ parseFieldDescriptor (T b).2.2.1 = some ty ∧ ((c = 0 ∧ ty = .int) ∨ (c = 1 ∧ gIsRef (some ty) = true) ∨ (c = 2 ∧ ty = .boolean)) ∧ ((T b).2.2.2 = true → C = own ∧ nm = "<init>")
    | .getstatic idx => ∃ j q, gStats[j]? = some q ∧ a = gRB + j ∧ Cond.fieldLink own idx q.1 q.2.1 q.2.2 ∈ gw
    | .ldc idx => (match e with
      | 0 => Cond.constant own idx (gK b a) ∈ gw
      | _ => gRB ≤ a ∧ ∃ tx, (own, idx, tx, a) ∈ gPool)
    | .ldc_w idx => (match e with
      | 0 => False
      | _ => gRB ≤ a ∧ ∃ tx, (own, idx, tx, a) ∈ gPool)
    | .new idx => (match e with
      | 0 => ∃ C T N, vwCl[a]? = some (C, T, N) ∧ b = N ∧ Cond.classLink own idx C ∈ gw ∧ Cond.instantiable C N ∈ gw ∧ Cond.initialized C ∈ gw
      | _ => gTw own idx d (gExc a) ∧ ∃ tx, (own, c, tx) ∈ gMsgs)
    | .anewarray idx => Cond.classLink own idx "TrunkDuel$State" ∈ gw
    | .newarray ty => Cond.arrayClass (newarray.typeOf ty) ∈ gw
    | .invokevirtual idx => (match e with
      | 0 | 1 | 2 | 3 | 4 | 10 | 11 => Cond.methodLink own idx (gY a) ∈ gw ∧ gMwV a
      | 23 => Cond.methodLink own idx yJ0_length_8abf5 ∈ gw
      | 24 => Cond.methodLink own idx yJ0_charAt_5068e ∈ gw
      | _ => False)
    | .invokestatic idx => (match e with
      | 0 | 1 | 2 | 3 | 4 => Cond.methodLink own idx (gY a) ∈ gw ∧ gMwS a
      | 10 | 11 => Cond.methodLink own idx (gY a) ∈ gw ∧ gMwS a ∧ gHT a = []
      | 20 => Cond.methodLink own idx Lib.Math.min.name ∈ gw
      | 21 => Cond.methodLink own idx Lib.Math.max.name ∈ gw
      | 22 => Cond.methodLink own idx Lib.Math.abs.name ∈ gw
      | 25 => Cond.methodLink own idx arraycopyName ∈ gw
      | _ => False)
    | .invokespecial idx => (match e with
      | 1 => (Cond.methodLink own idx (gY a) ∈ gw ∨ Cond.methodLinkNest own idx (gY a) "TrunkDuel" ∈ gnw) ∧ gMwI a
      | 26 => Cond.methodLink own idx objectInit ∈ gw
      | _ => False)
    | _ => True
def gOptL (own nm : String) : Option GE → Prop
  | none => True
  | some E => gLn own nm E
def gAll (own nm : String) : List (Option GE) → Prop
  | [] => True
  | o :: r => gOptL own nm o ∧ gAll own nm r
theorem gAll_mem {own nm : String} : ∀ {l : List (Option GE)} {E : GE}, gAll own nm l → some E ∈ l → gLn own nm E
  | o :: r, E, h, hm => by
    rcases List.mem_cons.mp hm with rfl | hm
    · exact h.1
    · exact gAll_mem h.2 hm
theorem gAll_look {m : Nat} {own nm : String} {t : List (List (Option GE))} (h1 : gTab m = t) (h2 : gY m = ⟨own, nm, (gY m).desc⟩) (h : ∀ l ∈ t, gAll own nm l) : ∀ pc E, gLook (gTab m) pc = some E → gLnk m E := by
  intro pc E hE
  rw [h1] at hE
  have key : gLn own nm E := by
    unfold gLook at hE
    split at hE
    · next ch hch =>
      split at hE
      · next o ho =>
        subst hE
        exact gAll_mem (h ch (List.mem_of_getElem? hch)) (List.mem_of_getElem? ho)
      · cases hE
    · cases hE
  have e : gLnk m E = gLn (gY m).cls (gY m).name E := rfl
  rw [e, h2]
  exact key
theorem mwV_76 : gMwV 76 := ⟨kw_581, kw_582, kw_3, kw_583, rfl, rfl⟩
theorem mwV_77 : gMwV 77 := ⟨kw_521, kw_522, kw_3, kw_523, rfl, rfl⟩
theorem mwV_38 : gMwV 38 := ⟨kw_586, kw_587, kw_6, kw_588, rfl, rfl⟩
theorem mwV_2 : gMwV 2 := ⟨kw_850, kp_20, kw_9, kw_851, rfl, rfl⟩
theorem mwV_11 : gMwV 11 := ⟨kw_667, kw_668, kw_7, kw_669, rfl, rfl⟩
theorem mwV_104 : gMwV 104 := ⟨kw_673, kw_674, kw_4, kw_675, rfl, rfl⟩
theorem mwV_106 : gMwV 106 := ⟨kw_623, kw_624, kw_4, kw_625, rfl, rfl⟩
theorem mwV_3 : gMwV 3 := ⟨kw_857, kp_21, kw_9, kw_858, rfl, rfl⟩
theorem mwV_6 : gMwV 6 := ⟨kw_883, kp_22, kw_10, kw_884, rfl, rfl⟩
theorem mwV_15 : gMwV 15 := ⟨kw_606, kw_607, kw_7, kw_608, rfl, rfl⟩
theorem mwV_16 : gMwV 16 := ⟨kw_610, kw_611, kw_7, kw_612, rfl, rfl⟩
theorem mwV_17 : gMwV 17 := ⟨kw_614, kw_615, kw_7, kw_616, rfl, rfl⟩
theorem mwV_7 : gMwV 7 := ⟨kw_892, kp_23, kw_10, kw_893, rfl, rfl⟩
theorem mwV_18 : gMwV 18 := ⟨kw_566, kp_17, kw_7, kw_567, rfl, rfl⟩
theorem mwV_9 : gMwV 9 := ⟨kw_555, kw_556, kw_7, kw_557, rfl, rfl⟩
theorem mwV_10 : gMwV 10 := ⟨kw_573, kw_574, kw_7, kw_575, rfl, rfl⟩
theorem mwI_73 : gMwI 73 := ⟨kw_42, kw_3, kw_43, rfl, rfl, rfl, rfl⟩
theorem mwV_75 : gMwV 75 := ⟨kw_686, kw_687, kw_3, kw_688, rfl, rfl⟩
theorem mwV_25 : gMwV 25 := ⟨kw_937, kw_938, kw_5, kw_939, rfl, rfl⟩
theorem mwI_8 : gMwI 8 := ⟨kw_161, kw_7, kw_162, rfl, rfl, rfl, rfl⟩
theorem mwV_44 : gMwV 44 := ⟨kw_398, kp_0, kw_2, kw_399, rfl, rfl⟩
theorem mwV_61 : gMwV 61 := ⟨kw_406, kp_1, kw_2, kw_407, rfl, rfl⟩
theorem mwV_45 : gMwV 45 := ⟨kw_401, kw_402, kw_2, kw_403, rfl, rfl⟩
theorem mwV_49 : gMwV 49 := ⟨kw_429, kp_5, kw_2, kw_430, rfl, rfl⟩
theorem mwV_50 : gMwV 50 := ⟨kw_463, kp_10, kw_2, kw_464, rfl, rfl⟩
theorem mwV_51 : gMwV 51 := ⟨kw_480, kp_11, kw_2, kw_481, rfl, rfl⟩
theorem mwV_52 : gMwV 52 := ⟨kw_513, kp_13, kw_2, kw_514, rfl, rfl⟩
theorem mwV_64 : gMwV 64 := ⟨kw_434, kp_6, kw_2, kw_435, rfl, rfl⟩
theorem mwV_54 : gMwV 54 := ⟨kw_543, kp_15, kw_2, kw_544, rfl, rfl⟩
theorem mwV_55 : gMwV 55 := ⟨kw_644, kp_19, kw_2, kw_645, rfl, rfl⟩
theorem mwV_82 : gMwV 82 := ⟨kw_663, kw_664, kw_3, kw_665, rfl, rfl⟩
theorem mwV_60 : gMwV 60 := ⟨kw_438, kp_7, kw_2, kw_439, rfl, rfl⟩
theorem mwV_83 : gMwV 83 := ⟨kw_682, kw_683, kw_3, kw_684, rfl, rfl⟩
theorem mwV_59 : gMwV 59 := ⟨kw_459, kp_9, kw_2, kw_460, rfl, rfl⟩
theorem mwV_58 : gMwV 58 := ⟨kw_442, kp_8, kw_2, kw_443, rfl, rfl⟩
theorem mwV_74 : gMwV 74 := ⟨kw_445, kw_446, kw_3, kw_447, rfl, rfl⟩
theorem mwV_91 : gMwV 91 := ⟨kw_467, kw_468, kw_4, kw_469, rfl, rfl⟩
theorem mwV_92 : gMwV 92 := ⟨kw_471, kw_472, kw_4, kw_473, rfl, rfl⟩
theorem mwV_56 : gMwV 56 := ⟨kw_485, kp_12, kw_2, kw_486, rfl, rfl⟩
theorem mwV_93 : gMwV 93 := ⟨kw_494, kw_495, kw_4, kw_496, rfl, rfl⟩
theorem mwV_96 : gMwV 96 := ⟨kw_498, kw_499, kw_4, kw_500, rfl, rfl⟩
theorem mwV_94 : gMwV 94 := ⟨kw_507, kw_508, kw_4, kw_509, rfl, rfl⟩
theorem mwV_53 : gMwV 53 := ⟨kw_518, kp_14, kw_2, kw_519, rfl, rfl⟩
theorem mwV_39 : gMwV 39 := ⟨kw_533, kw_534, kw_6, kw_535, rfl, rfl⟩
theorem mwV_65 : gMwV 65 := ⟨kw_414, kp_3, kw_2, kw_415, rfl, rfl⟩
theorem mwV_35 : gMwV 35 := ⟨kw_525, kw_526, kw_6, kw_527, rfl, rfl⟩
theorem mwV_37 : gMwV 37 := ⟨kw_529, kw_530, kw_6, kw_531, rfl, rfl⟩
theorem mwV_57 : gMwV 57 := ⟨kw_547, kp_16, kw_2, kw_548, rfl, rfl⟩
theorem mwV_78 : gMwV 78 := ⟨kw_577, kw_578, kw_3, kw_579, rfl, rfl⟩
theorem mwV_79 : gMwV 79 := ⟨kw_619, kw_620, kw_3, kw_621, rfl, rfl⟩
theorem mwV_80 : gMwV 80 := ⟨kw_647, kw_648, kw_3, kw_649, rfl, rfl⟩
theorem mwV_81 : gMwV 81 := ⟨kw_657, kw_658, kw_3, kw_659, rfl, rfl⟩
theorem mwV_90 : gMwV 90 := ⟨kw_490, kw_491, kw_4, kw_492, rfl, rfl⟩
theorem mwV_62 : gMwV 62 := ⟨kw_410, kp_2, kw_2, kw_411, rfl, rfl⟩
theorem mwV_63 : gMwV 63 := ⟨kw_418, kp_4, kw_2, kw_419, rfl, rfl⟩
theorem mwV_71 : gMwV 71 := ⟨kw_907, kp_24, kw_11, kw_908, rfl, rfl⟩
theorem mwV_69 : gMwV 69 := ⟨kw_920, kw_921, kw_11, kw_922, rfl, rfl⟩
theorem mwV_72 : gMwV 72 := ⟨kw_911, kp_25, kw_11, kw_912, rfl, rfl⟩
theorem mwI_86 : gMwI 86 := ⟨kw_48, kw_4, kw_49, rfl, rfl, rfl, rfl⟩
theorem mwI_22 : gMwI 22 := ⟨kw_75, kw_5, kw_76, rfl, rfl, rfl, rfl⟩
theorem mwI_32 : gMwI 32 := ⟨kw_105, kw_6, kw_106, rfl, rfl, rfl, rfl⟩
theorem mwV_87 : gMwV 87 := ⟨kw_449, kw_450, kw_4, kw_451, rfl, rfl⟩
theorem mwV_33 : gMwV 33 := ⟨kw_454, kw_455, kw_6, kw_456, rfl, rfl⟩
theorem mwV_88 : gMwV 88 := ⟨kw_690, kw_691, kw_4, kw_692, rfl, rfl⟩
theorem mwV_23 : gMwV 23 := ⟨kw_697, kw_698, kw_5, kw_699, rfl, rfl⟩
theorem mwV_34 : gMwV 34 := ⟨kw_702, kw_703, kw_6, kw_704, rfl, rfl⟩
theorem mwV_102 : gMwV 102 := ⟨kw_590, kw_591, kw_4, kw_592, rfl, rfl⟩
theorem mwV_13 : gMwV 13 := ⟨kw_594, kw_595, kw_7, kw_596, rfl, rfl⟩
theorem mwV_14 : gMwV 14 := ⟨kw_598, kw_599, kw_7, kw_600, rfl, rfl⟩
theorem mwV_24 : gMwV 24 := ⟨kw_634, kw_635, kw_5, kw_636, rfl, rfl⟩
theorem mwV_85 : gMwV 85 := ⟨kw_640, kp_18, kw_3, kw_641, rfl, rfl⟩
theorem mwV_97 : gMwV 97 := ⟨kw_653, kw_654, kw_4, kw_655, rfl, rfl⟩
theorem mwV_105 : gMwV 105 := ⟨kw_1332, kw_1333, kw_4, kw_1334, rfl, rfl⟩
theorem mwV_89 : gMwV 89 := ⟨kw_475, kw_476, kw_4, kw_477, rfl, rfl⟩
theorem mwV_95 : gMwV 95 := ⟨kw_503, kw_504, kw_4, kw_505, rfl, rfl⟩
theorem mwV_99 : gMwV 99 := ⟨kw_770, kw_771, kw_4, kw_772, rfl, rfl⟩
theorem mwV_103 : gMwV 103 := ⟨kw_602, kw_603, kw_4, kw_604, rfl, rfl⟩
theorem mwV_12 : gMwV 12 := ⟨kw_677, kw_678, kw_7, kw_679, rfl, rfl⟩
theorem mwV_98 : gMwV 98 := ⟨kw_627, kw_628, kw_4, kw_629, rfl, rfl⟩
theorem mwI_40 : gMwI 40 := ⟨kw_36, kw_2, kw_37, rfl, rfl, rfl, rfl⟩
theorem mwI_19 : gMwI 19 := ⟨kw_265, kw_8, kw_266, rfl, rfl, rfl, rfl⟩
theorem mwI_0 : gMwI 0 := ⟨kw_287, kw_9, kw_288, rfl, rfl, rfl, rfl⟩
theorem mwI_4 : gMwI 4 := ⟨kw_313, kw_10, kw_314, rfl, rfl, rfl, rfl⟩
theorem mwI_67 : gMwI 67 := ⟨kw_323, kw_11, kw_324, rfl, rfl, rfl, rfl⟩
theorem mwV_42 : gMwV 42 := ⟨kw_345, kw_346, kw_2, kw_347, rfl, rfl⟩
theorem mwV_47 : gMwV 47 := ⟨kw_424, kw_425, kw_2, kw_426, rfl, rfl⟩
theorem mwV_48 : gMwV 48 := ⟨kw_537, kw_538, kw_2, kw_539, rfl, rfl⟩
theorem mwV_66 : gMwV 66 := ⟨kw_707, kw_708, kw_2, kw_709, rfl, rfl⟩
theorem mwV_41 : gMwV 41 := ⟨kw_753, kw_754, kw_2, kw_755, rfl, rfl⟩
theorem mwV_43 : gMwV 43 := ⟨kw_757, kw_758, kw_2, kw_759, rfl, rfl⟩
theorem mwV_20 : gMwV 20 := ⟨kw_765, kw_766, kw_8, kw_767, rfl, rfl⟩
theorem mwV_46 : gMwV 46 := ⟨kw_778, kw_779, kw_2, kw_780, rfl, rfl⟩
theorem mwV_167 : gMwV 167 := ⟨kw_1075, kp_28, kw_1, kw_1076, rfl, rfl⟩
theorem mwV_172 : gMwV 172 := ⟨kw_1130, kp_30, kw_1, kw_1131, rfl, rfl⟩
theorem mwV_21 : gMwV 21 := ⟨kw_1157, kw_1158, kw_8, kw_1159, rfl, rfl⟩
theorem mwS_169 : gMwS 169 := ⟨kw_1168, kw_1, Or.inl ⟨rfl, rfl, kw_1169⟩⟩
theorem mwV_101 : gMwV 101 := ⟨kw_812, kw_813, kw_4, kw_814, rfl, rfl⟩
theorem mwV_171 : gMwV 171 := ⟨kw_1084, kp_29, kw_1, kw_1085, rfl, rfl⟩
theorem mwV_173 : gMwV 173 := ⟨kw_1218, kp_31, kw_1, kw_1219, rfl, rfl⟩
theorem mwV_26 : gMwV 26 := ⟨kw_933, kw_934, kw_5, kw_935, rfl, rfl⟩
theorem mwV_27 : gMwV 27 := ⟨kw_941, kw_942, kw_5, kw_943, rfl, rfl⟩
theorem mwV_28 : gMwV 28 := ⟨kw_946, kw_947, kw_5, kw_948, rfl, rfl⟩
theorem mwV_29 : gMwV 29 := ⟨kw_950, kw_951, kw_5, kw_952, rfl, rfl⟩
theorem mwV_30 : gMwV 30 := ⟨kw_1250, kw_1251, kw_5, kw_1252, rfl, rfl⟩
theorem mwV_31 : gMwV 31 := ⟨kw_955, kw_956, kw_5, kw_957, rfl, rfl⟩
theorem mwS_170 : gMwS 170 := ⟨kw_1268, kw_1, Or.inl ⟨rfl, rfl, kw_1269⟩⟩
theorem mwS_168 : gMwS 168 := ⟨kw_1078, kw_1, Or.inl ⟨rfl, rfl, kw_1079⟩⟩
theorem mwV_36 : gMwV 36 := ⟨kw_1294, kw_1295, kw_6, kw_1296, rfl, rfl⟩
theorem mwV_84 : gMwV 84 := ⟨kw_1328, kw_1329, kw_3, kw_1330, rfl, rfl⟩
theorem mwV_1 : gMwV 1 := ⟨kw_842, kw_843, kw_9, kw_844, rfl, rfl⟩
theorem mwV_5 : gMwV 5 := ⟨kw_877, kw_878, kw_10, kw_879, rfl, rfl⟩
theorem mwV_68 : gMwV 68 := ⟨kw_902, kw_903, kw_11, kw_904, rfl, rfl⟩
theorem mwV_70 : gMwV 70 := ⟨kw_1360, kw_1361, kw_11, kw_1362, rfl, rfl⟩
theorem mwV_100 : gMwV 100 := ⟨kw_960, kw_961, kw_4, kw_962, rfl, rfl⟩
theorem mwV_165 : gMwV 165 := ⟨kw_979, kp_26, kw_1, kw_980, rfl, rfl⟩
theorem mwS_166 : gMwS 166 := ⟨kw_983, kw_1, Or.inl ⟨rfl, rfl, kw_984⟩⟩
theorem mwV_175 : gMwV 175 := ⟨kw_1380, kp_32, kw_18, kw_1381, rfl, rfl⟩
theorem mwV_234 : gMwV 234 := ⟨kw_1385, kw_1386, kw_18, kw_1387, rfl, rfl⟩
theorem mwS_180 : gMwS 180 := ⟨kw_1393, kw_18, Or.inl ⟨rfl, rfl, kw_1394⟩⟩
theorem mwS_179 : gMwS 179 := ⟨kw_1405, kw_18, Or.inl ⟨rfl, rfl, kw_1406⟩⟩
theorem mwS_183 : gMwS 183 := ⟨kw_1448, kw_18, Or.inl ⟨rfl, rfl, kw_1449⟩⟩
theorem mwV_182 : gMwV 182 := ⟨kw_1468, kp_48, kw_18, kw_1469, rfl, rfl⟩
theorem mwV_184 : gMwV 184 := ⟨kw_1445, kp_44, kw_18, kw_1446, rfl, rfl⟩
theorem mwS_188 : gMwS 188 := ⟨kw_1471, kw_18, Or.inl ⟨rfl, rfl, kw_1472⟩⟩
theorem mwS_193 : gMwS 193 := ⟨kw_1529, kw_18, Or.inl ⟨rfl, rfl, kw_1530⟩⟩
theorem mwS_191 : gMwS 191 := ⟨kw_1532, kw_18, Or.inl ⟨rfl, rfl, kw_1533⟩⟩
theorem mwS_192 : gMwS 192 := ⟨kw_1535, kw_18, Or.inl ⟨rfl, rfl, kw_1536⟩⟩
theorem mwS_190 : gMwS 190 := ⟨kw_1542, kw_18, Or.inl ⟨rfl, rfl, kw_1543⟩⟩
theorem mwV_189 : gMwV 189 := ⟨kw_1547, kp_62, kw_18, kw_1548, rfl, rfl⟩
theorem mwV_194 : gMwV 194 := ⟨kw_1526, kp_60, kw_18, kw_1527, rfl, rfl⟩
theorem mwV_195 : gMwV 195 := ⟨kw_1539, kp_61, kw_18, kw_1540, rfl, rfl⟩
theorem mwV_197 : gMwV 197 := ⟨kw_1559, kp_65, kw_18, kw_1560, rfl, rfl⟩
theorem mwV_196 : gMwV 196 := ⟨kw_1522, kp_59, kw_18, kw_1523, rfl, rfl⟩
theorem mwV_200 : gMwV 200 := ⟨kw_1484, kp_51, kw_18, kw_1485, rfl, rfl⟩
theorem mwV_199 : gMwV 199 := ⟨kw_1592, kp_73, kw_18, kw_1593, rfl, rfl⟩
theorem mwV_202 : gMwV 202 := ⟨kw_1518, kp_58, kw_18, kw_1519, rfl, rfl⟩
theorem mwV_198 : gMwV 198 := ⟨kw_1555, kp_64, kw_18, kw_1556, rfl, rfl⟩
theorem mwV_201 : gMwV 201 := ⟨kw_1488, kp_52, kw_18, kw_1489, rfl, rfl⟩
theorem mwV_205 : gMwV 205 := ⟨kw_1563, kp_66, kw_18, kw_1564, rfl, rfl⟩
theorem mwV_186 : gMwV 186 := ⟨kw_1575, kp_69, kw_18, kw_1576, rfl, rfl⟩
theorem mwV_203 : gMwV 203 := ⟨kw_1588, kp_72, kw_18, kw_1589, rfl, rfl⟩
theorem mwV_212 : gMwV 212 := ⟨kw_1701, kp_77, kw_18, kw_1702, rfl, rfl⟩
theorem mwV_177 : gMwV 177 := ⟨kw_1709, kp_78, kw_18, kw_1710, rfl, rfl⟩
theorem mwV_214 : gMwV 214 := ⟨kw_1402, kp_35, kw_18, kw_1403, rfl, rfl⟩
theorem mwV_215 : gMwV 215 := ⟨kw_1409, kp_36, kw_18, kw_1410, rfl, rfl⟩
theorem mwV_216 : gMwV 216 := ⟨kw_1398, kp_34, kw_18, kw_1399, rfl, rfl⟩
theorem mwV_218 : gMwV 218 := ⟨kw_1420, kp_38, kw_18, kw_1421, rfl, rfl⟩
theorem mwV_220 : gMwV 220 := ⟨kw_1432, kp_41, kw_18, kw_1433, rfl, rfl⟩
theorem mwV_219 : gMwV 219 := ⟨kw_1424, kp_39, kw_18, kw_1425, rfl, rfl⟩
theorem mwV_217 : gMwV 217 := ⟨kw_1416, kp_37, kw_18, kw_1417, rfl, rfl⟩
theorem mwV_221 : gMwV 221 := ⟨kw_1428, kp_40, kw_18, kw_1429, rfl, rfl⟩
theorem mwV_223 : gMwV 223 := ⟨kw_1436, kp_42, kw_18, kw_1437, rfl, rfl⟩
theorem mwV_222 : gMwV 222 := ⟨kw_1457, kp_46, kw_18, kw_1458, rfl, rfl⟩
theorem mwV_187 : gMwV 187 := ⟨kw_1464, kp_47, kw_18, kw_1465, rfl, rfl⟩
theorem mwV_226 : gMwV 226 := ⟨kw_1480, kp_50, kw_18, kw_1481, rfl, rfl⟩
theorem mwV_228 : gMwV 228 := ⟨kw_1505, kp_56, kw_18, kw_1506, rfl, rfl⟩
theorem mwV_204 : gMwV 204 := ⟨kw_1514, kp_57, kw_18, kw_1515, rfl, rfl⟩
theorem mwV_206 : gMwV 206 := ⟨kw_1551, kp_63, kw_18, kw_1552, rfl, rfl⟩
theorem mwV_207 : gMwV 207 := ⟨kw_1571, kp_68, kw_18, kw_1572, rfl, rfl⟩
theorem mwV_208 : gMwV 208 := ⟨kw_1579, kp_70, kw_18, kw_1580, rfl, rfl⟩
theorem mwV_229 : gMwV 229 := ⟨kw_1501, kp_55, kw_18, kw_1502, rfl, rfl⟩
theorem mwV_230 : gMwV 230 := ⟨kw_1567, kp_67, kw_18, kw_1568, rfl, rfl⟩
theorem mwV_209 : gMwV 209 := ⟨kw_1584, kp_71, kw_18, kw_1585, rfl, rfl⟩
theorem mwV_210 : gMwV 210 := ⟨kw_1596, kp_74, kw_18, kw_1597, rfl, rfl⟩
theorem mwV_231 : gMwV 231 := ⟨kw_1496, kp_54, kw_18, kw_1497, rfl, rfl⟩
theorem mwV_181 : gMwV 181 := ⟨kw_1600, kp_75, kw_18, kw_1601, rfl, rfl⟩
theorem mwV_232 : gMwV 232 := ⟨kw_1390, kp_33, kw_18, kw_1391, rfl, rfl⟩
theorem mwV_224 : gMwV 224 := ⟨kw_1441, kp_43, kw_18, kw_1442, rfl, rfl⟩
theorem mwV_225 : gMwV 225 := ⟨kw_1453, kp_45, kw_18, kw_1454, rfl, rfl⟩
theorem mwV_227 : gMwV 227 := ⟨kw_1475, kp_49, kw_18, kw_1476, rfl, rfl⟩
theorem mwV_233 : gMwV 233 := ⟨kw_1492, kp_53, kw_18, kw_1493, rfl, rfl⟩
theorem mwV_248 : gMwV 248 := ⟨kw_1604, kp_76, kw_18, kw_1605, rfl, rfl⟩
theorem mwV_178 : gMwV 178 := ⟨kw_1722, kp_79, kw_18, kw_1723, rfl, rfl⟩
theorem mwS_238 : gMwS 238 := ⟨kw_1733, kw_18, Or.inl ⟨rfl, rfl, kw_1734⟩⟩
theorem mwS_239 : gMwS 239 := ⟨kw_1736, kw_18, Or.inl ⟨rfl, rfl, kw_1737⟩⟩
theorem mwS_240 : gMwS 240 := ⟨kw_1743, kw_18, Or.inl ⟨rfl, rfl, kw_1744⟩⟩
theorem mwV_261 : gMwV 261 := ⟨kw_1811, kp_80, kw_18, kw_1812, rfl, rfl⟩
theorem mwS_241 : gMwS 241 := ⟨kw_1850, kw_18, Or.inl ⟨rfl, rfl, kw_1851⟩⟩
theorem mwV_275 : gMwV 275 := ⟨kw_1870, kp_81, kw_18, kw_1871, rfl, rfl⟩
theorem mwV_281 : gMwV 281 := ⟨kw_1894, kp_82, kw_18, kw_1895, rfl, rfl⟩
theorem mwV_282 : gMwV 282 := ⟨kw_1898, kp_83, kw_18, kw_1899, rfl, rfl⟩
theorem mwV_285 : gMwV 285 := ⟨kw_1910, kp_85, kw_18, kw_1911, rfl, rfl⟩
theorem mwV_284 : gMwV 284 := ⟨kw_1906, kp_84, kw_18, kw_1907, rfl, rfl⟩
theorem mwV_185 : gMwV 185 := ⟨kw_1946, kp_89, kw_18, kw_1947, rfl, rfl⟩
theorem mwV_291 : gMwV 291 := ⟨kw_1942, kp_88, kw_18, kw_1943, rfl, rfl⟩
theorem mwV_292 : gMwV 292 := ⟨kw_1938, kp_87, kw_18, kw_1939, rfl, rfl⟩
theorem mwV_294 : gMwV 294 := ⟨kw_1934, kp_86, kw_18, kw_1935, rfl, rfl⟩
theorem mwV_293 : gMwV 293 := ⟨kw_1954, kp_90, kw_18, kw_1955, rfl, rfl⟩
theorem mwV_298 : gMwV 298 := ⟨kw_1970, kp_92, kw_18, kw_1971, rfl, rfl⟩
theorem mwV_299 : gMwV 299 := ⟨kw_1966, kp_91, kw_18, kw_1967, rfl, rfl⟩
theorem mwV_302 : gMwV 302 := ⟨kw_1982, kp_93, kw_18, kw_1983, rfl, rfl⟩
theorem mwV_249 : gMwV 249 := ⟨kw_1986, kp_94, kw_18, kw_1987, rfl, rfl⟩
theorem mwV_306 : gMwV 306 := ⟨kw_2002, kp_95, kw_18, kw_2003, rfl, rfl⟩
theorem mwV_109 : gMwV 109 := ⟨kw_994, kw_995, kw_1, kw_996, rfl, rfl⟩
theorem mwV_114 : gMwV 114 := ⟨kw_1070, kw_1071, kw_1, kw_1072, rfl, rfl⟩
theorem mwV_115 : gMwV 115 := ⟨kw_1125, kw_1126, kw_1, kw_1127, rfl, rfl⟩
theorem mwV_116 : gMwV 116 := ⟨kw_1142, kw_1143, kw_1, kw_1144, rfl, rfl⟩
theorem mwV_117 : gMwV 117 := ⟨kw_1152, kw_1153, kw_1, kw_1154, rfl, rfl⟩
theorem mwV_118 : gMwV 118 := ⟨kw_1164, kw_1165, kw_1, kw_1166, rfl, rfl⟩
theorem mwV_119 : gMwV 119 := ⟨kw_1175, kw_1176, kw_1, kw_1177, rfl, rfl⟩
theorem mwV_127 : gMwV 127 := ⟨kw_1183, kw_1184, kw_1, kw_1185, rfl, rfl⟩
theorem mwV_128 : gMwV 128 := ⟨kw_1190, kw_1191, kw_1, kw_1192, rfl, rfl⟩
theorem mwV_129 : gMwV 129 := ⟨kw_1197, kw_1198, kw_1, kw_1199, rfl, rfl⟩
theorem mwV_130 : gMwV 130 := ⟨kw_1205, kw_1206, kw_1, kw_1207, rfl, rfl⟩
theorem mwV_131 : gMwV 131 := ⟨kw_1213, kw_1214, kw_1, kw_1215, rfl, rfl⟩
theorem mwV_132 : gMwV 132 := ⟨kw_1225, kw_1226, kw_1, kw_1227, rfl, rfl⟩
theorem mwV_133 : gMwV 133 := ⟨kw_1232, kw_1233, kw_1, kw_1234, rfl, rfl⟩
theorem mwV_134 : gMwV 134 := ⟨kw_1239, kw_1240, kw_1, kw_1241, rfl, rfl⟩
theorem mwV_135 : gMwV 135 := ⟨kw_1246, kw_1247, kw_1, kw_1248, rfl, rfl⟩
theorem mwV_136 : gMwV 136 := ⟨kw_1257, kw_1258, kw_1, kw_1259, rfl, rfl⟩
theorem mwV_140 : gMwV 140 := ⟨kw_1264, kw_1265, kw_1, kw_1266, rfl, rfl⟩
theorem mwV_141 : gMwV 141 := ⟨kw_1275, kw_1276, kw_1, kw_1277, rfl, rfl⟩
theorem mwV_142 : gMwV 142 := ⟨kw_1283, kw_1284, kw_1, kw_1285, rfl, rfl⟩
theorem mwV_143 : gMwV 143 := ⟨kw_1290, kw_1291, kw_1, kw_1292, rfl, rfl⟩
theorem mwV_144 : gMwV 144 := ⟨kw_1301, kw_1302, kw_1, kw_1303, rfl, rfl⟩
theorem mwV_145 : gMwV 145 := ⟨kw_1309, kw_1310, kw_1, kw_1311, rfl, rfl⟩
theorem mwV_146 : gMwV 146 := ⟨kw_1316, kw_1317, kw_1, kw_1318, rfl, rfl⟩
theorem mwV_147 : gMwV 147 := ⟨kw_1324, kw_1325, kw_1, kw_1326, rfl, rfl⟩
theorem mwV_148 : gMwV 148 := ⟨kw_1341, kw_1342, kw_1, kw_1343, rfl, rfl⟩
theorem mwV_149 : gMwV 149 := ⟨kw_1349, kw_1350, kw_1, kw_1351, rfl, rfl⟩
theorem mwV_157 : gMwV 157 := ⟨kw_1356, kw_1357, kw_1, kw_1358, rfl, rfl⟩
theorem mwV_158 : gMwV 158 := ⟨kw_1368, kw_1369, kw_1, kw_1370, rfl, rfl⟩
theorem mwI_107 : gMwI 107 := ⟨kw_28, kw_1, kw_29, rfl, rfl, rfl, rfl⟩
theorem mwI_174 : gMwI 174 := ⟨kw_1374, kw_18, kw_1375, rfl, rfl, rfl, rfl⟩
theorem mwV_108 : gMwV 108 := ⟨kw_749, kw_750, kw_1, kw_751, rfl, rfl⟩
theorem mwV_211 : gMwV 211 := ⟨kw_1696, kw_1697, kw_18, kw_1698, rfl, rfl⟩
theorem mwS_309 : gMwS 309 := ⟨kw_990, kw_0, Or.inr kw_991⟩
theorem mwV_213 : gMwV 213 := ⟨kw_1704, kw_1705, kw_18, kw_1706, rfl, rfl⟩
theorem mwV_176 : gMwV 176 := ⟨kw_1692, kw_1693, kw_18, kw_1694, rfl, rfl⟩
theorem mwV_110 : gMwV 110 := ⟨kw_761, kw_762, kw_1, kw_763, rfl, rfl⟩
theorem mwV_111 : gMwV 111 := ⟨kw_774, kw_775, kw_1, kw_776, rfl, rfl⟩
theorem mwV_235 : gMwV 235 := ⟨kw_1713, kw_1714, kw_18, kw_1715, rfl, rfl⟩
theorem mwV_112 : gMwV 112 := ⟨kw_784, kw_785, kw_1, kw_786, rfl, rfl⟩
theorem mwV_236 : gMwV 236 := ⟨kw_1717, kw_1718, kw_18, kw_1719, rfl, rfl⟩
theorem mwV_113 : gMwV 113 := ⟨kw_788, kw_789, kw_1, kw_790, rfl, rfl⟩
theorem mwV_237 : gMwV 237 := ⟨kw_1725, kw_1726, kw_18, kw_1727, rfl, rfl⟩
theorem mwS_310 : gMwS 310 := ⟨kw_1065, kw_0, Or.inr kw_1066⟩
theorem mwV_242 : gMwV 242 := ⟨kw_1729, kw_1730, kw_18, kw_1731, rfl, rfl⟩
theorem mwS_311 : gMwS 311 := ⟨kw_1122, kw_0, Or.inr kw_1123⟩
theorem mwV_243 : gMwV 243 := ⟨kw_1739, kw_1740, kw_18, kw_1741, rfl, rfl⟩
theorem mwS_312 : gMwS 312 := ⟨kw_1139, kw_0, Or.inr kw_1140⟩
theorem mwV_244 : gMwV 244 := ⟨kw_1746, kw_1747, kw_18, kw_1748, rfl, rfl⟩
theorem mwS_313 : gMwS 313 := ⟨kw_1149, kw_0, Or.inr kw_1150⟩
theorem mwV_245 : gMwV 245 := ⟨kw_1750, kw_1751, kw_18, kw_1752, rfl, rfl⟩
theorem mwS_314 : gMwS 314 := ⟨kw_1161, kw_0, Or.inr kw_1162⟩
theorem mwV_246 : gMwV 246 := ⟨kw_1754, kw_1755, kw_18, kw_1756, rfl, rfl⟩
theorem mwS_315 : gMwS 315 := ⟨kw_1172, kw_0, Or.inr kw_1173⟩
theorem mwV_247 : gMwV 247 := ⟨kw_1758, kw_1759, kw_18, kw_1760, rfl, rfl⟩
theorem mwV_120 : gMwV 120 := ⟨kw_792, kw_793, kw_1, kw_794, rfl, rfl⟩
theorem mwV_250 : gMwV 250 := ⟨kw_1762, kw_1763, kw_18, kw_1764, rfl, rfl⟩
theorem mwV_121 : gMwV 121 := ⟨kw_796, kw_797, kw_1, kw_798, rfl, rfl⟩
theorem mwV_251 : gMwV 251 := ⟨kw_1766, kw_1767, kw_18, kw_1768, rfl, rfl⟩
theorem mwV_122 : gMwV 122 := ⟨kw_800, kw_801, kw_1, kw_802, rfl, rfl⟩
theorem mwV_252 : gMwV 252 := ⟨kw_1770, kw_1771, kw_18, kw_1772, rfl, rfl⟩
theorem mwV_123 : gMwV 123 := ⟨kw_804, kw_805, kw_1, kw_806, rfl, rfl⟩
theorem mwV_253 : gMwV 253 := ⟨kw_1774, kw_1775, kw_18, kw_1776, rfl, rfl⟩
theorem mwV_124 : gMwV 124 := ⟨kw_808, kw_809, kw_1, kw_810, rfl, rfl⟩
theorem mwV_254 : gMwV 254 := ⟨kw_1778, kw_1779, kw_18, kw_1780, rfl, rfl⟩
theorem mwV_125 : gMwV 125 := ⟨kw_816, kw_817, kw_1, kw_818, rfl, rfl⟩
theorem mwV_255 : gMwV 255 := ⟨kw_1782, kw_1783, kw_18, kw_1784, rfl, rfl⟩
theorem mwV_126 : gMwV 126 := ⟨kw_821, kw_822, kw_1, kw_823, rfl, rfl⟩
theorem mwV_256 : gMwV 256 := ⟨kw_1786, kw_1787, kw_18, kw_1788, rfl, rfl⟩
theorem mwS_316 : gMwS 316 := ⟨kw_1180, kw_0, Or.inr kw_1181⟩
theorem mwV_257 : gMwV 257 := ⟨kw_1790, kw_1791, kw_18, kw_1792, rfl, rfl⟩
theorem mwS_317 : gMwS 317 := ⟨kw_1187, kw_0, Or.inr kw_1188⟩
theorem mwV_258 : gMwV 258 := ⟨kw_1794, kw_1795, kw_18, kw_1796, rfl, rfl⟩
theorem mwS_318 : gMwS 318 := ⟨kw_1194, kw_0, Or.inr kw_1195⟩
theorem mwV_259 : gMwV 259 := ⟨kw_1798, kw_1799, kw_18, kw_1800, rfl, rfl⟩
theorem mwS_319 : gMwS 319 := ⟨kw_1202, kw_0, Or.inr kw_1203⟩
theorem mwV_260 : gMwV 260 := ⟨kw_1802, kw_1803, kw_18, kw_1804, rfl, rfl⟩
theorem mwS_320 : gMwS 320 := ⟨kw_1210, kw_0, Or.inr kw_1211⟩
theorem mwV_262 : gMwV 262 := ⟨kw_1806, kw_1807, kw_18, kw_1808, rfl, rfl⟩
theorem mwS_321 : gMwS 321 := ⟨kw_1222, kw_0, Or.inr kw_1223⟩
theorem mwV_263 : gMwV 263 := ⟨kw_1814, kw_1815, kw_18, kw_1816, rfl, rfl⟩
theorem mwS_322 : gMwS 322 := ⟨kw_1229, kw_0, Or.inr kw_1230⟩
theorem mwV_264 : gMwV 264 := ⟨kw_1818, kw_1819, kw_18, kw_1820, rfl, rfl⟩
theorem mwS_323 : gMwS 323 := ⟨kw_1236, kw_0, Or.inr kw_1237⟩
theorem mwV_265 : gMwV 265 := ⟨kw_1822, kw_1823, kw_18, kw_1824, rfl, rfl⟩
theorem mwS_324 : gMwS 324 := ⟨kw_1243, kw_0, Or.inr kw_1244⟩
theorem mwV_266 : gMwV 266 := ⟨kw_1826, kw_1827, kw_18, kw_1828, rfl, rfl⟩
theorem mwS_325 : gMwS 325 := ⟨kw_1254, kw_0, Or.inr kw_1255⟩
theorem mwV_267 : gMwV 267 := ⟨kw_1830, kw_1831, kw_18, kw_1832, rfl, rfl⟩
theorem mwV_137 : gMwV 137 := ⟨kw_825, kw_826, kw_1, kw_827, rfl, rfl⟩
theorem mwV_268 : gMwV 268 := ⟨kw_1834, kw_1835, kw_18, kw_1836, rfl, rfl⟩
theorem mwV_138 : gMwV 138 := ⟨kw_830, kw_831, kw_1, kw_832, rfl, rfl⟩
theorem mwV_269 : gMwV 269 := ⟨kw_1838, kw_1839, kw_18, kw_1840, rfl, rfl⟩
theorem mwV_139 : gMwV 139 := ⟨kw_834, kw_835, kw_1, kw_836, rfl, rfl⟩
theorem mwV_270 : gMwV 270 := ⟨kw_1842, kw_1843, kw_18, kw_1844, rfl, rfl⟩
theorem mwS_326 : gMwS 326 := ⟨kw_1261, kw_0, Or.inr kw_1262⟩
theorem mwV_271 : gMwV 271 := ⟨kw_1846, kw_1847, kw_18, kw_1848, rfl, rfl⟩
theorem mwS_327 : gMwS 327 := ⟨kw_1272, kw_0, Or.inr kw_1273⟩
theorem mwV_272 : gMwV 272 := ⟨kw_1853, kw_1854, kw_18, kw_1855, rfl, rfl⟩
theorem mwS_328 : gMwS 328 := ⟨kw_1280, kw_0, Or.inr kw_1281⟩
theorem mwV_273 : gMwV 273 := ⟨kw_1857, kw_1858, kw_18, kw_1859, rfl, rfl⟩
theorem mwS_329 : gMwS 329 := ⟨kw_1287, kw_0, Or.inr kw_1288⟩
theorem mwV_274 : gMwV 274 := ⟨kw_1861, kw_1862, kw_18, kw_1863, rfl, rfl⟩
theorem mwS_330 : gMwS 330 := ⟨kw_1298, kw_0, Or.inr kw_1299⟩
theorem mwV_276 : gMwV 276 := ⟨kw_1865, kw_1866, kw_18, kw_1867, rfl, rfl⟩
theorem mwS_331 : gMwS 331 := ⟨kw_1306, kw_0, Or.inr kw_1307⟩
theorem mwV_277 : gMwV 277 := ⟨kw_1873, kw_1874, kw_18, kw_1875, rfl, rfl⟩
theorem mwS_332 : gMwS 332 := ⟨kw_1313, kw_0, Or.inr kw_1314⟩
theorem mwV_278 : gMwV 278 := ⟨kw_1877, kw_1878, kw_18, kw_1879, rfl, rfl⟩
theorem mwS_333 : gMwS 333 := ⟨kw_1321, kw_0, Or.inr kw_1322⟩
theorem mwV_279 : gMwV 279 := ⟨kw_1881, kw_1882, kw_18, kw_1883, rfl, rfl⟩
theorem mwS_334 : gMwS 334 := ⟨kw_1338, kw_0, Or.inr kw_1339⟩
theorem mwV_280 : gMwV 280 := ⟨kw_1885, kw_1886, kw_18, kw_1887, rfl, rfl⟩
theorem mwS_335 : gMwS 335 := ⟨kw_1346, kw_0, Or.inr kw_1347⟩
theorem mwV_283 : gMwV 283 := ⟨kw_1889, kw_1890, kw_18, kw_1891, rfl, rfl⟩
theorem mwV_150 : gMwV 150 := ⟨kw_838, kw_839, kw_1, kw_840, rfl, rfl⟩
theorem mwV_286 : gMwV 286 := ⟨kw_1901, kw_1902, kw_18, kw_1903, rfl, rfl⟩
theorem mwV_151 : gMwV 151 := ⟨kw_860, kw_861, kw_1, kw_862, rfl, rfl⟩
theorem mwV_287 : gMwV 287 := ⟨kw_1913, kw_1914, kw_18, kw_1915, rfl, rfl⟩
theorem mwV_152 : gMwV 152 := ⟨kw_864, kw_865, kw_1, kw_866, rfl, rfl⟩
theorem mwV_288 : gMwV 288 := ⟨kw_1917, kw_1918, kw_18, kw_1919, rfl, rfl⟩
theorem mwV_153 : gMwV 153 := ⟨kw_868, kw_869, kw_1, kw_870, rfl, rfl⟩
theorem mwV_289 : gMwV 289 := ⟨kw_1921, kw_1922, kw_18, kw_1923, rfl, rfl⟩
theorem mwV_154 : gMwV 154 := ⟨kw_872, kw_873, kw_1, kw_874, rfl, rfl⟩
theorem mwV_290 : gMwV 290 := ⟨kw_1925, kw_1926, kw_18, kw_1927, rfl, rfl⟩
theorem mwV_155 : gMwV 155 := ⟨kw_898, kw_899, kw_1, kw_900, rfl, rfl⟩
theorem mwV_295 : gMwV 295 := ⟨kw_1929, kw_1930, kw_18, kw_1931, rfl, rfl⟩
theorem mwV_156 : gMwV 156 := ⟨kw_916, kw_917, kw_1, kw_918, rfl, rfl⟩
theorem mwV_296 : gMwV 296 := ⟨kw_1949, kw_1950, kw_18, kw_1951, rfl, rfl⟩
theorem mwS_336 : gMwS 336 := ⟨kw_1353, kw_0, Or.inr kw_1354⟩
theorem mwV_297 : gMwV 297 := ⟨kw_1957, kw_1958, kw_18, kw_1959, rfl, rfl⟩
theorem mwS_337 : gMwS 337 := ⟨kw_1365, kw_0, Or.inr kw_1366⟩
theorem mwV_300 : gMwV 300 := ⟨kw_1961, kw_1962, kw_18, kw_1963, rfl, rfl⟩
theorem mwV_159 : gMwV 159 := ⟨kw_925, kw_926, kw_1, kw_927, rfl, rfl⟩
theorem mwV_301 : gMwV 301 := ⟨kw_1973, kw_1974, kw_18, kw_1975, rfl, rfl⟩
theorem mwV_160 : gMwV 160 := ⟨kw_929, kw_930, kw_1, kw_931, rfl, rfl⟩
theorem mwV_303 : gMwV 303 := ⟨kw_1977, kw_1978, kw_18, kw_1979, rfl, rfl⟩
theorem mwV_161 : gMwV 161 := ⟨kw_966, kw_967, kw_1, kw_968, rfl, rfl⟩
theorem mwV_304 : gMwV 304 := ⟨kw_1989, kw_1990, kw_18, kw_1991, rfl, rfl⟩
theorem mwV_162 : gMwV 162 := ⟨kw_970, kw_971, kw_1, kw_972, rfl, rfl⟩
theorem mwV_305 : gMwV 305 := ⟨kw_1993, kw_1994, kw_18, kw_1995, rfl, rfl⟩
theorem mwV_163 : gMwV 163 := ⟨kw_974, kw_975, kw_1, kw_976, rfl, rfl⟩
theorem mwV_307 : gMwV 307 := ⟨kw_1997, kw_1998, kw_18, kw_1999, rfl, rfl⟩
theorem mwV_164 : gMwV 164 := ⟨kw_986, kw_987, kw_1, kw_988, rfl, rfl⟩
theorem mwV_308 : gMwV 308 := ⟨kw_2005, kw_2006, kw_18, kw_2007, rfl, rfl⟩
theorem at_0 : ∀ w ∈ vx_atS "TrunkDuel" 117 "java/lang/IllegalArgumentException" gNames, w ∈ gw ∨ w ∈ gnw := by decide +kernel
theorem at_1 : ∀ w ∈ vx_atS "TrunkDuel" 156 "java/lang/IllegalStateException" gNames, w ∈ gw ∨ w ∈ gnw := by decide +kernel
theorem at_2 : ∀ w ∈ vx_atS "TrunkDuel" 231 "java/lang/IndexOutOfBoundsException" gNames, w ∈ gw ∨ w ∈ gnw := by decide +kernel
theorem lk_0 (n : Nat) (nm : String) : gLn "TrunkDuel$Choice" nm (.invokespecial 3, n, 0, 0, 0, 0, 26) := kw_289
theorem lk_1 (n : Nat) (nm : String) : gLn "TrunkDuel$Choice" nm (.putfield 9, n, 0, 0, 0, 0, 0) := ⟨_, _, _, tyX0 0, rfl, by decide, rfl, kw_290, tyX0_ok 0 (by decide), Or.inl ⟨rfl, rfl⟩, fun h => by cases h⟩
theorem lk_2 (n : Nat) (nm : String) : gLn "TrunkDuel$Choice" nm (.putfield 15, n, 0, 1, 0, 0, 0) := ⟨_, _, _, tyX0 1, rfl, by decide, rfl, kw_292, tyX0_ok 1 (by decide), Or.inl ⟨rfl, rfl⟩, fun h => by cases h⟩
theorem lk_3 (n : Nat) (nm : String) : gLn "TrunkDuel$Choice" nm (.putfield 18, n, 0, 2, 0, 0, 0) := ⟨_, _, _, tyX0 2, rfl, by decide, rfl, kw_294, tyX0_ok 2 (by decide), Or.inl ⟨rfl, rfl⟩, fun h => by cases h⟩
theorem lk_4 (n : Nat) (nm : String) : gLn "TrunkDuel$Choice" nm (.putfield 21, n, 0, 3, 0, 0, 0) := ⟨_, _, _, tyX0 3, rfl, by decide, rfl, kw_296, tyX0_ok 3 (by decide), Or.inl ⟨rfl, rfl⟩, fun h => by cases h⟩
theorem lk_5 (n : Nat) (nm : String) : gLn "TrunkDuel$Choice" nm (.putfield 24, n, 0, 4, 0, 0, 0) := ⟨_, _, _, tyX0 4, rfl, by decide, rfl, kw_298, tyX0_ok 4 (by decide), Or.inl ⟨rfl, rfl⟩, fun h => by cases h⟩
theorem lk_6 (n : Nat) (nm : String) : gLn "TrunkDuel$Choice" nm (.invokevirtual 27, n, 76, 1, 0, 0, 0) := ⟨kw_845, mwV_76⟩
theorem lk_7 (n : Nat) (nm : String) : gLn "TrunkDuel$Choice" nm (.getfield 33, n, 8, 4, 0, 0, 0) := ⟨_, _, _, rfl, by decide, rfl, kw_142⟩
theorem lk_8 (n : Nat) (nm : String) : gLn "TrunkDuel$Choice" nm (.invokevirtual 36, n, 77, 2, 0, 0, 2) := ⟨kw_846, mwV_77⟩
theorem lk_9 (n : Nat) (nm : String) : gLn "TrunkDuel$Choice" nm (.invokevirtual 40, n, 38, 2, 0, 0, 0) := ⟨kw_847, mwV_38⟩
theorem lk_10 (n : Nat) (nm : String) : gLn "TrunkDuel$Choice" nm (.getfield 46, n, 8, 0, 1, 1, 0) := ⟨_, _, _, rfl, by decide, rfl, kw_130⟩
theorem lk_11 (n : Nat) (nm : String) : gLn "TrunkDuel$Choice" nm (.invokevirtual 50, n, 2, 4, 0, 0, 1) := ⟨kw_848, mwV_2⟩
theorem lk_12 (n : Nat) (nm : String) : gLn "TrunkDuel$Choice" nm (.invokevirtual 54, n, 11, 2, 0, 0, 1) := ⟨kw_852, mwV_11⟩
theorem lk_13 (n : Nat) (nm : String) : gLn "TrunkDuel$Choice" nm (.invokevirtual 60, n, 104, 2, 0, 0, 0) := ⟨kw_853, mwV_104⟩
theorem lk_14 (n : Nat) (nm : String) : gLn "TrunkDuel$Choice" nm (.invokevirtual 66, n, 106, 2, 0, 0, 0) := ⟨kw_854, mwV_106⟩
theorem lk_15 (n : Nat) (nm : String) : gLn "TrunkDuel$Choice" nm (.invokevirtual 70, n, 3, 3, 0, 0, 1) := ⟨kw_855, mwV_3⟩
theorem lk_16 (n : Nat) (nm : String) : gLn "TrunkDuel$Choice" nm (.getfield 24, n, 0, 4, 0, 0, 0) := ⟨_, _, _, rfl, by decide, rfl, kw_298⟩
theorem lk_17 (n : Nat) (nm : String) : gLn "TrunkDuel$Choice" nm (.getfield 74, n, 2, 0, 0, 0, 0) := ⟨_, _, _, rfl, by decide, rfl, kw_166⟩
theorem lk_18 (n : Nat) (nm : String) : gLn "TrunkDuel$Choice" nm (.getfield 75, n, 2, 1, 0, 0, 0) := ⟨_, _, _, rfl, by decide, rfl, kw_170⟩
theorem lk_19 (n : Nat) (nm : String) : gLn "TrunkDuel$Choice" nm (.getfield 76, n, 2, 2, 0, 0, 0) := ⟨_, _, _, rfl, by decide, rfl, kw_173⟩
theorem lk_20 (n : Nat) (nm : String) : gLn "TrunkDuel$Choice" nm (.getfield 77, n, 2, 3, 0, 0, 0) := ⟨_, _, _, rfl, by decide, rfl, kw_176⟩
theorem lk_21 (n : Nat) (nm : String) : gLn "TrunkDuel$Crossings" nm (.invokespecial 3, n, 0, 0, 0, 0, 26) := kw_315
theorem lk_22 (n : Nat) (nm : String) : gLn "TrunkDuel$Crossings" nm (.newarray .int, n, 0, 0, 0, 0, 0) := kw_70
theorem lk_23 (n : Nat) : gLn "TrunkDuel$Crossings" "<init>" (.putfield 9, n, 1, 0, 1, 1, 0) := ⟨_, _, _, tyX1 0, rfl, by decide, rfl, kw_316, tyX1_ok 0 (by decide), Or.inr (Or.inl ⟨rfl, rfl⟩), fun _ => ⟨rfl, rfl⟩⟩
theorem lk_24 (n : Nat) (nm : String) : gLn "TrunkDuel$Crossings" nm (.getfield 9, n, 1, 0, 1, 1, 0) := ⟨_, _, _, rfl, by decide, rfl, kw_316⟩
theorem lk_25 (n : Nat) (nm : String) : gLn "TrunkDuel$Crossings" nm (.invokevirtual 15, n, 38, 2, 0, 0, 0) := ⟨kw_880, mwV_38⟩
theorem lk_26 (n : Nat) (nm : String) : gLn "TrunkDuel$Crossings" nm (.invokevirtual 21, n, 6, 4, 0, 0, 1) := ⟨kw_881, mwV_6⟩
theorem lk_27 (n : Nat) (nm : String) : gLn "TrunkDuel$Crossings" nm (.invokestatic 25, n, 0, 0, 0, 0, 21) := kw_894
theorem lk_28 (n : Nat) (nm : String) : gLn "TrunkDuel$Crossings" nm (.invokevirtual 31, n, 11, 2, 0, 0, 1) := ⟨kw_885, mwV_11⟩
theorem lk_29 (n : Nat) (nm : String) : gLn "TrunkDuel$Crossings" nm (.invokevirtual 37, n, 104, 2, 0, 0, 0) := ⟨kw_886, mwV_104⟩
theorem lk_30 (n : Nat) (nm : String) : gLn "TrunkDuel$Crossings" nm (.getfield 43, n, 2, 5, 0, 0, 0) := ⟨_, _, _, rfl, by decide, rfl, kw_182⟩
theorem lk_31 (n : Nat) (nm : String) : gLn "TrunkDuel$Crossings" nm (.invokevirtual 47, n, 15, 2, 0, 0, 0) := ⟨kw_887, mwV_15⟩
theorem lk_32 (n : Nat) (nm : String) : gLn "TrunkDuel$Crossings" nm (.invokevirtual 50, n, 16, 2, 0, 0, 0) := ⟨kw_888, mwV_16⟩
theorem lk_33 (n : Nat) (nm : String) : gLn "TrunkDuel$Crossings" nm (.invokevirtual 53, n, 17, 2, 0, 0, 0) := ⟨kw_889, mwV_17⟩
theorem lk_34 (n : Nat) (nm : String) : gLn "TrunkDuel$Crossings" nm (.invokevirtual 56, n, 7, 4, 0, 0, 1) := ⟨kw_890, mwV_7⟩
theorem lk_35 (n : Nat) (nm : String) : gLn "TrunkDuel$Footprint" nm (.invokespecial 3, n, 0, 0, 0, 0, 26) := kw_163
theorem lk_36 (n : Nat) (nm : String) : gLn "TrunkDuel$Footprint" nm (.putfield 9, n, 2, 0, 0, 0, 0) := ⟨_, _, _, tyX2 0, rfl, by decide, rfl, kw_164, tyX2_ok 0 (by decide), Or.inl ⟨rfl, rfl⟩, fun h => by cases h⟩
theorem lk_37 (n : Nat) (nm : String) : gLn "TrunkDuel$Footprint" nm (.putfield 15, n, 2, 1, 0, 0, 0) := ⟨_, _, _, tyX2 1, rfl, by decide, rfl, kw_168, tyX2_ok 1 (by decide), Or.inl ⟨rfl, rfl⟩, fun h => by cases h⟩
theorem lk_38 (n : Nat) (nm : String) : gLn "TrunkDuel$Footprint" nm (.putfield 18, n, 2, 2, 0, 0, 0) := ⟨_, _, _, tyX2 2, rfl, by decide, rfl, kw_171, tyX2_ok 2 (by decide), Or.inl ⟨rfl, rfl⟩, fun h => by cases h⟩
theorem lk_39 (n : Nat) (nm : String) : gLn "TrunkDuel$Footprint" nm (.putfield 21, n, 2, 3, 0, 0, 0) := ⟨_, _, _, tyX2 3, rfl, by decide, rfl, kw_174, tyX2_ok 3 (by decide), Or.inl ⟨rfl, rfl⟩, fun h => by cases h⟩
theorem lk_40 (n : Nat) (nm : String) : gLn "TrunkDuel$Footprint" nm (.putfield 24, n, 2, 4, 0, 0, 0) := ⟨_, _, _, tyX2 4, rfl, by decide, rfl, kw_177, tyX2_ok 4 (by decide), Or.inl ⟨rfl, rfl⟩, fun h => by cases h⟩
theorem lk_41 (n : Nat) (nm : String) : gLn "TrunkDuel$Footprint" nm (.putfield 27, n, 2, 5, 0, 0, 0) := ⟨_, _, _, tyX2 5, rfl, by decide, rfl, kw_181, tyX2_ok 5 (by decide), Or.inl ⟨rfl, rfl⟩, fun h => by cases h⟩
theorem lk_42 (n : Nat) (nm : String) : gLn "TrunkDuel$Footprint" nm (.newarray .int, n, 0, 0, 0, 0, 0) := kw_70
theorem lk_43 (n : Nat) : gLn "TrunkDuel$Footprint" "<init>" (.putfield 30, n, 2, 6, 1, 1, 0) := ⟨_, _, _, tyX2 6, rfl, by decide, rfl, kw_184, tyX2_ok 6 (by decide), Or.inr (Or.inl ⟨rfl, rfl⟩), fun _ => ⟨rfl, rfl⟩⟩
theorem lk_44 (n : Nat) : gLn "TrunkDuel$Footprint" "<init>" (.putfield 34, n, 2, 7, 1, 1, 0) := ⟨_, _, _, tyX2 7, rfl, by decide, rfl, kw_185, tyX2_ok 7 (by decide), Or.inr (Or.inl ⟨rfl, rfl⟩), fun _ => ⟨rfl, rfl⟩⟩
theorem lk_45 (n : Nat) : gLn "TrunkDuel$Footprint" "<init>" (.putfield 37, n, 2, 8, 1, 1, 0) := ⟨_, _, _, tyX2 8, rfl, by decide, rfl, kw_186, tyX2_ok 8 (by decide), Or.inr (Or.inl ⟨rfl, rfl⟩), fun _ => ⟨rfl, rfl⟩⟩
theorem lk_46 (n : Nat) : gLn "TrunkDuel$Footprint" "<init>" (.putfield 40, n, 2, 9, 1, 1, 0) := ⟨_, _, _, tyX2 9, rfl, by decide, rfl, kw_187, tyX2_ok 9 (by decide), Or.inr (Or.inl ⟨rfl, rfl⟩), fun _ => ⟨rfl, rfl⟩⟩
theorem lk_47 (n : Nat) : gLn "TrunkDuel$Footprint" "<init>" (.putfield 43, n, 2, 10, 1, 1, 0) := ⟨_, _, _, tyX2 10, rfl, by decide, rfl, kw_188, tyX2_ok 10 (by decide), Or.inr (Or.inl ⟨rfl, rfl⟩), fun _ => ⟨rfl, rfl⟩⟩
theorem lk_48 (n : Nat) (nm : String) : gLn "TrunkDuel$Footprint" nm (.getstatic 46, n, 100000, 0, 0, 0, 0) := ⟨0, _, rfl, rfl, kw_558⟩
theorem lk_49 (n : Nat) (nm : String) : gLn "TrunkDuel$Footprint" nm (.getfield 24, n, 2, 4, 0, 0, 0) := ⟨_, _, _, rfl, by decide, rfl, kw_177⟩
theorem lk_50 (n : Nat) (nm : String) : gLn "TrunkDuel$Footprint" nm (.getstatic 49, n, 100001, 0, 0, 0, 0) := ⟨1, _, rfl, rfl, kw_560⟩
theorem lk_51 (n : Nat) (nm : String) : gLn "TrunkDuel$Footprint" nm (.getstatic 52, n, 100002, 0, 0, 0, 0) := ⟨2, _, rfl, rfl, kw_562⟩
theorem lk_52 (n : Nat) (nm : String) : gLn "TrunkDuel$Footprint" nm (.getfield 30, n, 2, 6, 1, 1, 0) := ⟨_, _, _, rfl, by decide, rfl, kw_184⟩
theorem lk_53 (n : Nat) (nm : String) : gLn "TrunkDuel$Footprint" nm (.getfield 34, n, 2, 7, 1, 1, 0) := ⟨_, _, _, rfl, by decide, rfl, kw_185⟩
theorem lk_54 (n : Nat) (nm : String) : gLn "TrunkDuel$Footprint" nm (.invokevirtual 55, n, 18, 1, 0, 0, 1) := ⟨kw_564, mwV_18⟩
theorem lk_55 (n : Nat) (nm : String) : gLn "TrunkDuel$Footprint" nm (.invokevirtual 58, n, 9, 3, 0, 0, 1) := ⟨kw_670, mwV_9⟩
theorem lk_56 (n : Nat) (nm : String) : gLn "TrunkDuel$Footprint" nm (.invokevirtual 62, n, 10, 3, 0, 0, 1) := ⟨kw_671, mwV_10⟩
theorem lk_57 (n : Nat) (nm : String) : gLn "TrunkDuel$Footprint" nm (.getfield 18, n, 2, 2, 0, 0, 0) := ⟨_, _, _, rfl, by decide, rfl, kw_171⟩
theorem lk_58 (n : Nat) (nm : String) : gLn "TrunkDuel$Footprint" nm (.getfield 21, n, 2, 3, 0, 0, 0) := ⟨_, _, _, rfl, by decide, rfl, kw_174⟩
theorem lk_59 (n : Nat) (nm : String) : gLn "TrunkDuel$Footprint" nm (.getfield 15, n, 2, 1, 0, 0, 0) := ⟨_, _, _, rfl, by decide, rfl, kw_168⟩
theorem lk_60 (n : Nat) (nm : String) : gLn "TrunkDuel$Footprint" nm (.getfield 9, n, 2, 0, 0, 0, 0) := ⟨_, _, _, rfl, by decide, rfl, kw_164⟩
theorem lk_61 (n : Nat) (nm : String) : gLn "TrunkDuel$Footprint" nm (.getfield 37, n, 2, 8, 1, 1, 0) := ⟨_, _, _, rfl, by decide, rfl, kw_186⟩
theorem lk_62 (n : Nat) (nm : String) : gLn "TrunkDuel$Footprint" nm (.getfield 40, n, 2, 9, 1, 1, 0) := ⟨_, _, _, rfl, by decide, rfl, kw_187⟩
theorem lk_63 (n : Nat) (nm : String) : gLn "TrunkDuel$Footprint" nm (.getfield 43, n, 2, 10, 1, 1, 0) := ⟨_, _, _, rfl, by decide, rfl, kw_188⟩
theorem lk_64 (n : Nat) (nm : String) : gLn "TrunkDuel$Footprint" nm (.invokestatic 65, n, 0, 0, 0, 0, 22) := kw_568
theorem lk_65 (n : Nat) (nm : String) : gLn "TrunkDuel$Footprint" nm (.getfield 27, n, 2, 5, 0, 0, 0) := ⟨_, _, _, rfl, by decide, rfl, kw_181⟩
theorem lk_66 (n : Nat) (nm : String) : gLn "TrunkDuel$Footprint" nm (.invokestatic 71, n, 0, 0, 0, 0, 20) := kw_571
theorem lk_67 (n : Nat) (nm : String) : gLn "TrunkDuel$History" nm (.invokespecial 3, n, 0, 0, 0, 0, 26) := kw_267
theorem lk_68 (n : Nat) (nm : String) : gLn "TrunkDuel$History" nm (.putfield 9, n, 3, 0, 0, 0, 0) := ⟨_, _, _, tyX3 0, rfl, by decide, rfl, kw_271, tyX3_ok 0 (by decide), Or.inl ⟨rfl, rfl⟩, fun h => by cases h⟩
theorem lk_69 (n : Nat) (nm : String) : gLn "TrunkDuel$History" nm (.putfield 15, n, 3, 1, 0, 0, 0) := ⟨_, _, _, tyX3 1, rfl, by decide, rfl, kw_273, tyX3_ok 1 (by decide), Or.inl ⟨rfl, rfl⟩, fun h => by cases h⟩
theorem lk_70 (n : Nat) (nm : String) : gLn "TrunkDuel$History" nm (.anewarray 18, n, 0, 0, 0, 0, 0) := kw_268
theorem lk_71 (n : Nat) : gLn "TrunkDuel$History" "<init>" (.putfield 20, n, 3, 2, 1, 1, 0) := ⟨_, _, _, tyX3 2, rfl, by decide, rfl, kw_274, tyX3_ok 2 (by decide), Or.inr (Or.inl ⟨rfl, rfl⟩), fun _ => ⟨rfl, rfl⟩⟩
theorem lk_72 (n : Nat) (nm : String) : gLn "TrunkDuel$History" nm (.getfield 20, n, 3, 2, 1, 1, 0) := ⟨_, _, _, rfl, by decide, rfl, kw_274⟩
theorem lk_73 (n : Nat) (nm : String) : gLn "TrunkDuel$History" nm (.new 18, n, 8, 6, 0, 0, 0) := ⟨_, _, _, rfl, rfl, kw_268, kw_40, kw_3⟩
theorem lk_74 (n : Nat) (nm : String) : gLn "TrunkDuel$History" nm (.invokespecial 24, n, 73, 1, 16, 427, 1) := ⟨Or.inr (List.mem_of_getElem? (i := 7) rfl), mwI_73⟩
theorem lk_75 (n : Nat) (nm : String) : gLn "TrunkDuel$History" nm (.getfield 9, n, 3, 0, 0, 0, 0) := ⟨_, _, _, rfl, by decide, rfl, kw_271⟩
theorem lk_76 (n : Nat) (nm : String) : gLn "TrunkDuel$History" nm (.getfield 15, n, 3, 1, 0, 0, 0) := ⟨_, _, _, rfl, by decide, rfl, kw_273⟩
theorem lk_77 (n : Nat) (nm : String) : gLn "TrunkDuel$History" nm (.invokevirtual 25, n, 75, 2, 0, 0, 1) := ⟨kw_768, mwV_75⟩
theorem lk_78 (n : Nat) (nm : String) : gLn "TrunkDuel$Pieces" nm (.invokespecial 3, n, 0, 0, 0, 0, 26) := kw_77
theorem lk_79 (n : Nat) (nm : String) : gLn "TrunkDuel$Pieces" nm (.putfield 9, n, 4, 0, 0, 0, 0) := ⟨_, _, _, tyX4 0, rfl, by decide, rfl, kw_78, tyX4_ok 0 (by decide), Or.inl ⟨rfl, rfl⟩, fun h => by cases h⟩
theorem lk_80 (n : Nat) (nm : String) : gLn "TrunkDuel$Pieces" nm (.newarray .int, n, 0, 0, 0, 0, 0) := kw_70
theorem lk_81 (n : Nat) : gLn "TrunkDuel$Pieces" "<init>" (.putfield 15, n, 4, 1, 1, 1, 0) := ⟨_, _, _, tyX4 1, rfl, by decide, rfl, kw_81, tyX4_ok 1 (by decide), Or.inr (Or.inl ⟨rfl, rfl⟩), fun _ => ⟨rfl, rfl⟩⟩
theorem lk_82 (n : Nat) : gLn "TrunkDuel$Pieces" "<init>" (.putfield 19, n, 4, 2, 1, 1, 0) := ⟨_, _, _, tyX4 2, rfl, by decide, rfl, kw_82, tyX4_ok 2 (by decide), Or.inr (Or.inl ⟨rfl, rfl⟩), fun _ => ⟨rfl, rfl⟩⟩
theorem lk_83 (n : Nat) : gLn "TrunkDuel$Pieces" "<init>" (.putfield 22, n, 4, 3, 1, 1, 0) := ⟨_, _, _, tyX4 3, rfl, by decide, rfl, kw_83, tyX4_ok 3 (by decide), Or.inr (Or.inl ⟨rfl, rfl⟩), fun _ => ⟨rfl, rfl⟩⟩
theorem lk_84 (n : Nat) : gLn "TrunkDuel$Pieces" "<init>" (.putfield 25, n, 4, 4, 1, 1, 0) := ⟨_, _, _, tyX4 4, rfl, by decide, rfl, kw_84, tyX4_ok 4 (by decide), Or.inr (Or.inl ⟨rfl, rfl⟩), fun _ => ⟨rfl, rfl⟩⟩
theorem lk_85 (n : Nat) : gLn "TrunkDuel$Pieces" "<init>" (.putfield 28, n, 4, 5, 1, 1, 0) := ⟨_, _, _, tyX4 5, rfl, by decide, rfl, kw_85, tyX4_ok 5 (by decide), Or.inr (Or.inl ⟨rfl, rfl⟩), fun _ => ⟨rfl, rfl⟩⟩
theorem lk_86 (n : Nat) : gLn "TrunkDuel$Pieces" "<init>" (.putfield 31, n, 4, 6, 1, 1, 0) := ⟨_, _, _, tyX4 6, rfl, by decide, rfl, kw_86, tyX4_ok 6 (by decide), Or.inr (Or.inl ⟨rfl, rfl⟩), fun _ => ⟨rfl, rfl⟩⟩
theorem lk_87 (n : Nat) (nm : String) : gLn "TrunkDuel$Pieces" nm (.getfield 9, n, 4, 0, 0, 0, 0) := ⟨_, _, _, rfl, by decide, rfl, kw_78⟩
theorem lk_88 (n : Nat) (nm : String) : gLn "TrunkDuel$Pieces" nm (.getfield 15, n, 4, 1, 1, 1, 0) := ⟨_, _, _, rfl, by decide, rfl, kw_81⟩
theorem lk_89 (n : Nat) (nm : String) : gLn "TrunkDuel$Pieces" nm (.invokestatic 34, n, 0, 0, 0, 0, 25) := kw_700
theorem lk_90 (n : Nat) (nm : String) : gLn "TrunkDuel$Pieces" nm (.getfield 19, n, 4, 2, 1, 1, 0) := ⟨_, _, _, rfl, by decide, rfl, kw_82⟩
theorem lk_91 (n : Nat) (nm : String) : gLn "TrunkDuel$Pieces" nm (.getfield 22, n, 4, 3, 1, 1, 0) := ⟨_, _, _, rfl, by decide, rfl, kw_83⟩
theorem lk_92 (n : Nat) (nm : String) : gLn "TrunkDuel$Pieces" nm (.getfield 25, n, 4, 4, 1, 1, 0) := ⟨_, _, _, rfl, by decide, rfl, kw_84⟩
theorem lk_93 (n : Nat) (nm : String) : gLn "TrunkDuel$Pieces" nm (.getfield 28, n, 4, 5, 1, 1, 0) := ⟨_, _, _, rfl, by decide, rfl, kw_85⟩
theorem lk_94 (n : Nat) (nm : String) : gLn "TrunkDuel$Pieces" nm (.getfield 31, n, 4, 6, 1, 1, 0) := ⟨_, _, _, rfl, by decide, rfl, kw_86⟩
theorem lk_95 (n : Nat) (nm : String) : gLn "TrunkDuel$Pieces" nm (.getfield 40, n, 2, 0, 0, 0, 0) := ⟨_, _, _, rfl, by decide, rfl, kw_165⟩
theorem lk_96 (n : Nat) (nm : String) : gLn "TrunkDuel$Pieces" nm (.getfield 45, n, 2, 1, 0, 0, 0) := ⟨_, _, _, rfl, by decide, rfl, kw_169⟩
theorem lk_97 (n : Nat) (nm : String) : gLn "TrunkDuel$Pieces" nm (.getfield 48, n, 2, 2, 0, 0, 0) := ⟨_, _, _, rfl, by decide, rfl, kw_172⟩
theorem lk_98 (n : Nat) (nm : String) : gLn "TrunkDuel$Pieces" nm (.getfield 51, n, 2, 3, 0, 0, 0) := ⟨_, _, _, rfl, by decide, rfl, kw_175⟩
theorem lk_99 (n : Nat) (nm : String) : gLn "TrunkDuel$Pieces" nm (.invokevirtual 54, n, 25, 2, 0, 0, 0) := ⟨kw_936, mwV_25⟩
theorem lk_100 (n : Nat) (nm : String) : gLn "TrunkDuel$Player" nm (.invokespecial 3, n, 0, 0, 0, 0, 26) := kw_107
theorem lk_101 (n : Nat) (nm : String) : gLn "TrunkDuel$Player" nm (.putfield 9, n, 5, 0, 0, 0, 0) := ⟨_, _, _, tyX5 0, rfl, by decide, rfl, kw_108, tyX5_ok 0 (by decide), Or.inl ⟨rfl, rfl⟩, fun h => by cases h⟩
theorem lk_102 (n : Nat) (nm : String) : gLn "TrunkDuel$Player" nm (.putfield 15, n, 5, 1, 0, 0, 0) := ⟨_, _, _, tyX5 1, rfl, by decide, rfl, kw_111, tyX5_ok 1 (by decide), Or.inl ⟨rfl, rfl⟩, fun h => by cases h⟩
theorem lk_103 (n : Nat) (nm : String) : gLn "TrunkDuel$Player" nm (.putfield 18, n, 5, 2, 0, 0, 0) := ⟨_, _, _, tyX5 2, rfl, by decide, rfl, kw_115, tyX5_ok 2 (by decide), Or.inl ⟨rfl, rfl⟩, fun h => by cases h⟩
theorem lk_104 (n : Nat) (nm : String) : gLn "TrunkDuel$Player" nm (.newarray .int, n, 0, 0, 0, 0, 0) := kw_70
theorem lk_105 (n : Nat) : gLn "TrunkDuel$Player" "<init>" (.putfield 21, n, 5, 3, 1, 1, 0) := ⟨_, _, _, tyX5 3, rfl, by decide, rfl, kw_116, tyX5_ok 3 (by decide), Or.inr (Or.inl ⟨rfl, rfl⟩), fun _ => ⟨rfl, rfl⟩⟩
theorem lk_106 (n : Nat) : gLn "TrunkDuel$Player" "<init>" (.putfield 25, n, 5, 4, 1, 1, 0) := ⟨_, _, _, tyX5 4, rfl, by decide, rfl, kw_117, tyX5_ok 4 (by decide), Or.inr (Or.inl ⟨rfl, rfl⟩), fun _ => ⟨rfl, rfl⟩⟩
theorem lk_107 (n : Nat) (nm : String) : gLn "TrunkDuel$Player" nm (.getfield 25, n, 5, 4, 1, 1, 0) := ⟨_, _, _, rfl, by decide, rfl, kw_117⟩
theorem lk_108 (n : Nat) (nm : String) : gLn "TrunkDuel$Player" nm (.getfield 9, n, 5, 0, 0, 0, 0) := ⟨_, _, _, rfl, by decide, rfl, kw_108⟩
theorem lk_109 (n : Nat) (nm : String) : gLn "TrunkDuel$Player" nm (.getfield 15, n, 5, 1, 0, 0, 0) := ⟨_, _, _, rfl, by decide, rfl, kw_111⟩
theorem lk_110 (n : Nat) (nm : String) : gLn "TrunkDuel$Player" nm (.getfield 18, n, 5, 2, 0, 0, 0) := ⟨_, _, _, rfl, by decide, rfl, kw_115⟩
theorem lk_111 (n : Nat) (nm : String) : gLn "TrunkDuel$Player" nm (.getfield 21, n, 5, 3, 1, 1, 0) := ⟨_, _, _, rfl, by decide, rfl, kw_116⟩
theorem lk_112 (n : Nat) (nm : String) : gLn "TrunkDuel$Player" nm (.invokestatic 28, n, 0, 0, 0, 0, 25) := kw_705
theorem lk_113 (n : Nat) (nm : String) : gLn "TrunkDuel$Reader" nm (.invokespecial 3, n, 0, 0, 0, 0, 26) := kw_38
theorem lk_114 (n : Nat) (nm : String) : gLn "TrunkDuel$Reader" nm (.putfield 9, n, 6, 0, 0, 0, 0) := ⟨_, _, _, tyX6 0, rfl, by decide, rfl, kw_212, tyX6_ok 0 (by decide), Or.inl ⟨rfl, rfl⟩, fun h => by cases h⟩
theorem lk_115 (n : Nat) (nm : String) : gLn "TrunkDuel$Reader" nm (.putfield 15, n, 6, 1, 0, 0, 0) := ⟨_, _, _, tyX6 1, rfl, by decide, rfl, kw_214, tyX6_ok 1 (by decide), Or.inl ⟨rfl, rfl⟩, fun h => by cases h⟩
theorem lk_116 (n : Nat) (nm : String) : gLn "TrunkDuel$Reader" nm (.putfield 18, n, 6, 2, 0, 0, 0) := ⟨_, _, _, tyX6 2, rfl, by decide, rfl, kw_216, tyX6_ok 2 (by decide), Or.inl ⟨rfl, rfl⟩, fun h => by cases h⟩
theorem lk_117 (n : Nat) (nm : String) : gLn "TrunkDuel$Reader" nm (.putfield 21, n, 6, 3, 0, 0, 0) := ⟨_, _, _, tyX6 3, rfl, by decide, rfl, kw_218, tyX6_ok 3 (by decide), Or.inl ⟨rfl, rfl⟩, fun h => by cases h⟩
theorem lk_118 (n : Nat) (nm : String) : gLn "TrunkDuel$Reader" nm (.new 24, n, 8, 6, 0, 0, 0) := ⟨_, _, _, rfl, rfl, kw_39, kw_40, kw_3⟩
theorem lk_119 (n : Nat) (nm : String) : gLn "TrunkDuel$Reader" nm (.invokespecial 26, n, 73, 1, 16, 427, 1) := ⟨Or.inr (List.mem_of_getElem? (i := 1) rfl), mwI_73⟩
theorem lk_120 (n : Nat) : gLn "TrunkDuel$Reader" "<init>" (.putfield 27, n, 6, 4, 1, 1, 0) := ⟨_, _, _, tyX6 4, rfl, by decide, rfl, kw_220, tyX6_ok 4 (by decide), Or.inr (Or.inl ⟨rfl, rfl⟩), fun _ => ⟨rfl, rfl⟩⟩
theorem lk_121 (n : Nat) (nm : String) : gLn "TrunkDuel$Reader" nm (.new 31, n, 2, 11, 0, 0, 0) := ⟨_, _, _, rfl, rfl, kw_158, kw_159, kw_7⟩
theorem lk_122 (n : Nat) (nm : String) : gLn "TrunkDuel$Reader" nm (.invokespecial 33, n, 8, 1, 5, 20, 1) := ⟨Or.inr (List.mem_of_getElem? (i := 5) rfl), mwI_8⟩
theorem lk_123 (n : Nat) : gLn "TrunkDuel$Reader" "<init>" (.putfield 34, n, 6, 5, 1, 1, 0) := ⟨_, _, _, tyX6 5, rfl, by decide, rfl, kw_222, tyX6_ok 5 (by decide), Or.inr (Or.inl ⟨rfl, rfl⟩), fun _ => ⟨rfl, rfl⟩⟩
theorem lk_124 (n : Nat) (nm : String) : gLn "TrunkDuel$Reader" nm (.newarray .int, n, 0, 0, 0, 0, 0) := kw_70
theorem lk_125 (n : Nat) : gLn "TrunkDuel$Reader" "<init>" (.putfield 38, n, 6, 6, 1, 1, 0) := ⟨_, _, _, tyX6 6, rfl, by decide, rfl, kw_223, tyX6_ok 6 (by decide), Or.inr (Or.inl ⟨rfl, rfl⟩), fun _ => ⟨rfl, rfl⟩⟩
theorem lk_126 (n : Nat) (nm : String) : gLn "TrunkDuel$Reader" nm (.putfield 42, n, 6, 7, 0, 0, 0) := ⟨_, _, _, tyX6 7, rfl, by decide, rfl, kw_224, tyX6_ok 7 (by decide), Or.inl ⟨rfl, rfl⟩, fun h => by cases h⟩
theorem lk_127 (n : Nat) (nm : String) : gLn "TrunkDuel$Reader" nm (.putfield 45, n, 6, 8, 0, 0, 0) := ⟨_, _, _, tyX6 8, rfl, by decide, rfl, kw_225, tyX6_ok 8 (by decide), Or.inl ⟨rfl, rfl⟩, fun h => by cases h⟩
theorem lk_128 (n : Nat) (nm : String) : gLn "TrunkDuel$Reader" nm (.putfield 48, n, 6, 9, 0, 0, 0) := ⟨_, _, _, tyX6 9, rfl, by decide, rfl, kw_226, tyX6_ok 9 (by decide), Or.inl ⟨rfl, rfl⟩, fun h => by cases h⟩
theorem lk_129 (n : Nat) (nm : String) : gLn "TrunkDuel$Reader" nm (.putfield 51, n, 6, 10, 0, 0, 0) := ⟨_, _, _, tyX6 10, rfl, by decide, rfl, kw_227, tyX6_ok 10 (by decide), Or.inl ⟨rfl, rfl⟩, fun h => by cases h⟩
theorem lk_130 (n : Nat) (nm : String) : gLn "TrunkDuel$Reader" nm (.putfield 54, n, 6, 11, 0, 0, 0) := ⟨_, _, _, tyX6 11, rfl, by decide, rfl, kw_228, tyX6_ok 11 (by decide), Or.inl ⟨rfl, rfl⟩, fun h => by cases h⟩
theorem lk_131 (n : Nat) (nm : String) : gLn "TrunkDuel$Reader" nm (.putfield 57, n, 6, 12, 0, 0, 0) := ⟨_, _, _, tyX6 12, rfl, by decide, rfl, kw_229, tyX6_ok 12 (by decide), Or.inl ⟨rfl, rfl⟩, fun h => by cases h⟩
theorem lk_132 (n : Nat) (nm : String) : gLn "TrunkDuel$Reader" nm (.putfield 60, n, 6, 13, 0, 0, 0) := ⟨_, _, _, tyX6 13, rfl, by decide, rfl, kw_230, tyX6_ok 13 (by decide), Or.inl ⟨rfl, rfl⟩, fun h => by cases h⟩
theorem lk_133 (n : Nat) (nm : String) : gLn "TrunkDuel$Reader" nm (.getfield 9, n, 6, 0, 0, 0, 0) := ⟨_, _, _, rfl, by decide, rfl, kw_212⟩
theorem lk_134 (n : Nat) (nm : String) : gLn "TrunkDuel$Reader" nm (.invokevirtual 63, n, 0, 0, 0, 0, 23) := kw_348
theorem lk_135 (n : Nat) (nm : String) : gLn "TrunkDuel$Reader" nm (.invokevirtual 68, n, 0, 0, 0, 0, 24) := kw_358
theorem lk_136 (n : Nat) (nm : String) : gLn "TrunkDuel$Reader" nm (.invokevirtual 72, n, 44, 2, 0, 0, 1) := ⟨kw_396, mwV_44⟩
theorem lk_137 (n : Nat) (nm : String) : gLn "TrunkDuel$Reader" nm (.getfield 38, n, 6, 6, 1, 1, 0) := ⟨_, _, _, rfl, by decide, rfl, kw_223⟩
theorem lk_138 (n : Nat) (nm : String) : gLn "TrunkDuel$Reader" nm (.invokevirtual 76, n, 61, 1, 0, 0, 1) := ⟨kw_404, mwV_61⟩
theorem lk_139 (n : Nat) (nm : String) : gLn "TrunkDuel$Reader" nm (.invokevirtual 79, n, 45, 1, 0, 0, 1) := ⟨kw_781, mwV_45⟩
theorem lk_140 (n : Nat) (nm : String) : gLn "TrunkDuel$Reader" nm (.getfield 27, n, 6, 4, 1, 1, 0) := ⟨_, _, _, rfl, by decide, rfl, kw_220⟩
theorem lk_141 (n : Nat) (nm : String) : gLn "TrunkDuel$Reader" nm (.invokevirtual 82, n, 75, 2, 0, 0, 1) := ⟨kw_782, mwV_75⟩
theorem lk_142 (n : Nat) (nm : String) : gLn "TrunkDuel$Reader" nm (.invokevirtual 86, n, 49, 1, 0, 0, 0) := ⟨kw_427, mwV_49⟩
theorem lk_143 (n : Nat) (nm : String) : gLn "TrunkDuel$Reader" nm (.invokevirtual 90, n, 50, 1, 0, 0, 0) := ⟨kw_461, mwV_50⟩
theorem lk_144 (n : Nat) (nm : String) : gLn "TrunkDuel$Reader" nm (.invokevirtual 93, n, 51, 1, 0, 0, 0) := ⟨kw_478, mwV_51⟩
theorem lk_145 (n : Nat) (nm : String) : gLn "TrunkDuel$Reader" nm (.invokevirtual 96, n, 52, 2, 0, 0, 0) := ⟨kw_511, mwV_52⟩
theorem lk_146 (n : Nat) (nm : String) : gLn "TrunkDuel$Reader" nm (.getfield 45, n, 6, 8, 0, 0, 0) := ⟨_, _, _, rfl, by decide, rfl, kw_225⟩
theorem lk_147 (n : Nat) (nm : String) : gLn "TrunkDuel$Reader" nm (.ldc 100, n, 100023, 0, 0, 0, 1) := ⟨by decide, _, List.mem_of_getElem? (i := 1) rfl⟩
theorem lk_148 (n : Nat) (nm : String) : gLn "TrunkDuel$Reader" nm (.invokevirtual 102, n, 64, 2, 0, 0, 0) := ⟨kw_432, mwV_64⟩
theorem lk_149 (n : Nat) (nm : String) : gLn "TrunkDuel$Reader" nm (.invokevirtual 106, n, 54, 1, 0, 0, 0) := ⟨kw_541, mwV_54⟩
theorem lk_150 (n : Nat) (nm : String) : gLn "TrunkDuel$Reader" nm (.ldc 109, n, 100019, 0, 0, 0, 1) := ⟨by decide, _, List.mem_of_getElem? (i := 2) rfl⟩
theorem lk_151 (n : Nat) (nm : String) : gLn "TrunkDuel$Reader" nm (.invokevirtual 111, n, 55, 1, 0, 0, 0) := ⟨kw_642, mwV_55⟩
theorem lk_152 (n : Nat) (nm : String) : gLn "TrunkDuel$Reader" nm (.ldc 114, n, 100029, 0, 0, 0, 1) := ⟨by decide, _, List.mem_of_getElem? (i := 3) rfl⟩
theorem lk_153 (n : Nat) (nm : String) : gLn "TrunkDuel$Reader" nm (.getfield 34, n, 6, 5, 1, 1, 0) := ⟨_, _, _, rfl, by decide, rfl, kw_222⟩
theorem lk_154 (n : Nat) (nm : String) : gLn "TrunkDuel$Reader" nm (.invokevirtual 116, n, 82, 2, 0, 0, 0) := ⟨kw_662, mwV_82⟩
theorem lk_155 (n : Nat) (nm : String) : gLn "TrunkDuel$Reader" nm (.invokevirtual 120, n, 60, 2, 0, 0, 0) := ⟨kw_436, mwV_60⟩
theorem lk_156 (n : Nat) (nm : String) : gLn "TrunkDuel$Reader" nm (.invokevirtual 123, n, 83, 1, 0, 0, 0) := ⟨kw_681, mwV_83⟩
theorem lk_157 (n : Nat) (nm : String) : gLn "TrunkDuel$Reader" nm (.invokevirtual 126, n, 59, 1, 0, 0, 0) := ⟨kw_457, mwV_59⟩
theorem lk_158 (n : Nat) (nm : String) : gLn "TrunkDuel$Reader" nm (.getfield 21, n, 6, 3, 0, 0, 0) := ⟨_, _, _, rfl, by decide, rfl, kw_218⟩
theorem lk_159 (n : Nat) (nm : String) : gLn "TrunkDuel$Reader" nm (.ldc 129, n, 100017, 0, 0, 0, 1) := ⟨by decide, _, List.mem_of_getElem? (i := 4) rfl⟩
theorem lk_160 (n : Nat) (nm : String) : gLn "TrunkDuel$Reader" nm (.invokevirtual 131, n, 58, 3, 0, 0, 0) := ⟨kw_440, mwV_58⟩
theorem lk_161 (n : Nat) (nm : String) : gLn "TrunkDuel$Reader" nm (.invokevirtual 135, n, 74, 3, 0, 0, 1) := ⟨kw_444, mwV_74⟩
theorem lk_162 (n : Nat) (nm : String) : gLn "TrunkDuel$Reader" nm (.ldc 139, n, 100018, 0, 0, 0, 1) := ⟨by decide, _, List.mem_of_getElem? (i := 5) rfl⟩
theorem lk_163 (n : Nat) (nm : String) : gLn "TrunkDuel$Reader" nm (.getfield 141, n, 8, 0, 1, 1, 0) := ⟨_, _, _, rfl, by decide, rfl, kw_132⟩
theorem lk_164 (n : Nat) (nm : String) : gLn "TrunkDuel$Reader" nm (.getfield 144, n, 9, 0, 0, 0, 0) := ⟨_, _, _, rfl, by decide, rfl, kw_53⟩
theorem lk_165 (n : Nat) (nm : String) : gLn "TrunkDuel$Reader" nm (.getfield 149, n, 9, 1, 0, 0, 0) := ⟨_, _, _, rfl, by decide, rfl, kw_57⟩
theorem lk_166 (n : Nat) (nm : String) : gLn "TrunkDuel$Reader" nm (.invokevirtual 152, n, 91, 3, 0, 0, 0) := ⟨kw_466, mwV_91⟩
theorem lk_167 (n : Nat) (nm : String) : gLn "TrunkDuel$Reader" nm (.invokevirtual 155, n, 92, 4, 0, 0, 1) := ⟨kw_470, mwV_92⟩
theorem lk_168 (n : Nat) (nm : String) : gLn "TrunkDuel$Reader" nm (.invokevirtual 159, n, 56, 1, 0, 0, 0) := ⟨kw_483, mwV_56⟩
theorem lk_169 (n : Nat) (nm : String) : gLn "TrunkDuel$Reader" nm (.getfield 54, n, 6, 11, 0, 0, 0) := ⟨_, _, _, rfl, by decide, rfl, kw_228⟩
theorem lk_170 (n : Nat) (nm : String) : gLn "TrunkDuel$Reader" nm (.getfield 57, n, 6, 12, 0, 0, 0) := ⟨_, _, _, rfl, by decide, rfl, kw_229⟩
theorem lk_171 (n : Nat) (nm : String) : gLn "TrunkDuel$Reader" nm (.getfield 60, n, 6, 13, 0, 0, 0) := ⟨_, _, _, rfl, by decide, rfl, kw_230⟩
theorem lk_172 (n : Nat) (nm : String) : gLn "TrunkDuel$Reader" nm (.invokevirtual 162, n, 93, 4, 0, 0, 0) := ⟨kw_493, mwV_93⟩
theorem lk_173 (n : Nat) (nm : String) : gLn "TrunkDuel$Reader" nm (.invokevirtual 166, n, 96, 4, 0, 0, 0) := ⟨kw_497, mwV_96⟩
theorem lk_174 (n : Nat) (nm : String) : gLn "TrunkDuel$Reader" nm (.invokevirtual 169, n, 94, 4, 0, 0, 1) := ⟨kw_506, mwV_94⟩
theorem lk_175 (n : Nat) (nm : String) : gLn "TrunkDuel$Reader" nm (.ldc 172, n, 100022, 0, 0, 0, 1) := ⟨by decide, _, List.mem_of_getElem? (i := 6) rfl⟩
theorem lk_176 (n : Nat) (nm : String) : gLn "TrunkDuel$Reader" nm (.invokevirtual 174, n, 53, 2, 0, 0, 0) := ⟨kw_516, mwV_53⟩
theorem lk_177 (n : Nat) (nm : String) : gLn "TrunkDuel$Reader" nm (.invokevirtual 177, n, 77, 2, 0, 0, 2) := ⟨kw_520, mwV_77⟩
theorem lk_178 (n : Nat) (nm : String) : gLn "TrunkDuel$Reader" nm (.invokevirtual 181, n, 39, 3, 0, 0, 1) := ⟨kw_532, mwV_39⟩
theorem lk_179 (n : Nat) (nm : String) : gLn "TrunkDuel$Reader" nm (.putfield 186, n, 5, 1, 0, 0, 0) := ⟨_, _, _, tyX5 1, rfl, by decide, rfl, kw_113, tyX5_ok 1 (by decide), Or.inl ⟨rfl, rfl⟩, fun h => by cases h⟩
theorem lk_180 (n : Nat) (nm : String) : gLn "TrunkDuel$Reader" nm (.getfield 42, n, 6, 7, 0, 0, 0) := ⟨_, _, _, rfl, by decide, rfl, kw_224⟩
theorem lk_181 (n : Nat) (nm : String) : gLn "TrunkDuel$Reader" nm (.getfield 48, n, 6, 9, 0, 0, 0) := ⟨_, _, _, rfl, by decide, rfl, kw_226⟩
theorem lk_182 (n : Nat) (nm : String) : gLn "TrunkDuel$Reader" nm (.invokevirtual 189, n, 65, 2, 0, 0, 0) := ⟨kw_412, mwV_65⟩
theorem lk_183 (n : Nat) (nm : String) : gLn "TrunkDuel$Reader" nm (.invokevirtual 193, n, 35, 2, 0, 0, 1) := ⟨kw_524, mwV_35⟩
theorem lk_184 (n : Nat) (nm : String) : gLn "TrunkDuel$Reader" nm (.getfield 196, n, 8, 3, 1, 1, 0) := ⟨_, _, _, rfl, by decide, rfl, kw_139⟩
theorem lk_185 (n : Nat) (nm : String) : gLn "TrunkDuel$Reader" nm (.getfield 200, n, 8, 2, 1, 1, 0) := ⟨_, _, _, rfl, by decide, rfl, kw_136⟩
theorem lk_186 (n : Nat) (nm : String) : gLn "TrunkDuel$Reader" nm (.invokevirtual 203, n, 37, 2, 0, 0, 0) := ⟨kw_528, mwV_37⟩
theorem lk_187 (n : Nat) (nm : String) : gLn "TrunkDuel$Reader" nm (.invokevirtual 207, n, 57, 1, 0, 0, 0) := ⟨kw_545, mwV_57⟩
theorem lk_188 (n : Nat) (nm : String) : gLn "TrunkDuel$Reader" nm (.invokevirtual 210, n, 9, 3, 0, 0, 1) := ⟨kw_554, mwV_9⟩
theorem lk_189 (n : Nat) (nm : String) : gLn "TrunkDuel$Reader" nm (.invokevirtual 213, n, 10, 3, 0, 0, 1) := ⟨kw_572, mwV_10⟩
theorem lk_190 (n : Nat) (nm : String) : gLn "TrunkDuel$Reader" nm (.invokevirtual 216, n, 78, 2, 0, 0, 0) := ⟨kw_576, mwV_78⟩
theorem lk_191 (n : Nat) (nm : String) : gLn "TrunkDuel$Reader" nm (.invokevirtual 219, n, 79, 2, 0, 0, 0) := ⟨kw_618, mwV_79⟩
theorem lk_192 (n : Nat) (nm : String) : gLn "TrunkDuel$Reader" nm (.invokevirtual 223, n, 80, 4, 0, 0, 0) := ⟨kw_646, mwV_80⟩
theorem lk_193 (n : Nat) (nm : String) : gLn "TrunkDuel$Reader" nm (.invokevirtual 226, n, 81, 4, 0, 0, 0) := ⟨kw_656, mwV_81⟩
theorem lk_194 (n : Nat) (nm : String) : gLn "TrunkDuel$Reader" nm (.ldc 230, n, 100020, 0, 0, 0, 1) := ⟨by decide, _, List.mem_of_getElem? (i := 7) rfl⟩
theorem lk_195 (n : Nat) (nm : String) : gLn "TrunkDuel$Reader" nm (.ldc 232, n, 100021, 0, 0, 0, 1) := ⟨by decide, _, List.mem_of_getElem? (i := 8) rfl⟩
theorem lk_196 (n : Nat) (nm : String) : gLn "TrunkDuel$Reader" nm (.invokevirtual 234, n, 90, 4, 0, 0, 0) := ⟨kw_489, mwV_90⟩
theorem lk_197 (n : Nat) (nm : String) : gLn "TrunkDuel$Reader" nm (.ldc 237, n, 100024, 0, 0, 0, 1) := ⟨by decide, _, List.mem_of_getElem? (i := 9) rfl⟩
theorem lk_198 (n : Nat) (nm : String) : gLn "TrunkDuel$Reader" nm (.ldc 239, n, 100025, 0, 0, 0, 1) := ⟨by decide, _, List.mem_of_getElem? (i := 10) rfl⟩
theorem lk_199 (n : Nat) (nm : String) : gLn "TrunkDuel$Reader" nm (.ldc 241, n, 100026, 0, 0, 0, 1) := ⟨by decide, _, List.mem_of_getElem? (i := 11) rfl⟩
theorem lk_200 (n : Nat) (nm : String) : gLn "TrunkDuel$Reader" nm (.ldc 243, n, 100027, 0, 0, 0, 1) := ⟨by decide, _, List.mem_of_getElem? (i := 12) rfl⟩
theorem lk_201 (n : Nat) (nm : String) : gLn "TrunkDuel$Reader" nm (.ldc 245, n, 100028, 0, 0, 0, 1) := ⟨by decide, _, List.mem_of_getElem? (i := 13) rfl⟩
theorem lk_202 (n : Nat) (nm : String) : gLn "TrunkDuel$Reader" nm (.getfield 51, n, 6, 10, 0, 0, 0) := ⟨_, _, _, rfl, by decide, rfl, kw_227⟩
theorem lk_203 (n : Nat) (nm : String) : gLn "TrunkDuel$Reader" nm (.invokevirtual 247, n, 62, 3, 0, 0, 0) := ⟨kw_408, mwV_62⟩
theorem lk_204 (n : Nat) (nm : String) : gLn "TrunkDuel$Reader" nm (.invokevirtual 250, n, 63, 1, 0, 0, 0) := ⟨kw_416, mwV_63⟩
theorem lk_205 (n : Nat) (nm : String) : gLn "TrunkDuel$Reader" nm (.invokestatic 253, n, 0, 0, 0, 0, 20) := kw_420
theorem lk_206 (n : Nat) (nm : String) : gLn "TrunkDuel$Regions" nm (.invokespecial 3, n, 0, 0, 0, 0, 26) := kw_325
theorem lk_207 (n : Nat) (nm : String) : gLn "TrunkDuel$Regions" nm (.putfield 9, n, 7, 0, 0, 0, 0) := ⟨_, _, _, tyX7 0, rfl, by decide, rfl, kw_326, tyX7_ok 0 (by decide), Or.inl ⟨rfl, rfl⟩, fun h => by cases h⟩
theorem lk_208 (n : Nat) (nm : String) : gLn "TrunkDuel$Regions" nm (.newarray .int, n, 0, 0, 0, 0, 0) := kw_70
theorem lk_209 (n : Nat) : gLn "TrunkDuel$Regions" "<init>" (.putfield 15, n, 7, 1, 1, 1, 0) := ⟨_, _, _, tyX7 1, rfl, by decide, rfl, kw_328, tyX7_ok 1 (by decide), Or.inr (Or.inl ⟨rfl, rfl⟩), fun _ => ⟨rfl, rfl⟩⟩
theorem lk_210 (n : Nat) : gLn "TrunkDuel$Regions" "<init>" (.putfield 19, n, 7, 2, 1, 1, 0) := ⟨_, _, _, tyX7 2, rfl, by decide, rfl, kw_329, tyX7_ok 2 (by decide), Or.inr (Or.inl ⟨rfl, rfl⟩), fun _ => ⟨rfl, rfl⟩⟩
theorem lk_211 (n : Nat) : gLn "TrunkDuel$Regions" "<init>" (.putfield 22, n, 7, 3, 1, 1, 0) := ⟨_, _, _, tyX7 3, rfl, by decide, rfl, kw_330, tyX7_ok 3 (by decide), Or.inr (Or.inl ⟨rfl, rfl⟩), fun _ => ⟨rfl, rfl⟩⟩
theorem lk_212 (n : Nat) (nm : String) : gLn "TrunkDuel$Regions" nm (.putfield 25, n, 7, 4, 0, 0, 0) := ⟨_, _, _, tyX7 4, rfl, by decide, rfl, kw_331, tyX7_ok 4 (by decide), Or.inl ⟨rfl, rfl⟩, fun h => by cases h⟩
theorem lk_213 (n : Nat) (nm : String) : gLn "TrunkDuel$Regions" nm (.getfield 15, n, 7, 1, 1, 1, 0) := ⟨_, _, _, rfl, by decide, rfl, kw_328⟩
theorem lk_214 (n : Nat) (nm : String) : gLn "TrunkDuel$Regions" nm (.getfield 19, n, 7, 2, 1, 1, 0) := ⟨_, _, _, rfl, by decide, rfl, kw_329⟩
theorem lk_215 (n : Nat) (nm : String) : gLn "TrunkDuel$Regions" nm (.getfield 28, n, 9, 1, 0, 0, 0) := ⟨_, _, _, rfl, by decide, rfl, kw_56⟩
theorem lk_216 (n : Nat) (nm : String) : gLn "TrunkDuel$Regions" nm (.getfield 33, n, 9, 0, 0, 0, 0) := ⟨_, _, _, rfl, by decide, rfl, kw_52⟩
theorem lk_217 (n : Nat) (nm : String) : gLn "TrunkDuel$Regions" nm (.invokevirtual 36, n, 71, 4, 0, 0, 1) := ⟨kw_905, mwV_71⟩
theorem lk_218 (n : Nat) (nm : String) : gLn "TrunkDuel$Regions" nm (.getfield 9, n, 7, 0, 0, 0, 0) := ⟨_, _, _, rfl, by decide, rfl, kw_326⟩
theorem lk_219 (n : Nat) (nm : String) : gLn "TrunkDuel$Regions" nm (.invokevirtual 40, n, 69, 2, 0, 0, 0) := ⟨kw_1363, mwV_69⟩
theorem lk_220 (n : Nat) (nm : String) : gLn "TrunkDuel$Regions" nm (.invokevirtual 44, n, 72, 4, 0, 0, 1) := ⟨kw_909, mwV_72⟩
theorem lk_221 (n : Nat) (nm : String) : gLn "TrunkDuel$Regions" nm (.getfield 25, n, 7, 4, 0, 0, 0) := ⟨_, _, _, rfl, by decide, rfl, kw_331⟩
theorem lk_222 (n : Nat) (nm : String) : gLn "TrunkDuel$Regions" nm (.getfield 22, n, 7, 3, 1, 1, 0) := ⟨_, _, _, rfl, by decide, rfl, kw_330⟩
theorem lk_223 (n : Nat) (nm : String) : gLn "TrunkDuel$Regions" nm (.invokevirtual 47, n, 93, 4, 0, 0, 0) := ⟨kw_914, mwV_93⟩
theorem lk_224 (n : Nat) (nm : String) : gLn "TrunkDuel$Regions" nm (.invokevirtual 51, n, 91, 3, 0, 0, 0) := ⟨kw_913, mwV_91⟩
theorem lk_225 (n : Nat) (nm : String) : gLn "TrunkDuel$State" nm (.invokespecial 3, n, 0, 0, 0, 0, 26) := kw_44
theorem lk_226 (n : Nat) (nm : String) : gLn "TrunkDuel$State" nm (.new 9, n, 9, 4, 0, 0, 0) := ⟨_, _, _, rfl, rfl, kw_45, kw_46, kw_4⟩
theorem lk_227 (n : Nat) (nm : String) : gLn "TrunkDuel$State" nm (.invokespecial 11, n, 86, 1, 2, 192, 1) := ⟨Or.inr (List.mem_of_getElem? (i := 2) rfl), mwI_86⟩
theorem lk_228 (n : Nat) : gLn "TrunkDuel$State" "<init>" (.putfield 12, n, 8, 0, 1, 1, 0) := ⟨_, _, _, tyX8 0, rfl, by decide, rfl, kw_129, tyX8_ok 0 (by decide), Or.inr (Or.inl ⟨rfl, rfl⟩), fun _ => ⟨rfl, rfl⟩⟩
theorem lk_229 (n : Nat) (nm : String) : gLn "TrunkDuel$State" nm (.new 18, n, 4, 7, 0, 0, 0) := ⟨_, _, _, rfl, rfl, kw_72, kw_73, kw_5⟩
theorem lk_230 (n : Nat) (nm : String) : gLn "TrunkDuel$State" nm (.invokespecial 20, n, 22, 1, 6, 192, 1) := ⟨Or.inr (List.mem_of_getElem? (i := 3) rfl), mwI_22⟩
theorem lk_231 (n : Nat) : gLn "TrunkDuel$State" "<init>" (.putfield 21, n, 8, 1, 1, 1, 0) := ⟨_, _, _, tyX8 1, rfl, by decide, rfl, kw_133, tyX8_ok 1 (by decide), Or.inr (Or.inl ⟨rfl, rfl⟩), fun _ => ⟨rfl, rfl⟩⟩
theorem lk_232 (n : Nat) (nm : String) : gLn "TrunkDuel$State" nm (.new 25, n, 5, 5, 0, 0, 0) := ⟨_, _, _, rfl, rfl, kw_102, kw_103, kw_6⟩
theorem lk_233 (n : Nat) (nm : String) : gLn "TrunkDuel$State" nm (.invokespecial 27, n, 32, 1, 2, 11, 1) := ⟨Or.inr (List.mem_of_getElem? (i := 4) rfl), mwI_32⟩
theorem lk_234 (n : Nat) : gLn "TrunkDuel$State" "<init>" (.putfield 28, n, 8, 2, 1, 1, 0) := ⟨_, _, _, tyX8 2, rfl, by decide, rfl, kw_135, tyX8_ok 2 (by decide), Or.inr (Or.inl ⟨rfl, rfl⟩), fun _ => ⟨rfl, rfl⟩⟩
theorem lk_235 (n : Nat) : gLn "TrunkDuel$State" "<init>" (.putfield 32, n, 8, 3, 1, 1, 0) := ⟨_, _, _, tyX8 3, rfl, by decide, rfl, kw_138, tyX8_ok 3 (by decide), Or.inr (Or.inl ⟨rfl, rfl⟩), fun _ => ⟨rfl, rfl⟩⟩
theorem lk_236 (n : Nat) (nm : String) : gLn "TrunkDuel$State" nm (.putfield 35, n, 8, 4, 0, 0, 0) := ⟨_, _, _, tyX8 4, rfl, by decide, rfl, kw_141, tyX8_ok 4 (by decide), Or.inl ⟨rfl, rfl⟩, fun h => by cases h⟩
theorem lk_237 (n : Nat) (nm : String) : gLn "TrunkDuel$State" nm (.putfield 39, n, 8, 5, 0, 0, 0) := ⟨_, _, _, tyX8 5, rfl, by decide, rfl, kw_144, tyX8_ok 5 (by decide), Or.inl ⟨rfl, rfl⟩, fun h => by cases h⟩
theorem lk_238 (n : Nat) (nm : String) : gLn "TrunkDuel$State" nm (.getfield 12, n, 8, 0, 1, 1, 0) := ⟨_, _, _, rfl, by decide, rfl, kw_129⟩
theorem lk_239 (n : Nat) (nm : String) : gLn "TrunkDuel$State" nm (.invokevirtual 42, n, 87, 3, 0, 0, 1) := ⟨kw_448, mwV_87⟩
theorem lk_240 (n : Nat) (nm : String) : gLn "TrunkDuel$State" nm (.getfield 21, n, 8, 1, 1, 1, 0) := ⟨_, _, _, rfl, by decide, rfl, kw_133⟩
theorem lk_241 (n : Nat) (nm : String) : gLn "TrunkDuel$State" nm (.putfield 46, n, 4, 0, 0, 0, 0) := ⟨_, _, _, tyX4 0, rfl, by decide, rfl, kw_79, tyX4_ok 0 (by decide), Or.inl ⟨rfl, rfl⟩, fun h => by cases h⟩
theorem lk_242 (n : Nat) (nm : String) : gLn "TrunkDuel$State" nm (.getfield 28, n, 8, 2, 1, 1, 0) := ⟨_, _, _, rfl, by decide, rfl, kw_135⟩
theorem lk_243 (n : Nat) (nm : String) : gLn "TrunkDuel$State" nm (.invokevirtual 49, n, 33, 1, 0, 0, 1) := ⟨kw_453, mwV_33⟩
theorem lk_244 (n : Nat) (nm : String) : gLn "TrunkDuel$State" nm (.getfield 32, n, 8, 3, 1, 1, 0) := ⟨_, _, _, rfl, by decide, rfl, kw_138⟩
theorem lk_245 (n : Nat) (nm : String) : gLn "TrunkDuel$State" nm (.invokevirtual 51, n, 88, 2, 0, 0, 1) := ⟨kw_689, mwV_88⟩
theorem lk_246 (n : Nat) (nm : String) : gLn "TrunkDuel$State" nm (.invokevirtual 55, n, 23, 2, 0, 0, 1) := ⟨kw_696, mwV_23⟩
theorem lk_247 (n : Nat) (nm : String) : gLn "TrunkDuel$State" nm (.invokevirtual 58, n, 34, 2, 0, 0, 1) := ⟨kw_701, mwV_34⟩
theorem lk_248 (n : Nat) (nm : String) : gLn "TrunkDuel$State" nm (.getfield 35, n, 8, 4, 0, 0, 0) := ⟨_, _, _, rfl, by decide, rfl, kw_141⟩
theorem lk_249 (n : Nat) (nm : String) : gLn "TrunkDuel$State" nm (.getfield 39, n, 8, 5, 0, 0, 0) := ⟨_, _, _, rfl, by decide, rfl, kw_144⟩
theorem lk_250 (n : Nat) (nm : String) : gLn "TrunkDuel$State" nm (.invokevirtual 61, n, 76, 1, 0, 0, 0) := ⟨kw_580, mwV_76⟩
theorem lk_251 (n : Nat) (nm : String) : gLn "TrunkDuel$State" nm (.invokevirtual 65, n, 77, 2, 0, 0, 2) := ⟨kw_584, mwV_77⟩
theorem lk_252 (n : Nat) (nm : String) : gLn "TrunkDuel$State" nm (.getfield 69, n, 2, 0, 0, 0, 0) := ⟨_, _, _, rfl, by decide, rfl, kw_167⟩
theorem lk_253 (n : Nat) (nm : String) : gLn "TrunkDuel$State" nm (.invokevirtual 74, n, 38, 2, 0, 0, 0) := ⟨kw_585, mwV_38⟩
theorem lk_254 (n : Nat) (nm : String) : gLn "TrunkDuel$State" nm (.invokevirtual 78, n, 102, 2, 0, 0, 0) := ⟨kw_589, mwV_102⟩
theorem lk_255 (n : Nat) (nm : String) : gLn "TrunkDuel$State" nm (.invokevirtual 82, n, 106, 2, 0, 0, 0) := ⟨kw_622, mwV_106⟩
theorem lk_256 (n : Nat) (nm : String) : gLn "TrunkDuel$State" nm (.getfield 85, n, 2, 4, 0, 0, 0) := ⟨_, _, _, rfl, by decide, rfl, kw_178⟩
theorem lk_257 (n : Nat) (nm : String) : gLn "TrunkDuel$State" nm (.invokevirtual 88, n, 13, 2, 0, 0, 0) := ⟨kw_630, mwV_13⟩
theorem lk_258 (n : Nat) (nm : String) : gLn "TrunkDuel$State" nm (.invokevirtual 91, n, 14, 2, 0, 0, 0) := ⟨kw_631, mwV_14⟩
theorem lk_259 (n : Nat) (nm : String) : gLn "TrunkDuel$State" nm (.getfield 46, n, 4, 0, 0, 0, 0) := ⟨_, _, _, rfl, by decide, rfl, kw_79⟩
theorem lk_260 (n : Nat) (nm : String) : gLn "TrunkDuel$State" nm (.invokevirtual 94, n, 92, 4, 0, 0, 1) := ⟨kw_632, mwV_92⟩
theorem lk_261 (n : Nat) (nm : String) : gLn "TrunkDuel$State" nm (.invokevirtual 98, n, 24, 4, 0, 0, 1) := ⟨kw_633, mwV_24⟩
theorem lk_262 (n : Nat) (nm : String) : gLn "TrunkDuel$State" nm (.invokevirtual 102, n, 39, 3, 0, 0, 1) := ⟨kw_637, mwV_39⟩
theorem lk_263 (n : Nat) (nm : String) : gLn "TrunkDuel$State" nm (.getfield 105, n, 5, 0, 0, 0, 0) := ⟨_, _, _, rfl, by decide, rfl, kw_109⟩
theorem lk_264 (n : Nat) (nm : String) : gLn "TrunkDuel$State" nm (.putfield 105, n, 5, 0, 0, 0, 0) := ⟨_, _, _, tyX5 0, rfl, by decide, rfl, kw_109, tyX5_ok 0 (by decide), Or.inl ⟨rfl, rfl⟩, fun h => by cases h⟩
theorem lk_265 (n : Nat) (nm : String) : gLn "TrunkDuel$State" nm (.invokevirtual 108, n, 85, 2, 0, 0, 1) := ⟨kw_638, mwV_85⟩
theorem lk_266 (n : Nat) (nm : String) : gLn "TrunkDuel$State" nm (.getfield 112, n, 5, 1, 0, 0, 0) := ⟨_, _, _, rfl, by decide, rfl, kw_112⟩
theorem lk_267 (n : Nat) (nm : String) : gLn "TrunkDuel$State" nm (.invokevirtual 115, n, 93, 4, 0, 0, 0) := ⟨kw_650, mwV_93⟩
theorem lk_268 (n : Nat) (nm : String) : gLn "TrunkDuel$State" nm (.invokevirtual 119, n, 96, 4, 0, 0, 0) := ⟨kw_651, mwV_96⟩
theorem lk_269 (n : Nat) (nm : String) : gLn "TrunkDuel$State" nm (.invokevirtual 122, n, 97, 4, 0, 0, 0) := ⟨kw_652, mwV_97⟩
theorem lk_270 (n : Nat) (nm : String) : gLn "TrunkDuel$State" nm (.invokevirtual 125, n, 94, 4, 0, 0, 1) := ⟨kw_660, mwV_94⟩
theorem lk_271 (n : Nat) (nm : String) : gLn "TrunkDuel$State" nm (.putfield 112, n, 5, 1, 0, 0, 0) := ⟨_, _, _, tyX5 1, rfl, by decide, rfl, kw_112, tyX5_ok 1 (by decide), Or.inl ⟨rfl, rfl⟩, fun h => by cases h⟩
theorem lk_272 (n : Nat) (nm : String) : gLn "TrunkDuel$State" nm (.invokevirtual 128, n, 11, 2, 0, 0, 1) := ⟨kw_666, mwV_11⟩
theorem lk_273 (n : Nat) (nm : String) : gLn "TrunkDuel$State" nm (.invokevirtual 131, n, 104, 2, 0, 0, 0) := ⟨kw_672, mwV_104⟩
theorem lk_274 (n : Nat) (nm : String) : gLn "TrunkDuel$State" nm (.invokevirtual 135, n, 105, 3, 0, 0, 0) := ⟨kw_1331, mwV_105⟩
theorem lk_275 (n : Nat) (nm : String) : gLn "TrunkDuel$Trunk" nm (.invokespecial 3, n, 0, 0, 0, 0, 26) := kw_50
theorem lk_276 (n : Nat) (nm : String) : gLn "TrunkDuel$Trunk" nm (.putfield 9, n, 9, 0, 0, 0, 0) := ⟨_, _, _, tyX9 0, rfl, by decide, rfl, kw_51, tyX9_ok 0 (by decide), Or.inl ⟨rfl, rfl⟩, fun h => by cases h⟩
theorem lk_277 (n : Nat) (nm : String) : gLn "TrunkDuel$Trunk" nm (.putfield 15, n, 9, 1, 0, 0, 0) := ⟨_, _, _, tyX9 1, rfl, by decide, rfl, kw_55, tyX9_ok 1 (by decide), Or.inl ⟨rfl, rfl⟩, fun h => by cases h⟩
theorem lk_278 (n : Nat) (nm : String) : gLn "TrunkDuel$Trunk" nm (.newarray .int, n, 0, 0, 0, 0, 0) := kw_70
theorem lk_279 (n : Nat) : gLn "TrunkDuel$Trunk" "<init>" (.putfield 18, n, 9, 2, 1, 1, 0) := ⟨_, _, _, tyX9 2, rfl, by decide, rfl, kw_59, tyX9_ok 2 (by decide), Or.inr (Or.inl ⟨rfl, rfl⟩), fun _ => ⟨rfl, rfl⟩⟩
theorem lk_280 (n : Nat) (nm : String) : gLn "TrunkDuel$Trunk" nm (.newarray .boolean, n, 0, 0, 0, 0, 0) := kw_71
theorem lk_281 (n : Nat) : gLn "TrunkDuel$Trunk" "<init>" (.putfield 22, n, 9, 3, 1, 1, 0) := ⟨_, _, _, tyX9 3, rfl, by decide, rfl, kw_60, tyX9_ok 3 (by decide), Or.inr (Or.inl ⟨rfl, rfl⟩), fun _ => ⟨rfl, rfl⟩⟩
theorem lk_282 (n : Nat) (nm : String) : gLn "TrunkDuel$Trunk" nm (.invokestatic 26, n, 0, 0, 0, 0, 20) := kw_452
theorem lk_283 (n : Nat) (nm : String) : gLn "TrunkDuel$Trunk" nm (.getfield 18, n, 9, 2, 1, 1, 0) := ⟨_, _, _, rfl, by decide, rfl, kw_59⟩
theorem lk_284 (n : Nat) (nm : String) : gLn "TrunkDuel$Trunk" nm (.getfield 22, n, 9, 3, 1, 1, 0) := ⟨_, _, _, rfl, by decide, rfl, kw_60⟩
theorem lk_285 (n : Nat) (nm : String) : gLn "TrunkDuel$Trunk" nm (.getfield 9, n, 9, 0, 0, 0, 0) := ⟨_, _, _, rfl, by decide, rfl, kw_51⟩
theorem lk_286 (n : Nat) (nm : String) : gLn "TrunkDuel$Trunk" nm (.getfield 15, n, 9, 1, 0, 0, 0) := ⟨_, _, _, rfl, by decide, rfl, kw_55⟩
theorem lk_287 (n : Nat) (nm : String) : gLn "TrunkDuel$Trunk" nm (.invokestatic 32, n, 0, 0, 0, 0, 25) := kw_693
theorem lk_288 (n : Nat) (nm : String) : gLn "TrunkDuel$Trunk" nm (.invokevirtual 38, n, 89, 3, 0, 0, 0) := ⟨kw_474, mwV_89⟩
theorem lk_289 (n : Nat) (nm : String) : gLn "TrunkDuel$Trunk" nm (.invokevirtual 42, n, 90, 4, 0, 0, 0) := ⟨kw_510, mwV_90⟩
theorem lk_290 (n : Nat) (nm : String) : gLn "TrunkDuel$Trunk" nm (.invokevirtual 46, n, 91, 3, 0, 0, 0) := ⟨kw_501, mwV_91⟩
theorem lk_291 (n : Nat) (nm : String) : gLn "TrunkDuel$Trunk" nm (.invokevirtual 49, n, 95, 4, 0, 0, 0) := ⟨kw_502, mwV_95⟩
theorem lk_292 (n : Nat) (nm : String) : gLn "TrunkDuel$Trunk" nm (.invokevirtual 53, n, 99, 2, 0, 0, 0) := ⟨kw_963, mwV_99⟩
theorem lk_293 (n : Nat) (nm : String) : gLn "TrunkDuel$Trunk" nm (.getfield 57, n, 2, 4, 0, 0, 0) := ⟨_, _, _, rfl, by decide, rfl, kw_179⟩
theorem lk_294 (n : Nat) (nm : String) : gLn "TrunkDuel$Trunk" nm (.invokevirtual 62, n, 13, 2, 0, 0, 0) := ⟨kw_593, mwV_13⟩
theorem lk_295 (n : Nat) (nm : String) : gLn "TrunkDuel$Trunk" nm (.invokevirtual 65, n, 14, 2, 0, 0, 0) := ⟨kw_597, mwV_14⟩
theorem lk_296 (n : Nat) (nm : String) : gLn "TrunkDuel$Trunk" nm (.invokevirtual 68, n, 103, 2, 0, 0, 0) := ⟨kw_601, mwV_103⟩
theorem lk_297 (n : Nat) (nm : String) : gLn "TrunkDuel$Trunk" nm (.getfield 72, n, 2, 5, 0, 0, 0) := ⟨_, _, _, rfl, by decide, rfl, kw_183⟩
theorem lk_298 (n : Nat) (nm : String) : gLn "TrunkDuel$Trunk" nm (.invokevirtual 75, n, 15, 2, 0, 0, 0) := ⟨kw_605, mwV_15⟩
theorem lk_299 (n : Nat) (nm : String) : gLn "TrunkDuel$Trunk" nm (.invokevirtual 78, n, 16, 2, 0, 0, 0) := ⟨kw_609, mwV_16⟩
theorem lk_300 (n : Nat) (nm : String) : gLn "TrunkDuel$Trunk" nm (.invokevirtual 81, n, 17, 2, 0, 0, 0) := ⟨kw_613, mwV_17⟩
theorem lk_301 (n : Nat) (nm : String) : gLn "TrunkDuel$Trunk" nm (.invokevirtual 84, n, 93, 4, 0, 0, 0) := ⟨kw_617, mwV_93⟩
theorem lk_302 (n : Nat) (nm : String) : gLn "TrunkDuel$Trunk" nm (.invokevirtual 87, n, 12, 3, 0, 0, 0) := ⟨kw_676, mwV_12⟩
theorem lk_303 (n : Nat) (nm : String) : gLn "TrunkDuel$Trunk" nm (.invokevirtual 90, n, 102, 2, 0, 0, 0) := ⟨kw_680, mwV_102⟩
theorem lk_304 (n : Nat) (nm : String) : gLn "TrunkDuel$Trunk" nm (.invokevirtual 94, n, 11, 2, 0, 0, 1) := ⟨kw_1335, mwV_11⟩
theorem lk_305 (n : Nat) (nm : String) : gLn "TrunkDuel$Trunk" nm (.invokevirtual 98, n, 104, 2, 0, 0, 0) := ⟨kw_1336, mwV_104⟩
theorem lk_306 (n : Nat) (nm : String) : gLn "TrunkDuel$Trunk" nm (.invokevirtual 101, n, 98, 2, 0, 0, 0) := ⟨kw_626, mwV_98⟩
theorem lk_307 (n : Nat) (nm : String) : gLn "TrunkDuel" nm (.invokespecial 3, n, 0, 0, 0, 0, 26) := kw_30
theorem lk_308 (n : Nat) (nm : String) : gLn "TrunkDuel" nm (.new 9, n, 6, 14, 0, 0, 0) := ⟨_, _, _, rfl, rfl, kw_33, kw_34, kw_2⟩
theorem lk_309 (n : Nat) (nm : String) : gLn "TrunkDuel" nm (.invokespecial 11, n, 40, 1, 24, 1064, 1) := ⟨Or.inr (List.mem_of_getElem? (i := 0) rfl), mwI_40⟩
theorem lk_310 (n : Nat) : gLn "TrunkDuel" "<init>" (.putfield 12, n, 10, 0, 1, 1, 0) := ⟨_, _, _, tyX10 0, rfl, by decide, rfl, kw_710, tyX10_ok 0 (by decide), Or.inr (Or.inl ⟨rfl, rfl⟩), fun _ => ⟨rfl, rfl⟩⟩
theorem lk_311 (n : Nat) (nm : String) : gLn "TrunkDuel" nm (.new 16, n, 8, 6, 0, 0, 0) := ⟨_, _, _, rfl, rfl, kw_260, kw_40, kw_3⟩
theorem lk_312 (n : Nat) (nm : String) : gLn "TrunkDuel" nm (.invokespecial 18, n, 73, 1, 16, 427, 1) := ⟨Or.inr (List.mem_of_getElem? (i := 6) rfl), mwI_73⟩
theorem lk_313 (n : Nat) : gLn "TrunkDuel" "<init>" (.putfield 19, n, 10, 1, 1, 1, 0) := ⟨_, _, _, tyX10 1, rfl, by decide, rfl, kw_711, tyX10_ok 1 (by decide), Or.inr (Or.inl ⟨rfl, rfl⟩), fun _ => ⟨rfl, rfl⟩⟩
theorem lk_314 (n : Nat) : gLn "TrunkDuel" "<init>" (.putfield 23, n, 10, 2, 1, 1, 0) := ⟨_, _, _, tyX10 2, rfl, by decide, rfl, kw_712, tyX10_ok 2 (by decide), Or.inr (Or.inl ⟨rfl, rfl⟩), fun _ => ⟨rfl, rfl⟩⟩
theorem lk_315 (n : Nat) (nm : String) : gLn "TrunkDuel" nm (.new 26, n, 3, 3, 0, 0, 0) := ⟨_, _, _, rfl, rfl, kw_262, kw_263, kw_8⟩
theorem lk_316 (n : Nat) (nm : String) : gLn "TrunkDuel" nm (.invokespecial 28, n, 19, 1, 137, 3472, 1) := ⟨Or.inl kw_264, mwI_19⟩
theorem lk_317 (n : Nat) : gLn "TrunkDuel" "<init>" (.putfield 29, n, 10, 3, 1, 1, 0) := ⟨_, _, _, tyX10 3, rfl, by decide, rfl, kw_713, tyX10_ok 3 (by decide), Or.inr (Or.inl ⟨rfl, rfl⟩), fun _ => ⟨rfl, rfl⟩⟩
theorem lk_318 (n : Nat) (nm : String) : gLn "TrunkDuel" nm (.anewarray 16, n, 0, 0, 0, 0, 0) := kw_260
theorem lk_319 (n : Nat) : gLn "TrunkDuel" "<init>" (.putfield 33, n, 10, 4, 1, 1, 0) := ⟨_, _, _, tyX10 4, rfl, by decide, rfl, kw_714, tyX10_ok 4 (by decide), Or.inr (Or.inl ⟨rfl, rfl⟩), fun _ => ⟨rfl, rfl⟩⟩
theorem lk_320 (n : Nat) (nm : String) : gLn "TrunkDuel" nm (.newarray .boolean, n, 0, 0, 0, 0, 0) := kw_71
theorem lk_321 (n : Nat) : gLn "TrunkDuel" "<init>" (.putfield 37, n, 10, 5, 1, 1, 0) := ⟨_, _, _, tyX10 5, rfl, by decide, rfl, kw_715, tyX10_ok 5 (by decide), Or.inr (Or.inl ⟨rfl, rfl⟩), fun _ => ⟨rfl, rfl⟩⟩
theorem lk_322 (n : Nat) (nm : String) : gLn "TrunkDuel" nm (.new 41, n, 2, 11, 0, 0, 0) := ⟨_, _, _, rfl, rfl, kw_282, kw_159, kw_7⟩
theorem lk_323 (n : Nat) (nm : String) : gLn "TrunkDuel" nm (.invokespecial 43, n, 8, 1, 5, 20, 1) := ⟨Or.inr (List.mem_of_getElem? (i := 8) rfl), mwI_8⟩
theorem lk_324 (n : Nat) : gLn "TrunkDuel" "<init>" (.putfield 44, n, 10, 6, 1, 1, 0) := ⟨_, _, _, tyX10 6, rfl, by decide, rfl, kw_716, tyX10_ok 6 (by decide), Or.inr (Or.inl ⟨rfl, rfl⟩), fun _ => ⟨rfl, rfl⟩⟩
theorem lk_325 (n : Nat) (nm : String) : gLn "TrunkDuel" nm (.new 48, n, 0, 5, 0, 0, 0) := ⟨_, _, _, rfl, rfl, kw_284, kw_285, kw_9⟩
theorem lk_326 (n : Nat) (nm : String) : gLn "TrunkDuel" nm (.invokespecial 50, n, 0, 1, 0, 0, 1) := ⟨Or.inr (List.mem_of_getElem? (i := 9) rfl), mwI_0⟩
theorem lk_327 (n : Nat) : gLn "TrunkDuel" "<init>" (.putfield 51, n, 10, 7, 1, 1, 0) := ⟨_, _, _, tyX10 7, rfl, by decide, rfl, kw_717, tyX10_ok 7 (by decide), Or.inr (Or.inl ⟨rfl, rfl⟩), fun _ => ⟨rfl, rfl⟩⟩
theorem lk_328 (n : Nat) (nm : String) : gLn "TrunkDuel" nm (.new 55, n, 1, 1, 0, 0, 0) := ⟨_, _, _, rfl, rfl, kw_310, kw_311, kw_10⟩
theorem lk_329 (n : Nat) (nm : String) : gLn "TrunkDuel" nm (.invokespecial 57, n, 4, 1, 1, 128, 1) := ⟨Or.inr (List.mem_of_getElem? (i := 10) rfl), mwI_4⟩
theorem lk_330 (n : Nat) : gLn "TrunkDuel" "<init>" (.putfield 58, n, 10, 8, 1, 1, 0) := ⟨_, _, _, tyX10 8, rfl, by decide, rfl, kw_718, tyX10_ok 8 (by decide), Or.inr (Or.inl ⟨rfl, rfl⟩), fun _ => ⟨rfl, rfl⟩⟩
theorem lk_331 (n : Nat) (nm : String) : gLn "TrunkDuel" nm (.new 62, n, 7, 5, 0, 0, 0) := ⟨_, _, _, rfl, rfl, kw_320, kw_321, kw_11⟩
theorem lk_332 (n : Nat) (nm : String) : gLn "TrunkDuel" nm (.invokespecial 64, n, 67, 1, 3, 192, 1) := ⟨Or.inr (List.mem_of_getElem? (i := 11) rfl), mwI_67⟩
theorem lk_333 (n : Nat) : gLn "TrunkDuel" "<init>" (.putfield 65, n, 10, 9, 1, 1, 0) := ⟨_, _, _, tyX10 9, rfl, by decide, rfl, kw_719, tyX10_ok 9 (by decide), Or.inr (Or.inl ⟨rfl, rfl⟩), fun _ => ⟨rfl, rfl⟩⟩
theorem lk_334 (n : Nat) (nm : String) : gLn "TrunkDuel" nm (.newarray .int, n, 0, 0, 0, 0, 0) := kw_70
theorem lk_335 (n : Nat) : gLn "TrunkDuel" "<init>" (.putfield 69, n, 10, 10, 1, 1, 0) := ⟨_, _, _, tyX10 10, rfl, by decide, rfl, kw_720, tyX10_ok 10 (by decide), Or.inr (Or.inl ⟨rfl, rfl⟩), fun _ => ⟨rfl, rfl⟩⟩
theorem lk_336 (n : Nat) (nm : String) : gLn "TrunkDuel" nm (.putfield 73, n, 10, 11, 0, 0, 0) := ⟨_, _, _, tyX10 11, rfl, by decide, rfl, kw_721, tyX10_ok 11 (by decide), Or.inl ⟨rfl, rfl⟩, fun h => by cases h⟩
theorem lk_337 (n : Nat) (nm : String) : gLn "TrunkDuel" nm (.getfield 12, n, 10, 0, 1, 1, 0) := ⟨_, _, _, rfl, by decide, rfl, kw_710⟩
theorem lk_338 (n : Nat) (nm : String) : gLn "TrunkDuel" nm (.ldc 77, n, 100016, 0, 0, 0, 1) := ⟨by decide, _, List.mem_of_getElem? (i := 0) rfl⟩
theorem lk_339 (n : Nat) (nm : String) : gLn "TrunkDuel" nm (.invokevirtual 79, n, 42, 2, 0, 0, 1) := ⟨kw_344, mwV_42⟩
theorem lk_340 (n : Nat) (nm : String) : gLn "TrunkDuel" nm (.invokevirtual 83, n, 45, 1, 0, 0, 1) := ⟨kw_400, mwV_45⟩
theorem lk_341 (n : Nat) (nm : String) : gLn "TrunkDuel" nm (.invokevirtual 86, n, 47, 1, 0, 0, 0) := ⟨kw_423, mwV_47⟩
theorem lk_342 (n : Nat) (nm : String) : gLn "TrunkDuel" nm (.invokevirtual 90, n, 48, 1, 0, 0, 0) := ⟨kw_536, mwV_48⟩
theorem lk_343 (n : Nat) (nm : String) : gLn "TrunkDuel" nm (.getfield 19, n, 10, 1, 1, 1, 0) := ⟨_, _, _, rfl, by decide, rfl, kw_711⟩
theorem lk_344 (n : Nat) (nm : String) : gLn "TrunkDuel" nm (.getfield 93, n, 6, 4, 1, 1, 0) := ⟨_, _, _, rfl, by decide, rfl, kw_221⟩
theorem lk_345 (n : Nat) (nm : String) : gLn "TrunkDuel" nm (.invokevirtual 96, n, 75, 2, 0, 0, 1) := ⟨kw_685, mwV_75⟩
theorem lk_346 (n : Nat) (nm : String) : gLn "TrunkDuel" nm (.invokevirtual 100, n, 66, 1, 0, 0, 1) := ⟨kw_706, mwV_66⟩
theorem lk_347 (n : Nat) (nm : String) : gLn "TrunkDuel" nm (.invokevirtual 103, n, 41, 1, 0, 0, 0) := ⟨kw_752, mwV_41⟩
theorem lk_348 (n : Nat) (nm : String) : gLn "TrunkDuel" nm (.invokevirtual 106, n, 43, 2, 0, 0, 1) := ⟨kw_756, mwV_43⟩
theorem lk_349 (n : Nat) (nm : String) : gLn "TrunkDuel" nm (.getfield 110, n, 6, 0, 0, 0, 0) := ⟨_, _, _, rfl, by decide, rfl, kw_213⟩
theorem lk_350 (n : Nat) (nm : String) : gLn "TrunkDuel" nm (.new 113, n, 0, 0, 115, 117, 1) := ⟨⟨kw_997, kw_22, at_0, by decide +kernel⟩, _, List.mem_of_getElem? (i := 0) rfl⟩
theorem lk_351 (n : Nat) (nm : String) : gLn "TrunkDuel" nm (.putfield 110, n, 6, 0, 0, 0, 0) := ⟨_, _, _, tyX6 0, rfl, by decide, rfl, kw_213, tyX6_ok 0 (by decide), Or.inl ⟨rfl, rfl⟩, fun h => by cases h⟩
theorem lk_352 (n : Nat) (nm : String) : gLn "TrunkDuel" nm (.getfield 29, n, 10, 3, 1, 1, 0) := ⟨_, _, _, rfl, by decide, rfl, kw_713⟩
theorem lk_353 (n : Nat) (nm : String) : gLn "TrunkDuel" nm (.invokevirtual 119, n, 20, 2, 0, 0, 1) := ⟨kw_764, mwV_20⟩
theorem lk_354 (n : Nat) (nm : String) : gLn "TrunkDuel" nm (.getfield 122, n, 8, 0, 1, 1, 0) := ⟨_, _, _, rfl, by decide, rfl, kw_131⟩
theorem lk_355 (n : Nat) (nm : String) : gLn "TrunkDuel" nm (.invokevirtual 126, n, 99, 2, 0, 0, 0) := ⟨kw_769, mwV_99⟩
theorem lk_356 (n : Nat) (nm : String) : gLn "TrunkDuel" nm (.invokevirtual 132, n, 46, 2, 0, 0, 1) := ⟨kw_777, mwV_46⟩
theorem lk_357 (n : Nat) (nm : String) : gLn "TrunkDuel" nm (.getfield 135, n, 6, 3, 0, 0, 0) := ⟨_, _, _, rfl, by decide, rfl, kw_219⟩
theorem lk_358 (n : Nat) (nm : String) : gLn "TrunkDuel" nm (.getfield 138, n, 6, 1, 0, 0, 0) := ⟨_, _, _, rfl, by decide, rfl, kw_215⟩
theorem lk_359 (n : Nat) (nm : String) : gLn "TrunkDuel" nm (.getfield 141, n, 6, 2, 0, 0, 0) := ⟨_, _, _, rfl, by decide, rfl, kw_217⟩
theorem lk_360 (n : Nat) (nm : String) : gLn "TrunkDuel" nm (.invokevirtual 144, n, 167, 5, 3, 18, 11) := ⟨kw_1073, mwV_167⟩
theorem lk_361 (n : Nat) (nm : String) : gLn "TrunkDuel" nm (.getfield 44, n, 10, 6, 1, 1, 0) := ⟨_, _, _, rfl, by decide, rfl, kw_716⟩
theorem lk_362 (n : Nat) (nm : String) : gLn "TrunkDuel" nm (.invokevirtual 148, n, 78, 2, 0, 0, 0) := ⟨kw_1103, mwV_78⟩
theorem lk_363 (n : Nat) (nm : String) : gLn "TrunkDuel" nm (.new 152, n, 2, 0, 154, 156, 1) := ⟨⟨kw_1104, kw_24, at_1, by decide +kernel⟩, _, List.mem_of_getElem? (i := 1) rfl⟩
theorem lk_364 (n : Nat) (nm : String) : gLn "TrunkDuel" nm (.invokevirtual 157, n, 79, 2, 0, 0, 0) := ⟨kw_1120, mwV_79⟩
theorem lk_365 (n : Nat) (nm : String) : gLn "TrunkDuel" nm (.invokevirtual 161, n, 172, 4, 2, 12, 11) := ⟨kw_1128, mwV_172⟩
theorem lk_366 (n : Nat) (nm : String) : gLn "TrunkDuel" nm (.invokevirtual 165, n, 80, 4, 0, 0, 0) := ⟨kw_1135, mwV_80⟩
theorem lk_367 (n : Nat) (nm : String) : gLn "TrunkDuel" nm (.new 152, n, 2, 0, 169, 156, 1) := ⟨⟨kw_1104, kw_24, at_1, by decide +kernel⟩, _, List.mem_of_getElem? (i := 2) rfl⟩
theorem lk_368 (n : Nat) (nm : String) : gLn "TrunkDuel" nm (.invokevirtual 171, n, 81, 4, 0, 0, 0) := ⟨kw_1137, mwV_81⟩
theorem lk_369 (n : Nat) (nm : String) : gLn "TrunkDuel" nm (.invokevirtual 175, n, 82, 2, 0, 0, 0) := ⟨kw_1145, mwV_82⟩
theorem lk_370 (n : Nat) (nm : String) : gLn "TrunkDuel" nm (.new 152, n, 2, 0, 178, 156, 1) := ⟨⟨kw_1104, kw_24, at_1, by decide +kernel⟩, _, List.mem_of_getElem? (i := 3) rfl⟩
theorem lk_371 (n : Nat) (nm : String) : gLn "TrunkDuel" nm (.invokevirtual 180, n, 83, 1, 0, 0, 0) := ⟨kw_1147, mwV_83⟩
theorem lk_372 (n : Nat) (nm : String) : gLn "TrunkDuel" nm (.getfield 184, n, 3, 0, 0, 0, 0) := ⟨_, _, _, rfl, by decide, rfl, kw_272⟩
theorem lk_373 (n : Nat) (nm : String) : gLn "TrunkDuel" nm (.new 152, n, 2, 0, 187, 156, 1) := ⟨⟨kw_1104, kw_24, at_1, by decide +kernel⟩, _, List.mem_of_getElem? (i := 4) rfl⟩
theorem lk_374 (n : Nat) (nm : String) : gLn "TrunkDuel" nm (.invokevirtual 189, n, 21, 2, 0, 0, 1) := ⟨kw_1156, mwV_21⟩
theorem lk_375 (n : Nat) (nm : String) : gLn "TrunkDuel" nm (.invokestatic 192, n, 169, 1, 1, 6, 11) := ⟨kw_1167, mwS_169, rfl⟩
theorem lk_376 (n : Nat) (nm : String) : gLn "TrunkDuel" nm (.getfield 33, n, 10, 4, 1, 1, 0) := ⟨_, _, _, rfl, by decide, rfl, kw_714⟩
theorem lk_377 (n : Nat) (nm : String) : gLn "TrunkDuel" nm (.getfield 37, n, 10, 5, 1, 1, 0) := ⟨_, _, _, rfl, by decide, rfl, kw_715⟩
theorem lk_378 (n : Nat) (nm : String) : gLn "TrunkDuel" nm (.getfield 195, n, 8, 1, 1, 1, 0) := ⟨_, _, _, rfl, by decide, rfl, kw_134⟩
theorem lk_379 (n : Nat) (nm : String) : gLn "TrunkDuel" nm (.getfield 199, n, 4, 0, 0, 0, 0) := ⟨_, _, _, rfl, by decide, rfl, kw_80⟩
theorem lk_380 (n : Nat) (nm : String) : gLn "TrunkDuel" nm (.new 152, n, 2, 0, 202, 156, 1) := ⟨⟨kw_1104, kw_24, at_1, by decide +kernel⟩, _, List.mem_of_getElem? (i := 5) rfl⟩
theorem lk_381 (n : Nat) (nm : String) : gLn "TrunkDuel" nm (.getfield 204, n, 9, 0, 0, 0, 0) := ⟨_, _, _, rfl, by decide, rfl, kw_54⟩
theorem lk_382 (n : Nat) (nm : String) : gLn "TrunkDuel" nm (.getfield 207, n, 9, 1, 0, 0, 0) := ⟨_, _, _, rfl, by decide, rfl, kw_58⟩
theorem lk_383 (n : Nat) (nm : String) : gLn "TrunkDuel" nm (.invokevirtual 210, n, 101, 1, 0, 0, 0) := ⟨kw_811, mwV_101⟩
theorem lk_384 (n : Nat) (nm : String) : gLn "TrunkDuel" nm (.invokevirtual 213, n, 98, 2, 0, 0, 0) := ⟨kw_819, mwV_98⟩
theorem lk_385 (n : Nat) (nm : String) : gLn "TrunkDuel" nm (.invokevirtual 216, n, 171, 3, 1, 6, 11) := ⟨kw_1082, mwV_171⟩
theorem lk_386 (n : Nat) (nm : String) : gLn "TrunkDuel" nm (.invokevirtual 220, n, 91, 3, 0, 0, 0) := ⟨kw_981, mwV_91⟩
theorem lk_387 (n : Nat) (nm : String) : gLn "TrunkDuel" nm (.invokevirtual 224, n, 93, 4, 0, 0, 0) := ⟨kw_1200, mwV_93⟩
theorem lk_388 (n : Nat) (nm : String) : gLn "TrunkDuel" nm (.new 227, n, 1, 0, 229, 231, 1) := ⟨⟨kw_1087, kw_23, at_2, by decide +kernel⟩, _, List.mem_of_getElem? (i := 6) rfl⟩
theorem lk_389 (n : Nat) (nm : String) : gLn "TrunkDuel" nm (.invokevirtual 232, n, 173, 2, 1, 6, 11) := ⟨kw_1216, mwV_173⟩
theorem lk_390 (n : Nat) (nm : String) : gLn "TrunkDuel" nm (.invokevirtual 235, n, 26, 2, 0, 0, 0) := ⟨kw_932, mwV_26⟩
theorem lk_391 (n : Nat) (nm : String) : gLn "TrunkDuel" nm (.invokevirtual 238, n, 27, 2, 0, 0, 0) := ⟨kw_940, mwV_27⟩
theorem lk_392 (n : Nat) (nm : String) : gLn "TrunkDuel" nm (.invokevirtual 241, n, 28, 2, 0, 0, 0) := ⟨kw_945, mwV_28⟩
theorem lk_393 (n : Nat) (nm : String) : gLn "TrunkDuel" nm (.invokevirtual 244, n, 29, 2, 0, 0, 0) := ⟨kw_949, mwV_29⟩
theorem lk_394 (n : Nat) (nm : String) : gLn "TrunkDuel" nm (.invokevirtual 247, n, 30, 2, 0, 0, 0) := ⟨kw_1249, mwV_30⟩
theorem lk_395 (n : Nat) (nm : String) : gLn "TrunkDuel" nm (.invokevirtual 250, n, 31, 2, 0, 0, 0) := ⟨kw_954, mwV_31⟩
theorem lk_396 (n : Nat) (nm : String) : gLn "TrunkDuel" nm (.invokevirtual 253, n, 76, 1, 0, 0, 0) := ⟨kw_828, mwV_76⟩
theorem lk_397 (n : Nat) (nm : String) : gLn "TrunkDuel" nm (.getfield 256, n, 8, 4, 0, 0, 0) := ⟨_, _, _, rfl, by decide, rfl, kw_143⟩
theorem lk_398 (n : Nat) (nm : String) : gLn "TrunkDuel" nm (.getfield 259, n, 8, 2, 1, 1, 0) := ⟨_, _, _, rfl, by decide, rfl, kw_137⟩
theorem lk_399 (n : Nat) (nm : String) : gLn "TrunkDuel" nm (.getfield 263, n, 5, 0, 0, 0, 0) := ⟨_, _, _, rfl, by decide, rfl, kw_110⟩
theorem lk_400 (n : Nat) (nm : String) : gLn "TrunkDuel" nm (.getfield 268, n, 8, 3, 1, 1, 0) := ⟨_, _, _, rfl, by decide, rfl, kw_140⟩
theorem lk_401 (n : Nat) (nm : String) : gLn "TrunkDuel" nm (.invokestatic 271, n, 170, 1, 1, 6, 11) := ⟨kw_1267, mwS_170, rfl⟩
theorem lk_402 (n : Nat) (nm : String) : gLn "TrunkDuel" nm (.invokevirtual 274, n, 77, 2, 0, 0, 2) := ⟨kw_875, mwV_77⟩
theorem lk_403 (n : Nat) (nm : String) : gLn "TrunkDuel" nm (.invokestatic 278, n, 168, 1, 1, 6, 11) := ⟨kw_1077, mwS_168, rfl⟩
theorem lk_404 (n : Nat) (nm : String) : gLn "TrunkDuel" nm (.invokevirtual 281, n, 38, 2, 0, 0, 0) := ⟨kw_1278, mwV_38⟩
theorem lk_405 (n : Nat) (nm : String) : gLn "TrunkDuel" nm (.getfield 284, n, 5, 1, 0, 0, 0) := ⟨_, _, _, rfl, by decide, rfl, kw_114⟩
theorem lk_406 (n : Nat) (nm : String) : gLn "TrunkDuel" nm (.invokevirtual 287, n, 36, 2, 0, 0, 0) := ⟨kw_1293, mwV_36⟩
theorem lk_407 (n : Nat) (nm : String) : gLn "TrunkDuel" nm (.invokevirtual 290, n, 102, 2, 0, 0, 0) := ⟨kw_1304, mwV_102⟩
theorem lk_408 (n : Nat) (nm : String) : gLn "TrunkDuel" nm (.invokevirtual 293, n, 106, 2, 0, 0, 0) := ⟨kw_1319, mwV_106⟩
theorem lk_409 (n : Nat) (nm : String) : gLn "TrunkDuel" nm (.invokevirtual 295, n, 84, 3, 0, 0, 0) := ⟨kw_1327, mwV_84⟩
theorem lk_410 (n : Nat) (nm : String) : gLn "TrunkDuel" nm (.invokevirtual 299, n, 105, 3, 0, 0, 0) := ⟨kw_1344, mwV_105⟩
theorem lk_411 (n : Nat) (nm : String) : gLn "TrunkDuel" nm (.getfield 23, n, 10, 2, 1, 1, 0) := ⟨_, _, _, rfl, by decide, rfl, kw_712⟩
theorem lk_412 (n : Nat) (nm : String) : gLn "TrunkDuel" nm (.getfield 51, n, 10, 7, 1, 1, 0) := ⟨_, _, _, rfl, by decide, rfl, kw_717⟩
theorem lk_413 (n : Nat) (nm : String) : gLn "TrunkDuel" nm (.invokevirtual 302, n, 1, 3, 0, 0, 1) := ⟨kw_841, mwV_1⟩
theorem lk_414 (n : Nat) (nm : String) : gLn "TrunkDuel" nm (.getfield 306, n, 0, 0, 0, 0, 0) := ⟨_, _, _, rfl, by decide, rfl, kw_291⟩
theorem lk_415 (n : Nat) (nm : String) : gLn "TrunkDuel" nm (.getfield 309, n, 0, 1, 0, 0, 0) := ⟨_, _, _, rfl, by decide, rfl, kw_293⟩
theorem lk_416 (n : Nat) (nm : String) : gLn "TrunkDuel" nm (.getfield 312, n, 0, 2, 0, 0, 0) := ⟨_, _, _, rfl, by decide, rfl, kw_295⟩
theorem lk_417 (n : Nat) (nm : String) : gLn "TrunkDuel" nm (.getfield 315, n, 0, 3, 0, 0, 0) := ⟨_, _, _, rfl, by decide, rfl, kw_297⟩
theorem lk_418 (n : Nat) (nm : String) : gLn "TrunkDuel" nm (.getfield 58, n, 10, 8, 1, 1, 0) := ⟨_, _, _, rfl, by decide, rfl, kw_718⟩
theorem lk_419 (n : Nat) (nm : String) : gLn "TrunkDuel" nm (.invokevirtual 318, n, 5, 4, 0, 0, 0) := ⟨kw_876, mwV_5⟩
theorem lk_420 (n : Nat) (nm : String) : gLn "TrunkDuel" nm (.getfield 65, n, 10, 9, 1, 1, 0) := ⟨_, _, _, rfl, by decide, rfl, kw_719⟩
theorem lk_421 (n : Nat) (nm : String) : gLn "TrunkDuel" nm (.invokevirtual 322, n, 68, 2, 0, 0, 1) := ⟨kw_901, mwV_68⟩
theorem lk_422 (n : Nat) (nm : String) : gLn "TrunkDuel" nm (.getfield 326, n, 7, 0, 0, 0, 0) := ⟨_, _, _, rfl, by decide, rfl, kw_327⟩
theorem lk_423 (n : Nat) (nm : String) : gLn "TrunkDuel" nm (.invokevirtual 327, n, 69, 2, 0, 0, 0) := ⟨kw_919, mwV_69⟩
theorem lk_424 (n : Nat) (nm : String) : gLn "TrunkDuel" nm (.invokestatic 330, n, 0, 0, 0, 0, 21) := kw_923
theorem lk_425 (n : Nat) (nm : String) : gLn "TrunkDuel" nm (.invokevirtual 335, n, 70, 3, 0, 0, 0) := ⟨kw_1359, mwV_70⟩
theorem lk_426 (n : Nat) (nm : String) : gLn "TrunkDuel" nm (.invokevirtual 338, n, 9, 3, 0, 0, 1) := ⟨kw_944, mwV_9⟩
theorem lk_427 (n : Nat) (nm : String) : gLn "TrunkDuel" nm (.invokevirtual 341, n, 10, 3, 0, 0, 1) := ⟨kw_953, mwV_10⟩
theorem lk_428 (n : Nat) (nm : String) : gLn "TrunkDuel" nm (.getfield 344, n, 2, 4, 0, 0, 0) := ⟨_, _, _, rfl, by decide, rfl, kw_180⟩
theorem lk_429 (n : Nat) (nm : String) : gLn "TrunkDuel" nm (.invokevirtual 347, n, 103, 2, 0, 0, 0) := ⟨kw_958, mwV_103⟩
theorem lk_430 (n : Nat) (nm : String) : gLn "TrunkDuel" nm (.invokevirtual 350, n, 100, 1, 0, 0, 0) := ⟨kw_959, mwV_100⟩
theorem lk_431 (n : Nat) (nm : String) : gLn "TrunkDuel" nm (.invokestatic 353, n, 0, 0, 0, 0, 22) := kw_964
theorem lk_432 (n : Nat) (nm : String) : gLn "TrunkDuel" nm (.invokevirtual 356, n, 165, 2, 0, 0, 1) := ⟨kw_977, mwV_165⟩
theorem lk_433 (n : Nat) (nm : String) : gLn "TrunkDuel" nm (.invokestatic 359, n, 166, 1, 0, 0, 0) := ⟨kw_982, mwS_166⟩
theorem lk_434 (n : Nat) (nm : String) : gLn "TrunkDuel" nm (.getfield 73, n, 10, 11, 0, 0, 0) := ⟨_, _, _, rfl, by decide, rfl, kw_721⟩
theorem lk_435 (n : Nat) (nm : String) : gLn "TrunkDuel" nm (.getfield 69, n, 10, 10, 1, 1, 0) := ⟨_, _, _, rfl, by decide, rfl, kw_720⟩
theorem lk_436 (n : Nat) (nm : String) : gLn "TrunkDuel" nm (.new 113, n, 0, 1, 362, 117, 1) := ⟨⟨kw_997, kw_22, at_0, by decide +kernel⟩, _, List.mem_of_getElem? (i := 7) rfl⟩
theorem lk_437 (n : Nat) (nm : String) : gLn "TrunkDuel" nm (.new 113, n, 0, 1, 364, 117, 1) := ⟨⟨kw_997, kw_22, at_0, by decide +kernel⟩, _, List.mem_of_getElem? (i := 8) rfl⟩
theorem lk_438 (n : Nat) (nm : String) : gLn "TrunkDuel" nm (.new 113, n, 0, 1, 366, 117, 1) := ⟨⟨kw_997, kw_22, at_0, by decide +kernel⟩, _, List.mem_of_getElem? (i := 9) rfl⟩
theorem lk_439 (n : Nat) (nm : String) : gLn "TrunkDuel" nm (.new 227, n, 1, 1, 368, 231, 1) := ⟨⟨kw_1087, kw_23, at_2, by decide +kernel⟩, _, List.mem_of_getElem? (i := 10) rfl⟩
theorem lk_440 (n : Nat) (nm : String) : gLn "TrunkDuel" nm (.invokevirtual 370, n, 89, 3, 0, 0, 0) := ⟨kw_1086, mwV_89⟩
theorem lk_441 (n : Nat) (nm : String) : gLn "TrunkDuel" nm (.new 227, n, 1, 1, 374, 231, 1) := ⟨⟨kw_1087, kw_23, at_2, by decide +kernel⟩, _, List.mem_of_getElem? (i := 11) rfl⟩
theorem lk_442 (n : Nat) (nm : String) : gLn "TrunkDuel" nm (.new 113, n, 0, 1, 376, 117, 1) := ⟨⟨kw_997, kw_22, at_0, by decide +kernel⟩, _, List.mem_of_getElem? (i := 12) rfl⟩
theorem lk_443 (n : Nat) (nm : String) : gLn "TrunkDuel" nm (.invokevirtual 378, n, 90, 4, 0, 0, 0) := ⟨kw_1133, mwV_90⟩
theorem lk_444 (n : Nat) (nm : String) : gLn "TrunkDuel" nm (.new 227, n, 1, 1, 381, 231, 1) := ⟨⟨kw_1087, kw_23, at_2, by decide +kernel⟩, _, List.mem_of_getElem? (i := 13) rfl⟩
theorem lk_445 (n : Nat) (nm : String) : gLn "TrunkDuel" nm (.new 227, n, 1, 1, 383, 231, 1) := ⟨⟨kw_1087, kw_23, at_2, by decide +kernel⟩, _, List.mem_of_getElem? (i := 14) rfl⟩
theorem lk_446 (n : Nat) (nm : String) : gLn "TrunkDuelModel" nm (.invokespecial 3, n, 0, 0, 0, 0, 26) := kw_1376
theorem lk_447 (n : Nat) (nm : String) : gLn "TrunkDuelModel" nm (.newarray .int, n, 0, 0, 0, 0, 0) := kw_70
theorem lk_448 (n : Nat) : gLn "TrunkDuelModel" "<init>" (.putfield 9, n, 11, 0, 1, 1, 0) := ⟨_, _, _, tyX11 0, rfl, by decide, rfl, kw_1606, tyX11_ok 0 (by decide), Or.inr (Or.inl ⟨rfl, rfl⟩), fun _ => ⟨rfl, rfl⟩⟩
theorem lk_449 (n : Nat) : gLn "TrunkDuelModel" "<init>" (.putfield 13, n, 11, 1, 1, 1, 0) := ⟨_, _, _, tyX11 1, rfl, by decide, rfl, kw_1607, tyX11_ok 1 (by decide), Or.inr (Or.inl ⟨rfl, rfl⟩), fun _ => ⟨rfl, rfl⟩⟩
theorem lk_450 (n : Nat) : gLn "TrunkDuelModel" "<init>" (.putfield 16, n, 11, 2, 1, 1, 0) := ⟨_, _, _, tyX11 2, rfl, by decide, rfl, kw_1608, tyX11_ok 2 (by decide), Or.inr (Or.inl ⟨rfl, rfl⟩), fun _ => ⟨rfl, rfl⟩⟩
theorem lk_451 (n : Nat) : gLn "TrunkDuelModel" "<init>" (.putfield 19, n, 11, 3, 1, 1, 0) := ⟨_, _, _, tyX11 3, rfl, by decide, rfl, kw_1609, tyX11_ok 3 (by decide), Or.inr (Or.inl ⟨rfl, rfl⟩), fun _ => ⟨rfl, rfl⟩⟩
theorem lk_452 (n : Nat) : gLn "TrunkDuelModel" "<init>" (.putfield 22, n, 11, 4, 1, 1, 0) := ⟨_, _, _, tyX11 4, rfl, by decide, rfl, kw_1610, tyX11_ok 4 (by decide), Or.inr (Or.inl ⟨rfl, rfl⟩), fun _ => ⟨rfl, rfl⟩⟩
theorem lk_453 (n : Nat) (nm : String) : gLn "TrunkDuelModel" nm (.newarray .boolean, n, 0, 0, 0, 0, 0) := kw_71
theorem lk_454 (n : Nat) : gLn "TrunkDuelModel" "<init>" (.putfield 25, n, 11, 5, 1, 1, 0) := ⟨_, _, _, tyX11 5, rfl, by decide, rfl, kw_1611, tyX11_ok 5 (by decide), Or.inr (Or.inl ⟨rfl, rfl⟩), fun _ => ⟨rfl, rfl⟩⟩
theorem lk_455 (n : Nat) : gLn "TrunkDuelModel" "<init>" (.putfield 29, n, 11, 8, 1, 1, 0) := ⟨_, _, _, tyX11 8, rfl, by decide, rfl, kw_1614, tyX11_ok 8 (by decide), Or.inr (Or.inl ⟨rfl, rfl⟩), fun _ => ⟨rfl, rfl⟩⟩
theorem lk_456 (n : Nat) : gLn "TrunkDuelModel" "<init>" (.putfield 32, n, 11, 9, 1, 1, 0) := ⟨_, _, _, tyX11 9, rfl, by decide, rfl, kw_1615, tyX11_ok 9 (by decide), Or.inr (Or.inl ⟨rfl, rfl⟩), fun _ => ⟨rfl, rfl⟩⟩
theorem lk_457 (n : Nat) : gLn "TrunkDuelModel" "<init>" (.putfield 35, n, 11, 10, 1, 1, 0) := ⟨_, _, _, tyX11 10, rfl, by decide, rfl, kw_1616, tyX11_ok 10 (by decide), Or.inr (Or.inl ⟨rfl, rfl⟩), fun _ => ⟨rfl, rfl⟩⟩
theorem lk_458 (n : Nat) : gLn "TrunkDuelModel" "<init>" (.putfield 38, n, 11, 11, 1, 1, 0) := ⟨_, _, _, tyX11 11, rfl, by decide, rfl, kw_1617, tyX11_ok 11 (by decide), Or.inr (Or.inl ⟨rfl, rfl⟩), fun _ => ⟨rfl, rfl⟩⟩
theorem lk_459 (n : Nat) : gLn "TrunkDuelModel" "<init>" (.putfield 41, n, 11, 12, 1, 1, 0) := ⟨_, _, _, tyX11 12, rfl, by decide, rfl, kw_1618, tyX11_ok 12 (by decide), Or.inr (Or.inl ⟨rfl, rfl⟩), fun _ => ⟨rfl, rfl⟩⟩
theorem lk_460 (n : Nat) (nm : String) : gLn "TrunkDuelModel" nm (.putfield 44, n, 11, 16, 0, 0, 0) := ⟨_, _, _, tyX11 16, rfl, by decide, rfl, kw_1622, tyX11_ok 16 (by decide), Or.inl ⟨rfl, rfl⟩, fun h => by cases h⟩
theorem lk_461 (n : Nat) (nm : String) : gLn "TrunkDuelModel" nm (.ldc 48, n, 100016, 0, 0, 0, 1) := ⟨by decide, _, List.mem_of_getElem? (i := 14) rfl⟩
theorem lk_462 (n : Nat) (nm : String) : gLn "TrunkDuelModel" nm (.invokevirtual 50, n, 175, 2, 0, 0, 1) := ⟨kw_1378, mwV_175⟩
theorem lk_463 (n : Nat) (nm : String) : gLn "TrunkDuelModel" nm (.invokevirtual 54, n, 0, 0, 0, 0, 23) := kw_1382
theorem lk_464 (n : Nat) (nm : String) : gLn "TrunkDuelModel" nm (.putfield 60, n, 11, 13, 0, 0, 0) := ⟨_, _, _, tyX11 13, rfl, by decide, rfl, kw_1619, tyX11_ok 13 (by decide), Or.inl ⟨rfl, rfl⟩, fun h => by cases h⟩
theorem lk_465 (n : Nat) (nm : String) : gLn "TrunkDuelModel" nm (.getfield 60, n, 11, 13, 0, 0, 0) := ⟨_, _, _, rfl, by decide, rfl, kw_1619⟩
theorem lk_466 (n : Nat) (nm : String) : gLn "TrunkDuelModel" nm (.getfield 29, n, 11, 8, 1, 1, 0) := ⟨_, _, _, rfl, by decide, rfl, kw_1614⟩
theorem lk_467 (n : Nat) (nm : String) : gLn "TrunkDuelModel" nm (.invokevirtual 63, n, 0, 0, 0, 0, 24) := kw_1383
theorem lk_468 (n : Nat) (nm : String) : gLn "TrunkDuelModel" nm (.invokevirtual 67, n, 234, 1, 0, 0, 0) := ⟨kw_1384, mwV_234⟩
theorem lk_469 (n : Nat) (nm : String) : gLn "TrunkDuelModel" nm (.putfield 70, n, 11, 6, 0, 0, 0) := ⟨_, _, _, tyX11 6, rfl, by decide, rfl, kw_1612, tyX11_ok 6 (by decide), Or.inl ⟨rfl, rfl⟩, fun h => by cases h⟩
theorem lk_470 (n : Nat) (nm : String) : gLn "TrunkDuelModel" nm (.getfield 73, n, 11, 7, 0, 0, 0) := ⟨_, _, _, rfl, by decide, rfl, kw_1613⟩
theorem lk_471 (n : Nat) (nm : String) : gLn "TrunkDuelModel" nm (.putfield 73, n, 11, 7, 0, 0, 0) := ⟨_, _, _, tyX11 7, rfl, by decide, rfl, kw_1613, tyX11_ok 7 (by decide), Or.inl ⟨rfl, rfl⟩, fun h => by cases h⟩
theorem lk_472 (n : Nat) (nm : String) : gLn "TrunkDuelModel" nm (.invokestatic 76, n, 0, 0, 0, 0, 25) := kw_1395
theorem lk_473 (n : Nat) (nm : String) : gLn "TrunkDuelModel" nm (.getfield 70, n, 11, 6, 0, 0, 0) := ⟨_, _, _, rfl, by decide, rfl, kw_1612⟩
theorem lk_474 (n : Nat) (nm : String) : gLn "TrunkDuelModel" nm (.getfield 16, n, 11, 2, 1, 1, 0) := ⟨_, _, _, rfl, by decide, rfl, kw_1608⟩
theorem lk_475 (n : Nat) (nm : String) : gLn "TrunkDuelModel" nm (.invokestatic 82, n, 180, 4, 0, 0, 1) := ⟨kw_1392, mwS_180⟩
theorem lk_476 (n : Nat) (nm : String) : gLn "TrunkDuelModel" nm (.getfield 9, n, 11, 0, 1, 1, 0) := ⟨_, _, _, rfl, by decide, rfl, kw_1606⟩
theorem lk_477 (n : Nat) (nm : String) : gLn "TrunkDuelModel" nm (.invokestatic 86, n, 179, 3, 0, 0, 0) := ⟨kw_1404, mwS_179⟩
theorem lk_478 (n : Nat) (nm : String) : gLn "TrunkDuelModel" nm (.invokestatic 90, n, 183, 2, 0, 0, 0) := ⟨kw_1447, mwS_183⟩
theorem lk_479 (n : Nat) (nm : String) : gLn "TrunkDuelModel" nm (.invokevirtual 94, n, 182, 3, 0, 0, 0) := ⟨kw_1466, mwV_182⟩
theorem lk_480 (n : Nat) (nm : String) : gLn "TrunkDuelModel" nm (.invokevirtual 98, n, 184, 3, 0, 0, 0) := ⟨kw_1443, mwV_184⟩
theorem lk_481 (n : Nat) (nm : String) : gLn "TrunkDuelModel" nm (.invokestatic 101, n, 0, 0, 0, 0, 20) := kw_1412
theorem lk_482 (n : Nat) (nm : String) : gLn "TrunkDuelModel" nm (.invokestatic 106, n, 188, 3, 0, 0, 0) := ⟨kw_1470, mwS_188⟩
theorem lk_483 (n : Nat) (nm : String) : gLn "TrunkDuelModel" nm (.invokestatic 110, n, 0, 0, 0, 0, 22) := kw_1544
theorem lk_484 (n : Nat) (nm : String) : gLn "TrunkDuelModel" nm (.invokestatic 114, n, 193, 1, 0, 0, 0) := ⟨kw_1528, mwS_193⟩
theorem lk_485 (n : Nat) (nm : String) : gLn "TrunkDuelModel" nm (.putfield 117, n, 11, 17, 0, 0, 0) := ⟨_, _, _, tyX11 17, rfl, by decide, rfl, kw_1623, tyX11_ok 17 (by decide), Or.inl ⟨rfl, rfl⟩, fun h => by cases h⟩
theorem lk_486 (n : Nat) (nm : String) : gLn "TrunkDuelModel" nm (.getfield 117, n, 11, 17, 0, 0, 0) := ⟨_, _, _, rfl, by decide, rfl, kw_1623⟩
theorem lk_487 (n : Nat) (nm : String) : gLn "TrunkDuelModel" nm (.invokestatic 120, n, 191, 2, 0, 0, 0) := ⟨kw_1531, mwS_191⟩
theorem lk_488 (n : Nat) (nm : String) : gLn "TrunkDuelModel" nm (.invokestatic 123, n, 192, 2, 0, 0, 0) := ⟨kw_1534, mwS_192⟩
theorem lk_489 (n : Nat) (nm : String) : gLn "TrunkDuelModel" nm (.getfield 35, n, 11, 10, 1, 1, 0) := ⟨_, _, _, rfl, by decide, rfl, kw_1616⟩
theorem lk_490 (n : Nat) (nm : String) : gLn "TrunkDuelModel" nm (.getfield 38, n, 11, 11, 1, 1, 0) := ⟨_, _, _, rfl, by decide, rfl, kw_1617⟩
theorem lk_491 (n : Nat) (nm : String) : gLn "TrunkDuelModel" nm (.invokestatic 126, n, 190, 4, 0, 0, 0) := ⟨kw_1541, mwS_190⟩
theorem lk_492 (n : Nat) (nm : String) : gLn "TrunkDuelModel" nm (.invokevirtual 130, n, 189, 5, 0, 0, 0) := ⟨kw_1545, mwV_189⟩
theorem lk_493 (n : Nat) (nm : String) : gLn "TrunkDuelModel" nm (.invokevirtual 133, n, 194, 5, 0, 0, 1) := ⟨kw_1524, mwV_194⟩
theorem lk_494 (n : Nat) (nm : String) : gLn "TrunkDuelModel" nm (.invokevirtual 137, n, 195, 1, 0, 0, 0) := ⟨kw_1537, mwV_195⟩
theorem lk_495 (n : Nat) (nm : String) : gLn "TrunkDuelModel" nm (.invokevirtual 141, n, 197, 2, 0, 0, 0) := ⟨kw_1557, mwV_197⟩
theorem lk_496 (n : Nat) (nm : String) : gLn "TrunkDuelModel" nm (.invokevirtual 144, n, 196, 5, 0, 0, 0) := ⟨kw_1520, mwV_196⟩
theorem lk_497 (n : Nat) (nm : String) : gLn "TrunkDuelModel" nm (.invokevirtual 148, n, 200, 3, 0, 0, 0) := ⟨kw_1482, mwV_200⟩
theorem lk_498 (n : Nat) (nm : String) : gLn "TrunkDuelModel" nm (.invokevirtual 151, n, 199, 2, 0, 0, 0) := ⟨kw_1590, mwV_199⟩
theorem lk_499 (n : Nat) (nm : String) : gLn "TrunkDuelModel" nm (.invokevirtual 154, n, 202, 1, 0, 0, 0) := ⟨kw_1516, mwV_202⟩
theorem lk_500 (n : Nat) (nm : String) : gLn "TrunkDuelModel" nm (.invokevirtual 157, n, 198, 5, 0, 0, 0) := ⟨kw_1553, mwV_198⟩
theorem lk_501 (n : Nat) (nm : String) : gLn "TrunkDuelModel" nm (.invokevirtual 160, n, 201, 4, 0, 0, 1) := ⟨kw_1486, mwV_201⟩
theorem lk_502 (n : Nat) (nm : String) : gLn "TrunkDuelModel" nm (.invokevirtual 164, n, 205, 1, 0, 0, 1) := ⟨kw_1561, mwV_205⟩
theorem lk_503 (n : Nat) (nm : String) : gLn "TrunkDuelModel" nm (.invokevirtual 167, n, 186, 3, 0, 0, 0) := ⟨kw_1573, mwV_186⟩
theorem lk_504 (n : Nat) (nm : String) : gLn "TrunkDuelModel" nm (.invokevirtual 170, n, 203, 2, 0, 0, 0) := ⟨kw_1586, mwV_203⟩
theorem lk_505 (n : Nat) (nm : String) : gLn "TrunkDuelModel" nm (.invokevirtual 173, n, 212, 2, 0, 0, 1) := ⟨kw_1699, mwV_212⟩
theorem lk_506 (n : Nat) (nm : String) : gLn "TrunkDuelModel" nm (.invokevirtual 177, n, 177, 4, 0, 0, 0) := ⟨kw_1707, mwV_177⟩
theorem lk_507 (n : Nat) (nm : String) : gLn "TrunkDuelModel" nm (.getfield 181, n, 11, 20, 0, 0, 0) := ⟨_, _, _, rfl, by decide, rfl, kw_1626⟩
theorem lk_508 (n : Nat) (nm : String) : gLn "TrunkDuelModel" nm (.putfield 181, n, 11, 20, 0, 0, 0) := ⟨_, _, _, tyX11 20, rfl, by decide, rfl, kw_1626, tyX11_ok 20 (by decide), Or.inl ⟨rfl, rfl⟩, fun h => by cases h⟩
theorem lk_509 (n : Nat) (nm : String) : gLn "TrunkDuelModel" nm (.putfield 184, n, 11, 19, 0, 0, 0) := ⟨_, _, _, tyX11 19, rfl, by decide, rfl, kw_1625, tyX11_ok 19 (by decide), Or.inl ⟨rfl, rfl⟩, fun h => by cases h⟩
theorem lk_510 (n : Nat) (nm : String) : gLn "TrunkDuelModel" nm (.putfield 187, n, 11, 18, 0, 0, 0) := ⟨_, _, _, tyX11 18, rfl, by decide, rfl, kw_1624, tyX11_ok 18 (by decide), Or.inl ⟨rfl, rfl⟩, fun h => by cases h⟩
theorem lk_511 (n : Nat) (nm : String) : gLn "TrunkDuelModel" nm (.invokevirtual 190, n, 214, 2, 0, 0, 0) := ⟨kw_1400, mwV_214⟩
theorem lk_512 (n : Nat) (nm : String) : gLn "TrunkDuelModel" nm (.invokevirtual 194, n, 215, 2, 0, 0, 0) := ⟨kw_1407, mwV_215⟩
theorem lk_513 (n : Nat) (nm : String) : gLn "TrunkDuelModel" nm (.putfield 197, n, 11, 21, 0, 0, 0) := ⟨_, _, _, tyX11 21, rfl, by decide, rfl, kw_1627, tyX11_ok 21 (by decide), Or.inl ⟨rfl, rfl⟩, fun h => by cases h⟩
theorem lk_514 (n : Nat) (nm : String) : gLn "TrunkDuelModel" nm (.ldc 200, n, 100000, 0, 0, 0, 0) := kw_1411
theorem lk_515 (n : Nat) (nm : String) : gLn "TrunkDuelModel" nm (.getfield 197, n, 11, 21, 0, 0, 0) := ⟨_, _, _, rfl, by decide, rfl, kw_1627⟩
theorem lk_516 (n : Nat) (nm : String) : gLn "TrunkDuelModel" nm (.getfield 187, n, 11, 18, 0, 0, 0) := ⟨_, _, _, rfl, by decide, rfl, kw_1624⟩
theorem lk_517 (n : Nat) (nm : String) : gLn "TrunkDuelModel" nm (.getfield 184, n, 11, 19, 0, 0, 0) := ⟨_, _, _, rfl, by decide, rfl, kw_1625⟩
theorem lk_518 (n : Nat) (nm : String) : gLn "TrunkDuelModel" nm (.getfield 201, n, 11, 22, 0, 0, 0) := ⟨_, _, _, rfl, by decide, rfl, kw_1628⟩
theorem lk_519 (n : Nat) (nm : String) : gLn "TrunkDuelModel" nm (.putfield 201, n, 11, 22, 2, 0, 0) := ⟨_, _, _, tyX11 22, rfl, by decide, rfl, kw_1628, tyX11_ok 22 (by decide), Or.inr (Or.inr ⟨rfl, rfl⟩), fun h => by cases h⟩
theorem lk_520 (n : Nat) (nm : String) : gLn "TrunkDuelModel" nm (.putfield 205, n, 11, 15, 0, 0, 0) := ⟨_, _, _, tyX11 15, rfl, by decide, rfl, kw_1621, tyX11_ok 15 (by decide), Or.inl ⟨rfl, rfl⟩, fun h => by cases h⟩
theorem lk_521 (n : Nat) (nm : String) : gLn "TrunkDuelModel" nm (.invokevirtual 208, n, 216, 1, 0, 0, 1) := ⟨kw_1396, mwV_216⟩
theorem lk_522 (n : Nat) (nm : String) : gLn "TrunkDuelModel" nm (.invokevirtual 211, n, 218, 3, 0, 0, 1) := ⟨kw_1418, mwV_218⟩
theorem lk_523 (n : Nat) (nm : String) : gLn "TrunkDuelModel" nm (.invokevirtual 215, n, 220, 3, 0, 0, 0) := ⟨kw_1430, mwV_220⟩
theorem lk_524 (n : Nat) (nm : String) : gLn "TrunkDuelModel" nm (.invokevirtual 218, n, 219, 1, 0, 0, 1) := ⟨kw_1422, mwV_219⟩
theorem lk_525 (n : Nat) (nm : String) : gLn "TrunkDuelModel" nm (.ldc 221, n, 100020, 0, 0, 0, 1) := ⟨by decide, _, List.mem_of_getElem? (i := 15) rfl⟩
theorem lk_526 (n : Nat) (nm : String) : gLn "TrunkDuelModel" nm (.invokevirtual 223, n, 217, 2, 0, 0, 0) := ⟨kw_1414, mwV_217⟩
theorem lk_527 (n : Nat) (nm : String) : gLn "TrunkDuelModel" nm (.ldc 227, n, 100021, 0, 0, 0, 1) := ⟨by decide, _, List.mem_of_getElem? (i := 16) rfl⟩
theorem lk_528 (n : Nat) (nm : String) : gLn "TrunkDuelModel" nm (.invokestatic 229, n, 0, 0, 0, 0, 21) := kw_1461
theorem lk_529 (n : Nat) (nm : String) : gLn "TrunkDuelModel" nm (.invokevirtual 232, n, 221, 3, 0, 0, 0) := ⟨kw_1426, mwV_221⟩
theorem lk_530 (n : Nat) (nm : String) : gLn "TrunkDuelModel" nm (.invokevirtual 235, n, 223, 1, 0, 0, 1) := ⟨kw_1434, mwV_223⟩
theorem lk_531 (n : Nat) (nm : String) : gLn "TrunkDuelModel" nm (.invokevirtual 238, n, 222, 1, 0, 0, 0) := ⟨kw_1455, mwV_222⟩
theorem lk_532 (n : Nat) (nm : String) : gLn "TrunkDuelModel" nm (.invokevirtual 241, n, 187, 4, 0, 0, 0) := ⟨kw_1462, mwV_187⟩
theorem lk_533 (n : Nat) (nm : String) : gLn "TrunkDuelModel" nm (.ldc 244, n, 100022, 0, 0, 0, 1) := ⟨by decide, _, List.mem_of_getElem? (i := 17) rfl⟩
theorem lk_534 (n : Nat) (nm : String) : gLn "TrunkDuelModel" nm (.invokevirtual 246, n, 226, 2, 0, 0, 0) := ⟨kw_1478, mwV_226⟩
theorem lk_535 (n : Nat) (nm : String) : gLn "TrunkDuelModel" nm (.ldc 249, n, 100024, 0, 0, 0, 1) := ⟨by decide, _, List.mem_of_getElem? (i := 18) rfl⟩
theorem lk_536 (n : Nat) (nm : String) : gLn "TrunkDuelModel" nm (.ldc 251, n, 100025, 0, 0, 0, 1) := ⟨by decide, _, List.mem_of_getElem? (i := 19) rfl⟩
theorem lk_537 (n : Nat) (nm : String) : gLn "TrunkDuelModel" nm (.ldc 253, n, 100026, 0, 0, 0, 1) := ⟨by decide, _, List.mem_of_getElem? (i := 20) rfl⟩
theorem lk_538 (n : Nat) (nm : String) : gLn "TrunkDuelModel" nm (.ldc 255, n, 100027, 0, 0, 0, 1) := ⟨by decide, _, List.mem_of_getElem? (i := 21) rfl⟩
theorem lk_539 (n : Nat) (nm : String) : gLn "TrunkDuelModel" nm (.ldc_w 257, n, 100028, 0, 0, 0, 1) := ⟨by decide, _, List.mem_of_getElem? (i := 22) rfl⟩
theorem lk_540 (n : Nat) (nm : String) : gLn "TrunkDuelModel" nm (.invokevirtual 259, n, 228, 1, 0, 0, 0) := ⟨kw_1503, mwV_228⟩
theorem lk_541 (n : Nat) (nm : String) : gLn "TrunkDuelModel" nm (.invokevirtual 262, n, 204, 5, 0, 0, 0) := ⟨kw_1512, mwV_204⟩
theorem lk_542 (n : Nat) (nm : String) : gLn "TrunkDuelModel" nm (.invokevirtual 265, n, 206, 5, 0, 0, 0) := ⟨kw_1549, mwV_206⟩
theorem lk_543 (n : Nat) (nm : String) : gLn "TrunkDuelModel" nm (.putfield 268, n, 11, 23, 0, 0, 0) := ⟨_, _, _, tyX11 23, rfl, by decide, rfl, kw_1629, tyX11_ok 23 (by decide), Or.inl ⟨rfl, rfl⟩, fun h => by cases h⟩
theorem lk_544 (n : Nat) (nm : String) : gLn "TrunkDuelModel" nm (.invokevirtual 271, n, 207, 4, 0, 0, 0) := ⟨kw_1569, mwV_207⟩
theorem lk_545 (n : Nat) (nm : String) : gLn "TrunkDuelModel" nm (.invokevirtual 274, n, 208, 4, 0, 0, 0) := ⟨kw_1577, mwV_208⟩
theorem lk_546 (n : Nat) (nm : String) : gLn "TrunkDuelModel" nm (.ldc_w 277, n, 100023, 0, 0, 0, 1) := ⟨by decide, _, List.mem_of_getElem? (i := 23) rfl⟩
theorem lk_547 (n : Nat) (nm : String) : gLn "TrunkDuelModel" nm (.invokevirtual 279, n, 229, 1, 0, 0, 1) := ⟨kw_1499, mwV_229⟩
theorem lk_548 (n : Nat) (nm : String) : gLn "TrunkDuelModel" nm (.ldc_w 282, n, 100019, 0, 0, 0, 1) := ⟨by decide, _, List.mem_of_getElem? (i := 24) rfl⟩
theorem lk_549 (n : Nat) (nm : String) : gLn "TrunkDuelModel" nm (.invokevirtual 284, n, 230, 1, 0, 0, 1) := ⟨kw_1565, mwV_230⟩
theorem lk_550 (n : Nat) (nm : String) : gLn "TrunkDuelModel" nm (.ldc_w 287, n, 100029, 0, 0, 0, 1) := ⟨by decide, _, List.mem_of_getElem? (i := 25) rfl⟩
theorem lk_551 (n : Nat) (nm : String) : gLn "TrunkDuelModel" nm (.invokevirtual 289, n, 209, 1, 0, 0, 0) := ⟨kw_1582, mwV_209⟩
theorem lk_552 (n : Nat) (nm : String) : gLn "TrunkDuelModel" nm (.invokevirtual 292, n, 210, 1, 0, 0, 0) := ⟨kw_1594, mwV_210⟩
theorem lk_553 (n : Nat) (nm : String) : gLn "TrunkDuelModel" nm (.getfield 22, n, 11, 4, 1, 1, 0) := ⟨_, _, _, rfl, by decide, rfl, kw_1610⟩
theorem lk_554 (n : Nat) (nm : String) : gLn "TrunkDuelModel" nm (.invokevirtual 295, n, 231, 1, 0, 0, 1) := ⟨kw_1494, mwV_231⟩
theorem lk_555 (n : Nat) (nm : String) : gLn "TrunkDuelModel" nm (.invokevirtual 298, n, 181, 2, 0, 0, 1) := ⟨kw_1598, mwV_181⟩
theorem lk_556 (n : Nat) (nm : String) : gLn "TrunkDuelModel" nm (.invokevirtual 302, n, 232, 1, 0, 0, 1) := ⟨kw_1388, mwV_232⟩
theorem lk_557 (n : Nat) (nm : String) : gLn "TrunkDuelModel" nm (.ldc_w 305, n, 100017, 0, 0, 0, 1) := ⟨by decide, _, List.mem_of_getElem? (i := 26) rfl⟩
theorem lk_558 (n : Nat) (nm : String) : gLn "TrunkDuelModel" nm (.ldc_w 307, n, 100018, 0, 0, 0, 1) := ⟨by decide, _, List.mem_of_getElem? (i := 27) rfl⟩
theorem lk_559 (n : Nat) (nm : String) : gLn "TrunkDuelModel" nm (.invokevirtual 309, n, 224, 1, 0, 0, 1) := ⟨kw_1439, mwV_224⟩
theorem lk_560 (n : Nat) (nm : String) : gLn "TrunkDuelModel" nm (.invokevirtual 312, n, 225, 1, 0, 0, 1) := ⟨kw_1451, mwV_225⟩
theorem lk_561 (n : Nat) (nm : String) : gLn "TrunkDuelModel" nm (.invokevirtual 315, n, 227, 2, 0, 0, 1) := ⟨kw_1473, mwV_227⟩
theorem lk_562 (n : Nat) (nm : String) : gLn "TrunkDuelModel" nm (.invokevirtual 318, n, 233, 1, 0, 0, 0) := ⟨kw_1490, mwV_233⟩
theorem lk_563 (n : Nat) (nm : String) : gLn "TrunkDuelModel" nm (.invokevirtual 321, n, 248, 1, 0, 0, 0) := ⟨kw_1602, mwV_248⟩
theorem lk_564 (n : Nat) (nm : String) : gLn "TrunkDuelModel" nm (.getfield 205, n, 11, 15, 0, 0, 0) := ⟨_, _, _, rfl, by decide, rfl, kw_1621⟩
theorem lk_565 (n : Nat) (nm : String) : gLn "TrunkDuelModel" nm (.invokevirtual 324, n, 178, 2, 0, 0, 0) := ⟨kw_1720, mwV_178⟩
theorem lk_566 (n : Nat) (nm : String) : gLn "TrunkDuelModel" nm (.getfield 44, n, 11, 16, 0, 0, 0) := ⟨_, _, _, rfl, by decide, rfl, kw_1622⟩
theorem lk_567 (n : Nat) (nm : String) : gLn "TrunkDuelModel" nm (.invokestatic 327, n, 238, 1, 0, 0, 0) := ⟨kw_1732, mwS_238⟩
theorem lk_568 (n : Nat) (nm : String) : gLn "TrunkDuelModel" nm (.invokestatic 330, n, 239, 1, 0, 0, 0) := ⟨kw_1735, mwS_239⟩
theorem lk_569 (n : Nat) (nm : String) : gLn "TrunkDuelModel" nm (.invokestatic 333, n, 240, 1, 0, 0, 0) := ⟨kw_1742, mwS_240⟩
theorem lk_570 (n : Nat) (nm : String) : gLn "TrunkDuelModel" nm (.getfield 19, n, 11, 3, 1, 1, 0) := ⟨_, _, _, rfl, by decide, rfl, kw_1609⟩
theorem lk_571 (n : Nat) (nm : String) : gLn "TrunkDuelModel" nm (.getfield 25, n, 11, 5, 1, 1, 0) := ⟨_, _, _, rfl, by decide, rfl, kw_1611⟩
theorem lk_572 (n : Nat) (nm : String) : gLn "TrunkDuelModel" nm (.invokevirtual 336, n, 261, 3, 0, 0, 0) := ⟨kw_1809, mwV_261⟩
theorem lk_573 (n : Nat) (nm : String) : gLn "TrunkDuelModel" nm (.invokestatic 339, n, 241, 1, 0, 0, 0) := ⟨kw_1849, mwS_241⟩
theorem lk_574 (n : Nat) (nm : String) : gLn "TrunkDuelModel" nm (.invokevirtual 342, n, 275, 5, 0, 0, 0) := ⟨kw_1868, mwV_275⟩
theorem lk_575 (n : Nat) (nm : String) : gLn "TrunkDuelModel" nm (.getfield 13, n, 11, 1, 1, 1, 0) := ⟨_, _, _, rfl, by decide, rfl, kw_1607⟩
theorem lk_576 (n : Nat) (nm : String) : gLn "TrunkDuelModel" nm (.invokevirtual 345, n, 281, 1, 0, 0, 1) := ⟨kw_1892, mwV_281⟩
theorem lk_577 (n : Nat) (nm : String) : gLn "TrunkDuelModel" nm (.invokevirtual 348, n, 282, 2, 0, 0, 0) := ⟨kw_1896, mwV_282⟩
theorem lk_578 (n : Nat) (nm : String) : gLn "TrunkDuelModel" nm (.putfield 351, n, 11, 24, 0, 0, 0) := ⟨_, _, _, tyX11 24, rfl, by decide, rfl, kw_1630, tyX11_ok 24 (by decide), Or.inl ⟨rfl, rfl⟩, fun h => by cases h⟩
theorem lk_579 (n : Nat) (nm : String) : gLn "TrunkDuelModel" nm (.putfield 354, n, 11, 25, 0, 0, 0) := ⟨_, _, _, tyX11 25, rfl, by decide, rfl, kw_1631, tyX11_ok 25 (by decide), Or.inl ⟨rfl, rfl⟩, fun h => by cases h⟩
theorem lk_580 (n : Nat) (nm : String) : gLn "TrunkDuelModel" nm (.putfield 357, n, 11, 26, 0, 0, 0) := ⟨_, _, _, tyX11 26, rfl, by decide, rfl, kw_1632, tyX11_ok 26 (by decide), Or.inl ⟨rfl, rfl⟩, fun h => by cases h⟩
theorem lk_581 (n : Nat) (nm : String) : gLn "TrunkDuelModel" nm (.putfield 360, n, 11, 27, 0, 0, 0) := ⟨_, _, _, tyX11 27, rfl, by decide, rfl, kw_1633, tyX11_ok 27 (by decide), Or.inl ⟨rfl, rfl⟩, fun h => by cases h⟩
theorem lk_582 (n : Nat) (nm : String) : gLn "TrunkDuelModel" nm (.invokevirtual 363, n, 285, 4, 0, 0, 0) := ⟨kw_1908, mwV_285⟩
theorem lk_583 (n : Nat) (nm : String) : gLn "TrunkDuelModel" nm (.invokevirtual 366, n, 284, 1, 0, 0, 1) := ⟨kw_1904, mwV_284⟩
theorem lk_584 (n : Nat) (nm : String) : gLn "TrunkDuelModel" nm (.getfield 351, n, 11, 24, 0, 0, 0) := ⟨_, _, _, rfl, by decide, rfl, kw_1630⟩
theorem lk_585 (n : Nat) (nm : String) : gLn "TrunkDuelModel" nm (.getfield 354, n, 11, 25, 0, 0, 0) := ⟨_, _, _, rfl, by decide, rfl, kw_1631⟩
theorem lk_586 (n : Nat) (nm : String) : gLn "TrunkDuelModel" nm (.getfield 357, n, 11, 26, 0, 0, 0) := ⟨_, _, _, rfl, by decide, rfl, kw_1632⟩
theorem lk_587 (n : Nat) (nm : String) : gLn "TrunkDuelModel" nm (.getfield 360, n, 11, 27, 0, 0, 0) := ⟨_, _, _, rfl, by decide, rfl, kw_1633⟩
theorem lk_588 (n : Nat) (nm : String) : gLn "TrunkDuelModel" nm (.invokevirtual 369, n, 185, 3, 0, 0, 0) := ⟨kw_1944, mwV_185⟩
theorem lk_589 (n : Nat) (nm : String) : gLn "TrunkDuelModel" nm (.getfield 41, n, 11, 12, 1, 1, 0) := ⟨_, _, _, rfl, by decide, rfl, kw_1618⟩
theorem lk_590 (n : Nat) (nm : String) : gLn "TrunkDuelModel" nm (.invokevirtual 372, n, 291, 5, 0, 0, 0) := ⟨kw_1940, mwV_291⟩
theorem lk_591 (n : Nat) (nm : String) : gLn "TrunkDuelModel" nm (.invokevirtual 375, n, 292, 1, 0, 0, 1) := ⟨kw_1936, mwV_292⟩
theorem lk_592 (n : Nat) (nm : String) : gLn "TrunkDuelModel" nm (.invokevirtual 378, n, 294, 1, 0, 0, 0) := ⟨kw_1932, mwV_294⟩
theorem lk_593 (n : Nat) (nm : String) : gLn "TrunkDuelModel" nm (.invokevirtual 381, n, 293, 3, 0, 0, 0) := ⟨kw_1952, mwV_293⟩
theorem lk_594 (n : Nat) (nm : String) : gLn "TrunkDuelModel" nm (.invokevirtual 384, n, 298, 3, 0, 0, 0) := ⟨kw_1968, mwV_298⟩
theorem lk_595 (n : Nat) (nm : String) : gLn "TrunkDuelModel" nm (.invokevirtual 387, n, 299, 3, 0, 0, 0) := ⟨kw_1964, mwV_299⟩
theorem lk_596 (n : Nat) (nm : String) : gLn "TrunkDuelModel" nm (.invokevirtual 390, n, 302, 1, 0, 0, 0) := ⟨kw_1980, mwV_302⟩
theorem lk_597 (n : Nat) (nm : String) : gLn "TrunkDuelModel" nm (.invokevirtual 393, n, 249, 2, 0, 0, 0) := ⟨kw_1984, mwV_249⟩
theorem lk_598 (n : Nat) (nm : String) : gLn "TrunkDuelModel" nm (.getfield 32, n, 11, 9, 1, 1, 0) := ⟨_, _, _, rfl, by decide, rfl, kw_1615⟩
theorem lk_599 (n : Nat) (nm : String) : gLn "TrunkDuelModel" nm (.getfield 396, n, 11, 14, 0, 0, 0) := ⟨_, _, _, rfl, by decide, rfl, kw_1620⟩
theorem lk_600 (n : Nat) (nm : String) : gLn "TrunkDuelModel" nm (.putfield 396, n, 11, 14, 0, 0, 0) := ⟨_, _, _, tyX11 14, rfl, by decide, rfl, kw_1620, tyX11_ok 14 (by decide), Or.inl ⟨rfl, rfl⟩, fun h => by cases h⟩
theorem lk_601 (n : Nat) (nm : String) : gLn "TrunkDuelModel" nm (.invokevirtual 399, n, 306, 2, 0, 0, 1) := ⟨kw_2000, mwV_306⟩
theorem lk_602 (n : Nat) (nm : String) : gLn "TrunkDuelLaw" nm (.invokevirtual 7, n, 109, 2, 1, 6, 10) := ⟨kw_993, mwV_109⟩
theorem lk_603 (n : Nat) (nm : String) : gLn "TrunkDuelLaw" nm (.invokevirtual 15, n, 114, 5, 4, 24, 10) := ⟨kw_1069, mwV_114⟩
theorem lk_604 (n : Nat) (nm : String) : gLn "TrunkDuelLaw" nm (.invokevirtual 23, n, 115, 4, 3, 18, 10) := ⟨kw_1124, mwV_115⟩
theorem lk_605 (n : Nat) (nm : String) : gLn "TrunkDuelLaw" nm (.invokevirtual 27, n, 116, 1, 1, 6, 10) := ⟨kw_1141, mwV_116⟩
theorem lk_606 (n : Nat) (nm : String) : gLn "TrunkDuelLaw" nm (.invokevirtual 31, n, 117, 1, 1, 6, 10) := ⟨kw_1151, mwV_117⟩
theorem lk_607 (n : Nat) (nm : String) : gLn "TrunkDuelLaw" nm (.invokevirtual 34, n, 118, 2, 1, 6, 10) := ⟨kw_1163, mwV_118⟩
theorem lk_608 (n : Nat) (nm : String) : gLn "TrunkDuelLaw" nm (.invokevirtual 37, n, 119, 2, 2, 12, 10) := ⟨kw_1174, mwV_119⟩
theorem lk_609 (n : Nat) (nm : String) : gLn "TrunkDuelLaw" nm (.invokevirtual 40, n, 127, 3, 1, 6, 10) := ⟨kw_1182, mwV_127⟩
theorem lk_610 (n : Nat) (nm : String) : gLn "TrunkDuelLaw" nm (.invokevirtual 44, n, 128, 3, 1, 6, 10) := ⟨kw_1189, mwV_128⟩
theorem lk_611 (n : Nat) (nm : String) : gLn "TrunkDuelLaw" nm (.invokevirtual 48, n, 129, 4, 2, 12, 10) := ⟨kw_1196, mwV_129⟩
theorem lk_612 (n : Nat) (nm : String) : gLn "TrunkDuelLaw" nm (.invokevirtual 52, n, 130, 2, 1, 6, 10) := ⟨kw_1204, mwV_130⟩
theorem lk_613 (n : Nat) (nm : String) : gLn "TrunkDuelLaw" nm (.invokevirtual 55, n, 131, 2, 1, 6, 10) := ⟨kw_1212, mwV_131⟩
theorem lk_614 (n : Nat) (nm : String) : gLn "TrunkDuelLaw" nm (.invokevirtual 58, n, 132, 2, 1, 6, 10) := ⟨kw_1224, mwV_132⟩
theorem lk_615 (n : Nat) (nm : String) : gLn "TrunkDuelLaw" nm (.invokevirtual 61, n, 133, 2, 1, 6, 10) := ⟨kw_1231, mwV_133⟩
theorem lk_616 (n : Nat) (nm : String) : gLn "TrunkDuelLaw" nm (.invokevirtual 64, n, 134, 2, 1, 6, 10) := ⟨kw_1238, mwV_134⟩
theorem lk_617 (n : Nat) (nm : String) : gLn "TrunkDuelLaw" nm (.invokevirtual 67, n, 135, 2, 1, 6, 10) := ⟨kw_1245, mwV_135⟩
theorem lk_618 (n : Nat) (nm : String) : gLn "TrunkDuelLaw" nm (.invokevirtual 70, n, 136, 2, 1, 6, 10) := ⟨kw_1256, mwV_136⟩
theorem lk_619 (n : Nat) (nm : String) : gLn "TrunkDuelLaw" nm (.invokevirtual 73, n, 140, 2, 1, 6, 10) := ⟨kw_1263, mwV_140⟩
theorem lk_620 (n : Nat) (nm : String) : gLn "TrunkDuelLaw" nm (.invokevirtual 76, n, 141, 3, 2, 12, 10) := ⟨kw_1274, mwV_141⟩
theorem lk_621 (n : Nat) (nm : String) : gLn "TrunkDuelLaw" nm (.invokevirtual 79, n, 142, 2, 1, 6, 10) := ⟨kw_1282, mwV_142⟩
theorem lk_622 (n : Nat) (nm : String) : gLn "TrunkDuelLaw" nm (.invokevirtual 82, n, 143, 3, 1, 6, 10) := ⟨kw_1289, mwV_143⟩
theorem lk_623 (n : Nat) (nm : String) : gLn "TrunkDuelLaw" nm (.invokevirtual 85, n, 144, 5, 3, 18, 10) := ⟨kw_1300, mwV_144⟩
theorem lk_624 (n : Nat) (nm : String) : gLn "TrunkDuelLaw" nm (.invokevirtual 89, n, 145, 5, 3, 18, 10) := ⟨kw_1308, mwV_145⟩
theorem lk_625 (n : Nat) (nm : String) : gLn "TrunkDuelLaw" nm (.invokevirtual 92, n, 146, 5, 3, 18, 10) := ⟨kw_1315, mwV_146⟩
theorem lk_626 (n : Nat) (nm : String) : gLn "TrunkDuelLaw" nm (.invokevirtual 95, n, 147, 2, 1, 6, 10) := ⟨kw_1323, mwV_147⟩
theorem lk_627 (n : Nat) (nm : String) : gLn "TrunkDuelLaw" nm (.invokevirtual 98, n, 148, 2, 1, 6, 10) := ⟨kw_1340, mwV_148⟩
theorem lk_628 (n : Nat) (nm : String) : gLn "TrunkDuelLaw" nm (.invokevirtual 101, n, 149, 6, 4, 24, 10) := ⟨kw_1348, mwV_149⟩
theorem lk_629 (n : Nat) (nm : String) : gLn "TrunkDuelLaw" nm (.invokevirtual 105, n, 157, 3, 1, 6, 10) := ⟨kw_1355, mwV_157⟩
theorem lk_630 (n : Nat) (nm : String) : gLn "TrunkDuelLaw" nm (.invokevirtual 108, n, 158, 3, 1, 6, 10) := ⟨kw_1367, mwV_158⟩
theorem lk_631 (n : Nat) (nm : String) : gLn "TrunkDuelLaw" nm (.new 8, n, 10, 12, 0, 0, 0) := ⟨_, _, _, rfl, rfl, kw_25, kw_26, kw_1⟩
theorem lk_632 (n : Nat) (nm : String) : gLn "TrunkDuelLaw" nm (.invokespecial 111, n, 107, 1, 247, 6722, 1) := ⟨Or.inl kw_27, mwI_107⟩
theorem lk_633 (n : Nat) (nm : String) : gLn "TrunkDuelLaw" nm (.new 112, n, 11, 28, 0, 0, 0) := ⟨_, _, _, rfl, rfl, kw_1371, kw_1372, kw_18⟩
theorem lk_634 (n : Nat) (nm : String) : gLn "TrunkDuelLaw" nm (.invokespecial 114, n, 174, 1, 11, 6195, 1) := ⟨Or.inl kw_1373, mwI_174⟩
theorem lk_635 (n : Nat) (nm : String) : gLn "TrunkDuelLaw" nm (.newarray .long, n, 0, 0, 0, 0, 0) := kw_2008
theorem lk_636 (n : Nat) (nm : String) : gLn "TrunkDuelLaw" nm (.invokevirtual 115, n, 108, 6, 0, 0, 0) := ⟨kw_748, mwV_108⟩
theorem lk_637 (n : Nat) (nm : String) : gLn "TrunkDuelLaw" nm (.invokevirtual 118, n, 211, 6, 0, 0, 0) := ⟨kw_1695, mwV_211⟩
theorem lk_638 (n : Nat) (nm : String) : gLn "TrunkDuelLaw" nm (.invokestatic 119, n, 309, 3, 1, 6, 0) := ⟨kw_989, mwS_309⟩
theorem lk_639 (n : Nat) (nm : String) : gLn "TrunkDuelLaw" nm (.invokevirtual 124, n, 213, 2, 0, 0, 0) := ⟨kw_1703, mwV_213⟩
theorem lk_640 (n : Nat) (nm : String) : gLn "TrunkDuelLaw" nm (.invokevirtual 125, n, 176, 1, 0, 0, 0) := ⟨kw_1691, mwV_176⟩
theorem lk_641 (n : Nat) (nm : String) : gLn "TrunkDuelLaw" nm (.invokevirtual 128, n, 110, 1, 0, 0, 0) := ⟨kw_760, mwV_110⟩
theorem lk_642 (n : Nat) (nm : String) : gLn "TrunkDuelLaw" nm (.invokevirtual 131, n, 234, 1, 0, 0, 0) := ⟨kw_1711, mwV_234⟩
theorem lk_643 (n : Nat) (nm : String) : gLn "TrunkDuelLaw" nm (.invokevirtual 132, n, 111, 1, 0, 0, 0) := ⟨kw_773, mwV_111⟩
theorem lk_644 (n : Nat) (nm : String) : gLn "TrunkDuelLaw" nm (.invokevirtual 135, n, 235, 1, 0, 0, 0) := ⟨kw_1712, mwV_235⟩
theorem lk_645 (n : Nat) (nm : String) : gLn "TrunkDuelLaw" nm (.invokevirtual 136, n, 112, 1, 0, 0, 0) := ⟨kw_783, mwV_112⟩
theorem lk_646 (n : Nat) (nm : String) : gLn "TrunkDuelLaw" nm (.invokevirtual 139, n, 236, 1, 0, 0, 0) := ⟨kw_1716, mwV_236⟩
theorem lk_647 (n : Nat) (nm : String) : gLn "TrunkDuelLaw" nm (.invokevirtual 140, n, 113, 1, 0, 0, 0) := ⟨kw_787, mwV_113⟩
theorem lk_648 (n : Nat) (nm : String) : gLn "TrunkDuelLaw" nm (.invokevirtual 143, n, 237, 1, 0, 0, 0) := ⟨kw_1724, mwV_237⟩
theorem lk_649 (n : Nat) (nm : String) : gLn "TrunkDuelLaw" nm (.invokestatic 144, n, 310, 6, 4, 24, 0) := ⟨kw_1064, mwS_310⟩
theorem lk_650 (n : Nat) (nm : String) : gLn "TrunkDuelLaw" nm (.invokevirtual 147, n, 242, 5, 0, 0, 0) := ⟨kw_1728, mwV_242⟩
theorem lk_651 (n : Nat) (nm : String) : gLn "TrunkDuelLaw" nm (.invokestatic 148, n, 311, 5, 3, 18, 0) := ⟨kw_1121, mwS_311⟩
theorem lk_652 (n : Nat) (nm : String) : gLn "TrunkDuelLaw" nm (.invokevirtual 151, n, 243, 4, 0, 0, 0) := ⟨kw_1738, mwV_243⟩
theorem lk_653 (n : Nat) (nm : String) : gLn "TrunkDuelLaw" nm (.invokestatic 152, n, 312, 2, 1, 6, 0) := ⟨kw_1138, mwS_312⟩
theorem lk_654 (n : Nat) (nm : String) : gLn "TrunkDuelLaw" nm (.invokevirtual 155, n, 244, 1, 0, 0, 0) := ⟨kw_1745, mwV_244⟩
theorem lk_655 (n : Nat) (nm : String) : gLn "TrunkDuelLaw" nm (.invokestatic 156, n, 313, 2, 1, 6, 0) := ⟨kw_1148, mwS_313⟩
theorem lk_656 (n : Nat) (nm : String) : gLn "TrunkDuelLaw" nm (.invokevirtual 158, n, 245, 1, 0, 0, 0) := ⟨kw_1749, mwV_245⟩
theorem lk_657 (n : Nat) (nm : String) : gLn "TrunkDuelLaw" nm (.invokestatic 159, n, 314, 3, 1, 6, 0) := ⟨kw_1160, mwS_314⟩
theorem lk_658 (n : Nat) (nm : String) : gLn "TrunkDuelLaw" nm (.invokevirtual 161, n, 246, 2, 0, 0, 0) := ⟨kw_1753, mwV_246⟩
theorem lk_659 (n : Nat) (nm : String) : gLn "TrunkDuelLaw" nm (.invokestatic 162, n, 315, 3, 2, 12, 0) := ⟨kw_1171, mwS_315⟩
theorem lk_660 (n : Nat) (nm : String) : gLn "TrunkDuelLaw" nm (.invokevirtual 164, n, 247, 2, 0, 0, 0) := ⟨kw_1757, mwV_247⟩
theorem lk_661 (n : Nat) (nm : String) : gLn "TrunkDuelLaw" nm (.invokevirtual 165, n, 120, 1, 0, 0, 0) := ⟨kw_791, mwV_120⟩
theorem lk_662 (n : Nat) (nm : String) : gLn "TrunkDuelLaw" nm (.invokevirtual 168, n, 250, 1, 0, 0, 0) := ⟨kw_1761, mwV_250⟩
theorem lk_663 (n : Nat) (nm : String) : gLn "TrunkDuelLaw" nm (.invokevirtual 169, n, 121, 1, 0, 0, 0) := ⟨kw_795, mwV_121⟩
theorem lk_664 (n : Nat) (nm : String) : gLn "TrunkDuelLaw" nm (.invokevirtual 172, n, 251, 1, 0, 0, 0) := ⟨kw_1765, mwV_251⟩
theorem lk_665 (n : Nat) (nm : String) : gLn "TrunkDuelLaw" nm (.invokevirtual 173, n, 122, 1, 0, 0, 0) := ⟨kw_799, mwV_122⟩
theorem lk_666 (n : Nat) (nm : String) : gLn "TrunkDuelLaw" nm (.invokevirtual 176, n, 252, 1, 0, 0, 0) := ⟨kw_1769, mwV_252⟩
theorem lk_667 (n : Nat) (nm : String) : gLn "TrunkDuelLaw" nm (.invokevirtual 177, n, 123, 1, 0, 0, 0) := ⟨kw_803, mwV_123⟩
theorem lk_668 (n : Nat) (nm : String) : gLn "TrunkDuelLaw" nm (.invokevirtual 180, n, 253, 1, 0, 0, 0) := ⟨kw_1773, mwV_253⟩
theorem lk_669 (n : Nat) (nm : String) : gLn "TrunkDuelLaw" nm (.invokevirtual 181, n, 124, 1, 0, 0, 0) := ⟨kw_807, mwV_124⟩
theorem lk_670 (n : Nat) (nm : String) : gLn "TrunkDuelLaw" nm (.invokevirtual 184, n, 254, 1, 0, 0, 0) := ⟨kw_1777, mwV_254⟩
theorem lk_671 (n : Nat) (nm : String) : gLn "TrunkDuelLaw" nm (.invokevirtual 185, n, 125, 1, 0, 0, 0) := ⟨kw_815, mwV_125⟩
theorem lk_672 (n : Nat) (nm : String) : gLn "TrunkDuelLaw" nm (.invokevirtual 188, n, 255, 1, 0, 0, 0) := ⟨kw_1781, mwV_255⟩
theorem lk_673 (n : Nat) (nm : String) : gLn "TrunkDuelLaw" nm (.invokevirtual 189, n, 126, 1, 0, 0, 0) := ⟨kw_820, mwV_126⟩
theorem lk_674 (n : Nat) (nm : String) : gLn "TrunkDuelLaw" nm (.invokevirtual 192, n, 256, 1, 0, 0, 0) := ⟨kw_1785, mwV_256⟩
theorem lk_675 (n : Nat) (nm : String) : gLn "TrunkDuelLaw" nm (.invokestatic 193, n, 316, 4, 1, 6, 0) := ⟨kw_1179, mwS_316⟩
theorem lk_676 (n : Nat) (nm : String) : gLn "TrunkDuelLaw" nm (.invokevirtual 196, n, 257, 3, 0, 0, 0) := ⟨kw_1789, mwV_257⟩
theorem lk_677 (n : Nat) (nm : String) : gLn "TrunkDuelLaw" nm (.invokestatic 197, n, 317, 4, 1, 6, 0) := ⟨kw_1186, mwS_317⟩
theorem lk_678 (n : Nat) (nm : String) : gLn "TrunkDuelLaw" nm (.invokevirtual 199, n, 258, 3, 0, 0, 0) := ⟨kw_1793, mwV_258⟩
theorem lk_679 (n : Nat) (nm : String) : gLn "TrunkDuelLaw" nm (.invokestatic 200, n, 318, 5, 2, 12, 0) := ⟨kw_1193, mwS_318⟩
theorem lk_680 (n : Nat) (nm : String) : gLn "TrunkDuelLaw" nm (.invokevirtual 202, n, 259, 4, 0, 0, 0) := ⟨kw_1797, mwV_259⟩
theorem lk_681 (n : Nat) (nm : String) : gLn "TrunkDuelLaw" nm (.invokestatic 203, n, 319, 3, 1, 6, 0) := ⟨kw_1201, mwS_319⟩
theorem lk_682 (n : Nat) (nm : String) : gLn "TrunkDuelLaw" nm (.invokevirtual 205, n, 260, 2, 0, 0, 0) := ⟨kw_1801, mwV_260⟩
theorem lk_683 (n : Nat) (nm : String) : gLn "TrunkDuelLaw" nm (.invokestatic 206, n, 320, 3, 1, 6, 0) := ⟨kw_1209, mwS_320⟩
theorem lk_684 (n : Nat) (nm : String) : gLn "TrunkDuelLaw" nm (.invokevirtual 208, n, 262, 2, 0, 0, 0) := ⟨kw_1805, mwV_262⟩
theorem lk_685 (n : Nat) (nm : String) : gLn "TrunkDuelLaw" nm (.invokestatic 209, n, 321, 3, 1, 6, 0) := ⟨kw_1221, mwS_321⟩
theorem lk_686 (n : Nat) (nm : String) : gLn "TrunkDuelLaw" nm (.invokevirtual 211, n, 263, 2, 0, 0, 0) := ⟨kw_1813, mwV_263⟩
theorem lk_687 (n : Nat) (nm : String) : gLn "TrunkDuelLaw" nm (.invokestatic 212, n, 322, 3, 1, 6, 0) := ⟨kw_1228, mwS_322⟩
theorem lk_688 (n : Nat) (nm : String) : gLn "TrunkDuelLaw" nm (.invokevirtual 214, n, 264, 2, 0, 0, 0) := ⟨kw_1817, mwV_264⟩
theorem lk_689 (n : Nat) (nm : String) : gLn "TrunkDuelLaw" nm (.invokestatic 215, n, 323, 3, 1, 6, 0) := ⟨kw_1235, mwS_323⟩
theorem lk_690 (n : Nat) (nm : String) : gLn "TrunkDuelLaw" nm (.invokevirtual 217, n, 265, 2, 0, 0, 0) := ⟨kw_1821, mwV_265⟩
theorem lk_691 (n : Nat) (nm : String) : gLn "TrunkDuelLaw" nm (.invokestatic 218, n, 324, 3, 1, 6, 0) := ⟨kw_1242, mwS_324⟩
theorem lk_692 (n : Nat) (nm : String) : gLn "TrunkDuelLaw" nm (.invokevirtual 220, n, 266, 2, 0, 0, 0) := ⟨kw_1825, mwV_266⟩
theorem lk_693 (n : Nat) (nm : String) : gLn "TrunkDuelLaw" nm (.invokestatic 221, n, 325, 3, 1, 6, 0) := ⟨kw_1253, mwS_325⟩
theorem lk_694 (n : Nat) (nm : String) : gLn "TrunkDuelLaw" nm (.invokevirtual 223, n, 267, 2, 0, 0, 0) := ⟨kw_1829, mwV_267⟩
theorem lk_695 (n : Nat) (nm : String) : gLn "TrunkDuelLaw" nm (.invokevirtual 224, n, 137, 1, 0, 0, 0) := ⟨kw_824, mwV_137⟩
theorem lk_696 (n : Nat) (nm : String) : gLn "TrunkDuelLaw" nm (.invokevirtual 227, n, 268, 1, 0, 0, 0) := ⟨kw_1833, mwV_268⟩
theorem lk_697 (n : Nat) (nm : String) : gLn "TrunkDuelLaw" nm (.invokevirtual 228, n, 138, 1, 0, 0, 0) := ⟨kw_829, mwV_138⟩
theorem lk_698 (n : Nat) (nm : String) : gLn "TrunkDuelLaw" nm (.invokevirtual 232, n, 269, 1, 0, 0, 0) := ⟨kw_1837, mwV_269⟩
theorem lk_699 (n : Nat) (nm : String) : gLn "TrunkDuelLaw" nm (.invokevirtual 233, n, 139, 1, 0, 0, 0) := ⟨kw_833, mwV_139⟩
theorem lk_700 (n : Nat) (nm : String) : gLn "TrunkDuelLaw" nm (.invokevirtual 236, n, 270, 1, 0, 0, 0) := ⟨kw_1841, mwV_270⟩
theorem lk_701 (n : Nat) (nm : String) : gLn "TrunkDuelLaw" nm (.invokestatic 237, n, 326, 3, 1, 6, 0) := ⟨kw_1260, mwS_326⟩
theorem lk_702 (n : Nat) (nm : String) : gLn "TrunkDuelLaw" nm (.invokevirtual 239, n, 271, 2, 0, 0, 0) := ⟨kw_1845, mwV_271⟩
theorem lk_703 (n : Nat) (nm : String) : gLn "TrunkDuelLaw" nm (.invokestatic 240, n, 327, 4, 2, 12, 0) := ⟨kw_1271, mwS_327⟩
theorem lk_704 (n : Nat) (nm : String) : gLn "TrunkDuelLaw" nm (.invokevirtual 242, n, 272, 3, 0, 0, 0) := ⟨kw_1852, mwV_272⟩
theorem lk_705 (n : Nat) (nm : String) : gLn "TrunkDuelLaw" nm (.invokestatic 243, n, 328, 3, 1, 6, 0) := ⟨kw_1279, mwS_328⟩
theorem lk_706 (n : Nat) (nm : String) : gLn "TrunkDuelLaw" nm (.invokevirtual 245, n, 273, 2, 0, 0, 0) := ⟨kw_1856, mwV_273⟩
theorem lk_707 (n : Nat) (nm : String) : gLn "TrunkDuelLaw" nm (.invokestatic 246, n, 329, 4, 1, 6, 0) := ⟨kw_1286, mwS_329⟩
theorem lk_708 (n : Nat) (nm : String) : gLn "TrunkDuelLaw" nm (.invokevirtual 248, n, 274, 3, 0, 0, 0) := ⟨kw_1860, mwV_274⟩
theorem lk_709 (n : Nat) (nm : String) : gLn "TrunkDuelLaw" nm (.invokestatic 249, n, 330, 6, 3, 18, 0) := ⟨kw_1297, mwS_330⟩
theorem lk_710 (n : Nat) (nm : String) : gLn "TrunkDuelLaw" nm (.invokevirtual 251, n, 276, 5, 0, 0, 0) := ⟨kw_1864, mwV_276⟩
theorem lk_711 (n : Nat) (nm : String) : gLn "TrunkDuelLaw" nm (.invokestatic 252, n, 331, 6, 3, 18, 0) := ⟨kw_1305, mwS_331⟩
theorem lk_712 (n : Nat) (nm : String) : gLn "TrunkDuelLaw" nm (.invokevirtual 254, n, 277, 5, 0, 0, 0) := ⟨kw_1872, mwV_277⟩
theorem lk_713 (n : Nat) (nm : String) : gLn "TrunkDuelLaw" nm (.invokestatic 255, n, 332, 6, 3, 18, 0) := ⟨kw_1312, mwS_332⟩
theorem lk_714 (n : Nat) (nm : String) : gLn "TrunkDuelLaw" nm (.invokevirtual 257, n, 278, 5, 0, 0, 0) := ⟨kw_1876, mwV_278⟩
theorem lk_715 (n : Nat) (nm : String) : gLn "TrunkDuelLaw" nm (.invokestatic 258, n, 333, 3, 1, 6, 0) := ⟨kw_1320, mwS_333⟩
theorem lk_716 (n : Nat) (nm : String) : gLn "TrunkDuelLaw" nm (.invokevirtual 260, n, 279, 2, 0, 0, 0) := ⟨kw_1880, mwV_279⟩
theorem lk_717 (n : Nat) (nm : String) : gLn "TrunkDuelLaw" nm (.invokestatic 261, n, 334, 3, 1, 6, 0) := ⟨kw_1337, mwS_334⟩
theorem lk_718 (n : Nat) (nm : String) : gLn "TrunkDuelLaw" nm (.invokevirtual 263, n, 280, 2, 0, 0, 0) := ⟨kw_1884, mwV_280⟩
theorem lk_719 (n : Nat) (nm : String) : gLn "TrunkDuelLaw" nm (.invokestatic 264, n, 335, 7, 4, 24, 0) := ⟨kw_1345, mwS_335⟩
theorem lk_720 (n : Nat) (nm : String) : gLn "TrunkDuelLaw" nm (.invokevirtual 267, n, 283, 6, 0, 0, 0) := ⟨kw_1888, mwV_283⟩
theorem lk_721 (n : Nat) (nm : String) : gLn "TrunkDuelLaw" nm (.invokevirtual 268, n, 150, 1, 0, 0, 0) := ⟨kw_837, mwV_150⟩
theorem lk_722 (n : Nat) (nm : String) : gLn "TrunkDuelLaw" nm (.invokevirtual 271, n, 286, 1, 0, 0, 0) := ⟨kw_1900, mwV_286⟩
theorem lk_723 (n : Nat) (nm : String) : gLn "TrunkDuelLaw" nm (.invokevirtual 272, n, 151, 1, 0, 0, 0) := ⟨kw_859, mwV_151⟩
theorem lk_724 (n : Nat) (nm : String) : gLn "TrunkDuelLaw" nm (.invokevirtual 275, n, 287, 1, 0, 0, 0) := ⟨kw_1912, mwV_287⟩
theorem lk_725 (n : Nat) (nm : String) : gLn "TrunkDuelLaw" nm (.invokevirtual 276, n, 152, 1, 0, 0, 0) := ⟨kw_863, mwV_152⟩
theorem lk_726 (n : Nat) (nm : String) : gLn "TrunkDuelLaw" nm (.invokevirtual 279, n, 288, 1, 0, 0, 0) := ⟨kw_1916, mwV_288⟩
theorem lk_727 (n : Nat) (nm : String) : gLn "TrunkDuelLaw" nm (.invokevirtual 280, n, 153, 1, 0, 0, 0) := ⟨kw_867, mwV_153⟩
theorem lk_728 (n : Nat) (nm : String) : gLn "TrunkDuelLaw" nm (.invokevirtual 283, n, 289, 1, 0, 0, 0) := ⟨kw_1920, mwV_289⟩
theorem lk_729 (n : Nat) (nm : String) : gLn "TrunkDuelLaw" nm (.invokevirtual 284, n, 154, 1, 0, 0, 0) := ⟨kw_871, mwV_154⟩
theorem lk_730 (n : Nat) (nm : String) : gLn "TrunkDuelLaw" nm (.invokevirtual 287, n, 290, 1, 0, 0, 0) := ⟨kw_1924, mwV_290⟩
theorem lk_731 (n : Nat) (nm : String) : gLn "TrunkDuelLaw" nm (.invokevirtual 288, n, 155, 1, 0, 0, 0) := ⟨kw_897, mwV_155⟩
theorem lk_732 (n : Nat) (nm : String) : gLn "TrunkDuelLaw" nm (.invokevirtual 291, n, 295, 1, 0, 0, 0) := ⟨kw_1928, mwV_295⟩
theorem lk_733 (n : Nat) (nm : String) : gLn "TrunkDuelLaw" nm (.invokevirtual 292, n, 156, 1, 0, 0, 0) := ⟨kw_915, mwV_156⟩
theorem lk_734 (n : Nat) (nm : String) : gLn "TrunkDuelLaw" nm (.invokevirtual 295, n, 296, 1, 0, 0, 0) := ⟨kw_1948, mwV_296⟩
theorem lk_735 (n : Nat) (nm : String) : gLn "TrunkDuelLaw" nm (.invokestatic 296, n, 336, 4, 1, 6, 0) := ⟨kw_1352, mwS_336⟩
theorem lk_736 (n : Nat) (nm : String) : gLn "TrunkDuelLaw" nm (.invokevirtual 298, n, 297, 3, 0, 0, 0) := ⟨kw_1956, mwV_297⟩
theorem lk_737 (n : Nat) (nm : String) : gLn "TrunkDuelLaw" nm (.invokestatic 299, n, 337, 4, 1, 6, 0) := ⟨kw_1364, mwS_337⟩
theorem lk_738 (n : Nat) (nm : String) : gLn "TrunkDuelLaw" nm (.invokevirtual 301, n, 300, 3, 0, 0, 0) := ⟨kw_1960, mwV_300⟩
theorem lk_739 (n : Nat) (nm : String) : gLn "TrunkDuelLaw" nm (.invokevirtual 302, n, 159, 1, 0, 0, 0) := ⟨kw_924, mwV_159⟩
theorem lk_740 (n : Nat) (nm : String) : gLn "TrunkDuelLaw" nm (.invokevirtual 305, n, 301, 1, 0, 0, 0) := ⟨kw_1972, mwV_301⟩
theorem lk_741 (n : Nat) (nm : String) : gLn "TrunkDuelLaw" nm (.invokevirtual 306, n, 160, 1, 0, 0, 0) := ⟨kw_928, mwV_160⟩
theorem lk_742 (n : Nat) (nm : String) : gLn "TrunkDuelLaw" nm (.invokevirtual 309, n, 303, 1, 0, 0, 0) := ⟨kw_1976, mwV_303⟩
theorem lk_743 (n : Nat) (nm : String) : gLn "TrunkDuelLaw" nm (.invokevirtual 310, n, 161, 1, 0, 0, 3) := ⟨kw_965, mwV_161⟩
theorem lk_744 (n : Nat) (nm : String) : gLn "TrunkDuelLaw" nm (.invokevirtual 314, n, 304, 1, 0, 0, 3) := ⟨kw_1988, mwV_304⟩
theorem lk_745 (n : Nat) (nm : String) : gLn "TrunkDuelLaw" nm (.invokevirtual 315, n, 162, 1, 0, 0, 4) := ⟨kw_969, mwV_162⟩
theorem lk_746 (n : Nat) (nm : String) : gLn "TrunkDuelLaw" nm (.invokevirtual 319, n, 305, 1, 0, 0, 4) := ⟨kw_1992, mwV_305⟩
theorem lk_747 (n : Nat) (nm : String) : gLn "TrunkDuelLaw" nm (.invokevirtual 320, n, 163, 1, 0, 0, 0) := ⟨kw_973, mwV_163⟩
theorem lk_748 (n : Nat) (nm : String) : gLn "TrunkDuelLaw" nm (.invokevirtual 323, n, 307, 1, 0, 0, 0) := ⟨kw_1996, mwV_307⟩
theorem lk_749 (n : Nat) (nm : String) : gLn "TrunkDuelLaw" nm (.invokevirtual 324, n, 164, 2, 0, 0, 0) := ⟨kw_985, mwV_164⟩
theorem lk_750 (n : Nat) (nm : String) : gLn "TrunkDuelLaw" nm (.invokevirtual 327, n, 308, 2, 0, 0, 0) := ⟨kw_2004, mwV_308⟩
