/-! ===== the JDK's StringBuilder: what its methods' contracts are made of ===== -/
def jPv : List MethodName := [yJ5_ensureCapacityInternal_d00df, yJ5_newCapacity_0f7a4, yJ5_putStringAt_47b60, yJ5_inflateIfNeededFor_a7421]
def jSel : List Cond := jPv.map fun y => Cond.selects RJ4 y y
def jw : List Cond := jSel ++ gw
theorem jwt (i : Nat) {w : Cond} (h : tables_1[i]? = some w) (g : goodWord w = true) : w ∈ jw := List.mem_append_right _ (gwt i h g)
theorem jwj (i : Nat) {w : Cond} (h : jSel[i]? = some w) : w ∈ jw := List.mem_append_left _ (List.mem_of_getElem? h)
theorem jSel_good : ∀ w ∈ jSel, goodWord w = true := by decide +kernel
theorem jGood {l : List Cond} (h : ∀ w ∈ l, w ∈ jw) : GoodIn jw l := fun w hw => ⟨h w hw, good_of_word (by
  rcases List.mem_append.mp (h w hw) with q | q
  · exact jSel_good w q
  · exact (List.mem_filter.mp q).2)⟩
/-- a private method of the superclass is selected by itself -/
theorem j_selp {C : String} {y y0 : MethodName} {s : State} {args : Array Value} {n : Nat} (hy : y.cls ≠ "java/lang/invoke/MethodHandle" ∧ y.cls ≠ "java/lang/invoke/VarHandle") (hc : y0.cls = y.cls)
    (hins : (Cond.instantiable C n).before args s = true) (hpriv : (Cond.privateMethod y).before args s = true) (hinst : (Cond.instanceMethod y).before args s = true) (hinst0 : (Cond.instanceMethod y0).before args s = true) (h0 : (Cond.selects C y0 y0).before args s = true) :
    (Cond.selects C y y).before args s = true := by
  obtain ⟨c, k, hcf, hk, -, hniab, -, -⟩ := Cond.instantiable_spec hins
  obtain ⟨mk, methM, hnamed, hmethM, -, -⟩ := Cond.instanceMethod_spec hinst
  obtain ⟨mk0, methM0, hnamed0, hmethM0, -, -⟩ := Cond.instanceMethod_spec hinst0
  have hfound : s.methodFound? y.cls y.name y.desc = some mk := State.methodFound?_of_named hnamed hy
  have hfound0 : s.methodFound? y0.cls y0.name y0.desc = some mk0 := State.methodFound?_of_named hnamed0 (by rw [hc]; exact hy)
  have hcls : mk.cls = mk0.cls := Option.some.inj ((findClass_of_methodNamed hnamed).symm.trans ((congrArg s.vm.findClass hc.symm).trans (findClass_of_methodNamed hnamed0)))
  have hsel : selectMethod {} s.vm c mk = .method mk := selectMethod_private hmethM (Cond.privateMethod_at hpriv mk methM hnamed hmethM)
  simp only [Cond.before, Cond.holds, Cond.value, hcf, hfound0, hnamed0] at h0
  have h1 : (s.vm.classes[mk0.cls]?).any (!·.isInterface) = true := by
    cases q : selectMethod {} s.vm c mk0 with
    | method m' => rw [q] at h0; simp at h0; simpa using h0.2
    | _ => rw [q] at h0; simp at h0
  simp only [Cond.before, Cond.holds, Cond.value, hcf, hfound, hnamed, hsel]
  rw [hcls, h1]
  simp
theorem jPv_all : ∀ y ∈ jPv, (y.cls ≠ "java/lang/invoke/MethodHandle" ∧ y.cls ≠ "java/lang/invoke/VarHandle") ∧ yJ5_isLatin1_aae02.cls = y.cls := by decide +kernel
theorem lwt (i : Nat) {w : Cond} (h : tables_1[i]? = some w) : w ∈ lw_tbl := List.mem_append_right _ (List.mem_of_getElem? h)
theorem jts {args : Array Value} {s : State} (h : ∀ w ∈ lw_tbl, w.before args s = true) : ∀ w ∈ jw, w.before args s = true := by
  have key : ∀ y ∈ jPv, (Cond.privateMethod y).before args s = true → (Cond.instanceMethod y).before args s = true → (Cond.selects RJ4 y y).before args s = true := fun y hy h1 h2 =>
    j_selp (y0 := yJ5_isLatin1_aae02) (n := 4) (jPv_all y hy).1 (jPv_all y hy).2 (h _ (lwt 1316 (by decide +kernel))) h1 h2 (h _ (lwt 1381 (by decide +kernel))) (h _ (lwt 1383 (by decide +kernel)))
  intro w hw
  rcases List.mem_append.mp hw with q | q
  · obtain ⟨y, hy, rfl⟩ := List.mem_map.mp q
    refine key y hy ?_ ?_
    · simp only [jPv, List.mem_cons, List.not_mem_nil, or_false] at hy
      rcases hy with rfl | rfl | rfl | rfl
      · exact h _ (lwt 1353 (by decide +kernel))
      · exact h _ (lwt 1357 (by decide +kernel))
      · exact h _ (lwt 1402 (by decide +kernel))
      · exact h _ (lwt 1406 (by decide +kernel))
    · simp only [jPv, List.mem_cons, List.not_mem_nil, or_false] at hy
      rcases hy with rfl | rfl | rfl | rfl
      · exact h _ (lwt 1354 (by decide +kernel))
      · exact h _ (lwt 1358 (by decide +kernel))
      · exact h _ (lwt 1403 (by decide +kernel))
      · exact h _ (lwt 1407 (by decide +kernel))
  · exact h _ (List.mem_filter.mp q).1
abbrev jWs (y : MethodName) (c : ByteArray) (n : Nat) (r : Option FieldType) : List Cond := Cond.code y c n r :: jw
theorem jgw : ∀ w ∈ gw, w ∈ jw := fun _ h => List.mem_append_right _ h
/-- the classes of the worlds: a builder, a String -/
abbrev jCl : List vw_C := [(RJ4, TJ4, 4), (RJ0, TJ0, 4)]
theorem j4_in : ∀ w ∈ u_ws RJ4 TJ4 4, w ∈ jw := List.forall_mem_cons.mpr ⟨jwt 1438 (by decide +kernel) rfl, List.forall_mem_cons.mpr ⟨jwt 1440 (by decide +kernel) rfl, List.forall_mem_cons.mpr ⟨jwt 1442 (by decide +kernel) rfl, List.forall_mem_cons.mpr ⟨jwt 1444 (by decide +kernel) rfl, fun _ h => nomatch h⟩⟩⟩⟩
theorem j0_in : ∀ w ∈ u_ws RJ0 TJ0 4, w ∈ jw := List.forall_mem_cons.mpr ⟨jwt 1546 (by decide +kernel) rfl, List.forall_mem_cons.mpr ⟨jwt 1548 (by decide +kernel) rfl, List.forall_mem_cons.mpr ⟨jwt 1550 (by decide +kernel) rfl, List.forall_mem_cons.mpr ⟨jwt 1552 (by decide +kernel) rfl, fun _ h => nomatch h⟩⟩⟩⟩
/-- a builder: its row, its letters -/
abbrev jS (sb v : Nat) (ml n : Int32) : Nat × va_E := (sb, .inr (0, [.ref v, .int 0, .int ml, .int n]))
abbrev jV (cB : ClassId) (v : Nat) (a : Nat → Int32) (m : Nat) : Nat × va_E := (v, .inl (cB, m, .inl a))
abbrev jW (cB : ClassId) (sb v : Nat) (ml n : Int32) (a : Nat → Int32) (m : Nat) : va_W := [jS sb v ml n, jV cB v a m]
/-- what a builder's method may change -/
def jF (sb v sz : Nat) : Nat → Prop := fun q => q = sb ∨ q = v ∨ sz ≤ q
theorem va_S.up {A B : Nat → Prop} {H0 H : Heap} {locs : List Loc} (h : va_S A H0 H locs) (hAB : ∀ q, A q → B q) : va_S B H0 H locs := ⟨h.1, fun q h1 h2 => h.2.1 q h1 fun z => h2 (hAB q z), fun q hq => hAB _ (h.2.2 q hq)⟩
theorem jF_D {cB : ClassId} {sb v sz : Nat} {ml n : Int32} {a : Nat → Int32} {m : Nat} (h : va_D (fun _ => True) (jW cB sb v ml n a m)) : va_D (jF sb v sz) (jW cB sb v ml n a m) := ⟨h.1, fun k q hk => by
  match k with
  | 0 => cases hk; exact Or.inl rfl
  | 1 => cases hk; exact Or.inr (Or.inl rfl)
  | k + 2 => cases hk⟩
theorem jF_sub {sb v v' sz sz' : Nat} (hv : jF sb v sz v') (hs : sz ≤ sz') : ∀ q, jF sb v' sz' q → jF sb v sz q := fun q h => by
  rcases h with rfl | rfl | h
  · exact Or.inl rfl
  · exact hv
  · exact Or.inr (Or.inr (Nat.le_trans hs h))
section
variable {z : Nat} {ro : Nat → Nat} {cA : FieldType → ClassId} {D DJ : va_G} {roArr : Nat → Option (Nat × (Nat → Int32))}
/-- a builder's method's start -/
def jPre (z : Nat) (ro : Nat → Nat) (cA : FieldType → ClassId) (D : va_G) (roArr : Nat → Option (Nat × (Nat → Int32))) (DJ : va_G) (sz : Nat) (ws : va_W) (U : State) : Prop :=
  gEnv z ro cA D roArr U U.heap ∧ U.heap.size = sz ∧ va_K DJ jCl [(cA .byte, .byte)] U ∧ va_P DJ jCl ws U.heap ∧ va_D (fun _ => True) ws
theorem jPre.blind {sz : Nat} {ws : va_W} {U : State} {g : JFrame} {mk : MethodId} {a : Array Value} (h : jPre z ro cA D roArr DJ sz ws U) : jPre z ro cA D roArr DJ sz ws (U.calling g mk a) := ⟨gEnv.blind h.1, h.2.1, va_K.moved (u := U) (U := U.calling g mk a) (Vm.Alike.refl U.vm) h.2.2.1, h.2.2.2.1, h.2.2.2.2⟩
theorem jPre.to {s U : State} {H : Heap} {locs : List Loc} {ws : va_W} {A : Nat → Prop} (hU : U.heap = H) (hW : s.WarmedH U.vm) (hE : gEnv z ro cA D roArr s s.heap) (hS : va_S (gA z ro) s.heap H locs) (hK : va_K DJ jCl [(cA .byte, .byte)] s) (hP : va_P DJ jCl ws H) (hD : va_D A ws) : jPre z ro cA D roArr DJ H.size ws U :=
  ⟨hE.to hW (fun q h1 h2 => by rw [hU]; exact hS.2.1 q h1 h2), by rw [hU], hK.moved hW.alike, by rw [hU]; exact hP, hD.weaken fun _ _ _ _ => trivial⟩
theorem gTx.up {tx : List Nat} {a : Nat} {s U : State} {H : Heap} {locs : List Loc} (hU : U.heap = H) (hW : s.WarmedH U.vm) (h : gTx tx a (gA z ro) s s.heap) (hS : va_S (gA z ro) s.heap H locs) : gTx tx a (gA z ro) U U.heap := by
  obtain ⟨v, h1, h2, h3, h4⟩ := h
  rw [hU]
  exact ⟨v, (h1.moved hW.alike).kept hS.2.1, (h2.moved hW.alike).kept hS.2.1, (h3.moved hW.alike).kept hS.2.1, (h4.moved hW.alike).kept hS.2.1⟩
end
