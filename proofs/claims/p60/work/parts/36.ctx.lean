/-! ===== what stays of a method's frame; rows of fields, makings, copies over the ghost heap ===== -/
def gCtx (z : Nat) (ro : Nat → Nat) (cA : FieldType → ClassId) (D : va_G) (roArr : Nat → Option (Nat × (Nat → Int32))) (m : Nat) (p : Program) (l : Launch) (R : Room) (s : State) (mid : MethodId) (args : Array Value) (meth : Method) (c : Code) : Prop :=
  p.tables.exec = Jvm.exec ∧ c.code = gCode m ∧ c.maxLocals = gMaxL m ∧ meth.sig.returnType = gRet m ∧ s.vm.findClass (gY m).cls = some mid.cls ∧ (∀ w ∈ gw, w.before args s = true) ∧ meth.locks = false ∧ meth.name = (gY m).name ∧ gEnv z ro cA D roArr s s.heap ∧ l.stackTraces = false ∧ c.exceptionTable.toList = tableOf (gHT m) ∧ gFrames m ≤ R.frames ∧ gLocs m ≤ R.locals
theorem vp_size_any (cB : ClassId) (a : vp_A) : (vp_cell cB a).slots.size = a.1 := by
  rcases a with ⟨n, f | f | f | f | f⟩
  · rw [vp_cell_i, arrV_size]
  · rw [vp_cell_l, arrV_size]
  · show (arrV _ _ _).slots.size = _
    rw [arrV_size]
  · show (arrV _ _ _).slots.size = _
    rw [arrV_size]
  · rw [vp_cell_q, arrV_size]
theorem va_nn {x : Int32} (hx : ¬ x < 0) : x.toInt = (x.toNatClampNeg : Int) := by
  have hz0 : (0 : Int) ≤ x.toInt := by
    have := Int32.not_lt.mp hx
    simpa using Int32.le_iff_toInt_le.mp this
  show x.toInt = ((x.toInt.toNat : Nat) : Int)
  omega
section GRows2
variable {p : Program} {l : Launch} {e : Env} {R : Room} {s : State} {m : MethodId} {args : Array Value} {below : List Frame} {meth : Method} {c : Code} {H : Heap} {locs : List Loc} {cells slots : Nat} {Q : State → Prop}
variable {cc : ByteArray} {pc : Nat} {ls : Array Slot} {rest : List Value}
variable {z : Nat} {ro : Nat → Nat} {cA : FieldType → ClassId} {D : va_G} {roArr : Nat → Option (Nat × (Nat → Int32))} {G : GH}
/-- putfield, of a field that is final or isn't -/
theorem g_put (hx : p.tables.exec = Jvm.exec) (hb : c.code = cc) {own C : String} {T : u_T} {N ci index k o : Nat} {fs : List Value} {v : Value} {ty : FieldType} (hts : ∀ w ∈ gw, w.before args s = true) (hin : ∀ w ∈ u_ws C T N, w ∈ gw) (ty0 : Nat → FieldType) (hty : ∀ k, k < N → parseFieldDescriptor (T k).2.2.1 = some (ty0 k)) (hnm : ∀ a, a < N → ∀ b, b < N → a ≠ b → (T a).2.1 ≠ (T b).2.1)
    (hown : s.vm.findClass own = some m.cls) (hK : va_K D vwCl (gTys cA) s) (hr : gRep z ro cA D roArr G H) (hS : va_S (gA z ro) s.heap H locs) (ho : o < gRB) (hG : G.2 o = some (.inl (ci, fs))) (hc : vwCl[ci]? = some (C, T, N)) (hk : k < N) (hT : (T k).1 = C)
    (hlink : (Cond.fieldLink own index C (T k).2.1 (T k).2.2.1).before args s = true) (hfin : (T k).2.2.2 = true → C = own ∧ meth.name = "<init>") (hd : parseFieldDescriptor (T k).2.2.1 = some ty) (hn : narrow ty (gv z ro v) = gv z ro v) (hfit : fits ty (gv z ro v) = true) (hdg : decode cc pc = .ok (.putfield index, 3))
    (kk : ∀ H1 locs1, gRep z ro cA D roArr (gU G o (.inl (ci, fs.set k v))) H1 → va_S (gA z ro) s.heap H1 locs1 → W p l e R s m args below meth c H1 locs1 cells slots Q (F0 m (pc + 3) ls rest)) :
    W p l e R s m args below meth c H locs cells slots Q (F0 m pc ls (gv z ro v :: .ref (gAd z ro o) :: rest)) := by
  obtain ⟨n', h1, h2, h3, hP, hw⟩ := hr.at ho hG
  have hlen : fs.length = N := by
    obtain ⟨_, _, _, _, _, _, h6⟩ := hr
    obtain ⟨q, a, b⟩ := h6 o ci fs ho hG
    rw [hc] at a
    cases a
    exact b
  have hl : k < (fs.map (gv z ro)).length := by simp [hlen, hk]
  have hap := va_apart (own := own) hts hin ty0 hty hnm hK hc
  obtain ⟨r, e1, cell, q1, q2, q3, q4⟩ := hP _ _ hw
  have hr' : r = (C, T, N) := Option.some.inj (e1.symm.trans hc)
  subst hr'
  obtain ⟨hSl, hfc, kC, hkC, hkind⟩ := hK.1 ci _ hc
  obtain ⟨cf, kf, fi, f, hi, hsl⟩ := hSl k hk
  have hlay := hts _ (hin _ (u_in_lay hk))
  have hst := (u_facts hfc hkC (u_lays hts hin hk) hi).1
  have hsame : ∀ x, s.fieldFound? (T k).1 (T k).2.1 (T k).2.2.1 = some x → s.fieldFound? C (T k).2.1 (T k).2.2.1 = some x := fun x hx => by rw [hT] at hx; exact hx
  have fin : ∀ H' : Heap, H'[gAd z ro o]? = some (cell.setSlot f.slot (gv z ro v)) → H'.size = H.size → (∀ q, q ≠ gAd z ro o → H'[q]? = H[q]?) → W p l e R s m args below meth c H' (locs ++ [⟨gAd z ro o, f.slot⟩]) cells slots Q (F0 m (pc + 3) ls rest) := by
    intro H' e1 e2 e3
    refine kk H' _ (hr.store ho hG e2 (fun n a b hP2 => ?_) (fun ci' fs' h => by cases h; exact ⟨_, hc, by simp [hlen]⟩)) (hS.put e2 e3 (g_gA ho h1 h2))
    rw [hsl] at e1
    have key := hP2.set (D := D) (gWorld_D a) (gWorld_at2 ho hG b) (e := .inr (ci, (fs.map (gv z ro)).set k (gv z ro v))) (H1 := H') ⟨_, hc, t_OB.to (V := updV (vp_V (fs.map (gv z ro))) k (gv z ro v)) ⟨_, e1, q2, q3, t_set q4 hap hk _⟩ (fun j _ => vp_updV_set hl _ j)⟩ e3
    rw [← List.map_set] at key
    exact key
  cases hf : (T k).2.2.2 with
  | false =>
    unfold u_lay at hlay
    rw [if_neg (by rw [hf]; decide)] at hlay
    have h6 := u_store hfc hkC hkind hlay hi hd hn hfit
    exact W.putK hx hb (f := f) ⟨hown, hlink, ⟨_, _, _, hsame _ hi⟩, hst⟩ (by rw [q2]; exact h6) q1 q3 (by rw [hsl]; exact k2_hasslot (q4 k hk)) rfl rfl hdg fin
  | true =>
    obtain ⟨f1, f2⟩ := hfin hf
    unfold u_lay at hlay
    rw [if_pos hf] at hlay
    have hcf : m.cls = cf := by
      obtain ⟨_, _, c', _, _, _, -, -, hf', -, -, -, hown2, -⟩ := Cond.laysFinal_spec hlay
      have e1 : c' = cf := by have := hi.symm.trans hf'; simp at this; exact this.1.symm
      rw [hT, f1] at hown2
      rw [← e1]; exact Option.some.inj (hown.symm.trans hown2)
    have h6 := u_fits hfc hkC hkind (Or.inr hlay) hi hd hn hfit
    exact W.putFinK hx hb hown hlink (hsame _ hi) hst hcf f2 (by rw [q2]; exact h6) q1 q3 (by rw [hsl]; exact k2_hasslot (q4 k hk)) rfl rfl hdg fin
theorem g_push_S {H1 : Heap} (hS : va_S (gA z ro) s.heap H locs) (z1 : H1.size = H.size + 1) (o1 : ∀ q : Nat, q < H.size → H1[q]? = H[q]?) : va_S (gA z ro) s.heap H1 locs :=
  ⟨Nat.le_trans hS.1 (by omega), fun x h1 h2 => (o1 x (Nat.lt_of_lt_of_le h1 hS.1)).trans (hS.2.1 x h1 h2), hS.2.2⟩
theorem g_push_P {H1 : Heap} {n : Nat} {w : va_E} (hP : va_P D vwCl (gWorld z ro cA G n) H) (hn : H.size = z + n + 1) (o1 : ∀ q : Nat, q < H.size → H1[q]? = H[q]?) (hq : va_at D vwCl (H.size, w) H1) : va_P D vwCl (gWorld z ro cA G n ++ [(z + (n + 1), w)]) H1 := by
  have hk : ∀ (k : Nat) (x : Nat × va_E), (gWorld z ro cA G n)[k]? = some x → H1[x.1]? = H[x.1]? := fun k x hx => o1 x.1 ((hP k x hx).lt)
  refine (hP.kept hk).app (fun k x hx => ?_)
  have hz : k < 1 := (List.getElem?_eq_some_iff.mp hx).1
  rw [show k = 0 by omega] at hx
  cases hx
  rw [show z + (n + 1) = H.size by omega]
  exact hq
theorem gv_default (z : Nat) (ro : Nat → Nat) (ty : FieldType) : gv z ro (defaultValue ty) = defaultValue ty := by cases ty <;> rfl
/-- a new object -/
theorem g_new (hx : p.tables.exec = Jvm.exec) (hb : c.code = cc) {own C : String} {T : u_T} {N ci index : Nat} {fs : List Value} (hts : ∀ w ∈ gw, w.before args s = true) (hin : ∀ w ∈ u_ws C T N, w ∈ gw) (ty : Nat → FieldType) (hty : ∀ k, k < N → parseFieldDescriptor (T k).2.2.1 = some (ty k)) (hlen : fs.length = N) (hfs : ∀ k, k < N → defaultValue (ty k) = vp_V fs k)
    (hown : s.vm.findClass own = some m.cls) (hcl : (Cond.classLink own index C).before args s = true) (hinst : (Cond.instantiable C N).before args s = true) (hini : (Cond.initialized C).before args s = true)
    (hK : va_K D vwCl (gTys cA) s) (hr : gRep z ro cA D roArr G H) (hS : va_S (gA z ro) s.heap H locs) (h0 : 0 < G.1) (hlt : G.1 < gRB) (hc : vwCl[ci]? = some (C, T, N)) (hcells : cells + 1 ≤ R.cells) (hslots : slots + N ≤ R.slots) (hdg : decode cc pc = .ok (.new index, 3))
    (kk : ∀ H1, gRep z ro cA D roArr (gPush G (.inl (ci, fs))) H1 → va_S (gA z ro) s.heap H1 locs → W p l e R s m args below meth c H1 locs (cells + 1) (slots + N) Q (F0 m (pc + 3) ls (.ref (gAd z ro G.1) :: rest))) :
    W p l e R s m args below meth c H locs cells slots Q (F0 m pc ls rest) := by
  have hKn := hK.1 ci _ hc
  refine W.newcK hx hb hown hcl hinst hini rfl hdg hcells hslots hKn.2.1 rfl fun H1 kC hkC e1 z1 o1 => ?_
  have hfs2 : ∀ j, j < N → defaultValue (ty j) = vp_V (fs.map (gv z ro)) j := by
    intro j hj
    have e := hfs j hj
    have hj2 : fs[j]? = some (defaultValue (ty j)) := by
      rw [e]
      have hjl : j < fs.length := by omega
      simp [vp_V, List.getElem?_eq_getElem hjl]
    show defaultValue (ty j) = (fs.map (gv z ro)).getD j .null
    rw [List.getD_eq_getElem?_getD, List.getElem?_map, hj2]
    exact (gv_default z ro (ty j)).symm
  obtain ⟨r1, r2⟩ := hr.push (c := .inl (ci, fs)) (H1 := H1) h0 hlt z1 (fun n hn hP => g_push_P hP hn o1 ⟨_, hc, (u_born ty hts hin hKn hkC e1 hty).to hfs2⟩) (fun ci' fs' h => by cases h; exact ⟨_, hc, hlen⟩)
  rw [← r2]
  exact kk H1 r1 (g_push_S hS z1 o1)
/-- a new array of numbers -/
theorem g_newa (hx : p.tables.exec = Jvm.exec) (hb : c.code = cc) {atype : ArrayType} (harr : (Cond.arrayClass (newarray.typeOf atype)).before args s = true) {ty : FieldType} (hty : newarray.typeOf atype = ty) {i0 : Nat} (hi : gTy[i0]? = some ty)
    (hK : va_K D vwCl (gTys cA) s) (hr : gRep z ro cA D roArr G H) (hS : va_S (gA z ro) s.heap H locs) (h0 : 0 < G.1) (hlt : G.1 < gRB) {N : Nat} {a0 : vp_A} (ha : ∀ cB : ClassId, vp_cell cB a0 = arrV cB N (fun _ => defaultValue ty)) (hga : gAr z ro a0 = a0) (hN : N ≤ 100000) (hcells : cells + 1 ≤ R.cells) (hslots : slots + N ≤ R.slots) (hdg : decode cc pc = .ok (.newarray atype, 2))
    (kk : ∀ H1, gRep z ro cA D roArr (gPush G (.inr (ty, a0))) H1 → va_S (gA z ro) s.heap H1 locs → W p l e R s m args below meth c H1 locs (cells + 1) (slots + N) Q (F0 m (pc + 2) ls (.ref (gAd z ro G.1) :: rest))) :
    W p l e R s m args below meth c H locs cells slots Q (F0 m pc ls (.int (nI N) :: rest)) := by
  subst hty
  have hN31 : N < 2 ^ 31 := by omega
  have hbytes : N * componentBytes (newarray.typeOf atype) ≤ 536870912 := by
    have : componentBytes (newarray.typeOf atype) ≤ 8 := by cases atype <;> decide
    calc N * componentBytes (newarray.typeOf atype) ≤ 100000 * 8 := Nat.mul_le_mul hN this
      _ ≤ 536870912 := by decide
  refine va_newaK hx hb harr rfl hdg rfl (nI_pos hN31) (nI_clamp hN31) hbytes hcells hslots rfl fun H1 cB e1 z1 o1 hAr hNm => ?_
  have hcB : cB = cA (newarray.typeOf atype) := by
    have h2 := (g_arr hK hi).2
    cases atype <;> exact Option.some.inj (hNm.symm.trans h2)
  subst hcB
  obtain ⟨r1, r2⟩ := hr.push (c := .inr (newarray.typeOf atype, a0)) (H1 := H1) h0 hlt z1 (fun n hn hP => g_push_P hP hn o1 (by
    show H1[H.size]? = some (vp_cell _ _)
    rw [hga, ha]
    exact e1)) g_noobj
  rw [← r2]
  exact kk H1 r1 (g_push_S hS z1 o1)
/-- a new array of State references -/
theorem g_newq (hx : p.tables.exec = Jvm.exec) (hb : c.code = cc) {own : String} {index : Nat} (hown : s.vm.findClass own = some m.cls) (hclink : (Cond.classLink own index "TrunkDuel$State").before args s = true) (hover : va_AO "TrunkDuel$State" s)
    (hK : va_K D vwCl (gTys cA) s) (hr : gRep z ro cA D roArr G H) (hS : va_S (gA z ro) s.heap H locs) (h0 : 0 < G.1) (hlt : G.1 < gRB) {N : Nat} (hN : N ≤ 100000) (hcells : cells + 1 ≤ R.cells) (hslots : slots + N ≤ R.slots) (hdg : decode cc pc = .ok (.anewarray index, 3))
    (kk : ∀ H1, gRep z ro cA D roArr (gPush G (.inr (.object "TrunkDuel$State", N, .inr (.inr (.inr (.inr fun _ => none)))))) H1 → va_S (gA z ro) s.heap H1 locs → W p l e R s m args below meth c H1 locs (cells + 1) (slots + N) Q (F0 m (pc + 3) ls (.ref (gAd z ro G.1) :: rest))) :
    W p l e R s m args below meth c H locs cells slots Q (F0 m pc ls (.int (nI N) :: rest)) := by
  have hN31 : N < 2 ^ 31 := by omega
  refine W.anew hx hb hown hclink (va_AO.use hover) rfl hdg rfl (nI_pos hN31) (by rw [nI_clamp hN31]; omega) hcells (by rw [nI_clamp hN31]; exact hslots) fun cB kA comp f1 f2 f3 f4 => ?_
  rw [nI_clamp hN31]
  generalize hH1 : H.push ({ cls := cB, slots := Array.replicate N .null, vm := .none } : Cell) = H1
  have z1 : H1.size = H.size + 1 := by rw [← hH1, Array.size_push]
  have e1 : H1[H.size]? = some (arrV cB N (fun _ => .null)) := by rw [← hH1, Array.getElem?_push_size, ← arrV_new]
  have o1 : ∀ q : Nat, q < H.size → H1[q]? = H[q]? := fun q hq => by rw [← hH1, Array.getElem?_push, if_neg (Nat.ne_of_lt hq)]
  have hcB : cB = cA (.object "TrunkDuel$State") := by
    obtain ⟨kA', comp', k1, k2, k3, k4⟩ := (g_arr hK (i := 3) rfl).2
    exact Option.some.inj (f1.symm.trans k4)
  subst hcB
  obtain ⟨r1, r2⟩ := hr.push (c := .inr (.object "TrunkDuel$State", N, .inr (.inr (.inr (.inr fun _ => none))))) (H1 := H1) h0 hlt z1 (fun n hn hP => g_push_P hP hn o1 (by
    show H1[H.size]? = some (vp_cell _ (N, .inr (.inr (.inr (.inr _)))))
    rw [vp_cell_q]
    exact e1)) g_noobj
  rw [← r2]
  exact kk H1 r1 (g_push_S hS z1 o1)
theorem g_isArr (hK : va_K D vwCl (gTys cA) s) {ty : FieldType} (h : ty = .int ∨ ty = .boolean) (n : Nat) (f : Nat → Int32) : s.isArrayOf (vp_cell (cA ty) (n, .inl f)) ty := by
  rw [vp_cell_i]
  rcases h with rfl | rfl
  · exact (g_arr hK (i := 0) rfl).1 n _
  · exact (g_arr hK (i := 1) rfl).1 n _
/-- System.arraycopy between two rows of one kind -/
theorem g_copy (hx : p.tables.exec = Jvm.exec) (hb : c.code = cc) (hml : c.maxLocals = ls.size) {own : String} {index : Nat} (hown : s.vm.findClass own = some m.cls) (hlink : (Cond.methodLink own index arraycopyName).before args s = true) (hnat : (Cond.native arraycopyName).before args s = true) (hstat : (Cond.static arraycopyName).before args s = true) (hini : (Cond.initialized "java/lang/System").before args s = true)
    (hK : va_K D vwCl (gTys cA) s) (hr : gRep z ro cA D roArr G H) (hS : va_S (gA z ro) s.heap H locs) {o q : Nat} {ty : FieldType} {m0 m1 : Nat} {f g : Nat → Int32} (ho : o < gRB) (hq : q < gRB) (hG0 : G.2 o = some (.inr (ty, m0, .inl f))) (hG1 : G.2 q = some (.inr (ty, m1, .inl g))) (hty : ty = .int ∨ ty = .boolean ∧ ∀ i, f i = nI 0 ∨ f i = nI 1)
    {ka da sa : Nat} (b1 : ka < 2 ^ 31) (b2 : da < 2 ^ 31) (b3 : sa < 2 ^ 31) (c1 : sa + ka ≤ m0) (c2 : da + ka ≤ m1) (hframes : 1 ≤ R.frames) (hlocals : (rest.map fun v => v.category).sum + (nativeFrameWords "java/lang/System" "arraycopy" 5 + 11) ≤ R.locals) (hdg : decode cc pc = .ok (.invokestatic index, 3))
    (kk : ∀ H1 locs1, gRep z ro cA D roArr (gU G q (.inr (ty, m1, .inl (va_cpy f g sa da ka)))) H1 → va_S (gA z ro) s.heap H1 locs1 → W p l e R s m args below meth c H1 locs1 cells slots Q (F0 m (pc + 3) ls rest)) :
    W p l e R s m args below meth c H locs cells slots Q (F0 m pc ls (.int (nI ka) :: .int (nI da) :: .ref (gAd z ro q) :: .int (nI sa) :: .ref (gAd z ro o) :: rest)) := by
  have hty' : ty = .int ∨ ty = .boolean := hty.imp id And.left
  intro T hT X
  obtain ⟨n0, h1, h2, h3, hP0, hw0⟩ := hr.at ho hG0
  obtain ⟨n1, h4, h5, h6, hP1, hw1⟩ := hr.at hq hG1
  have hc0 : H[gAd z ro o]? = some (vp_cell (cA ty) (m0, .inl f)) := hP0 _ _ hw0
  have hc1 : H[gAd z ro q]? = some (vp_cell (cA ty) (m1, .inl g)) := hP1 _ _ hw1
  obtain ⟨-, k0, hk0, cm0, hkk0⟩ := g_isArr hK hty' m0 f
  obtain ⟨-, k1, hk1, cm1, hkk1⟩ := g_isArr hK hty' m1 g
  have hpr : refKind ty = false := by rcases hty' with rfl | rfl <;> rfl
  obtain ⟨vm', X', step⟩ := X.arraycopy hx hown hlink hnat hstat hini (src := gAd z ro o) (dst := gAd z ro q) (cs := vp_cell (cA ty) (m0, .inl f)) (cd := vp_cell (cA ty) (m1, .inl g)) (srcPos := nI sa) (destPos := nI da) (n := nI ka) (by rw [hT]; exact hc0) (by rw [hT]; exact hc1)
    (fun _ h => by cases h) (fun _ h => by cases h) (fun h => by cases h) (fun h => by cases h) hk0 hk1 hkk0 hkk1 (by rcases hty' with rfl | rfl <;> simp [refKind]) (nI_pos b3) (nI_pos b2) (nI_pos b1)
    (by rw [va_nn (nI_pos b3), va_nn (nI_pos b1), nI_clamp b3, nI_clamp b1, vp_size_any]; show ¬ ((sa : Int) + ka > (m0 : Int)); omega)
    (by rw [va_nn (nI_pos b2), va_nn (nI_pos b1), nI_clamp b2, nI_clamp b1, vp_size_any]; show ¬ ((da : Int) + ka > (m1 : Int)); omega)
    (fun vm₁ _ i hi => by
      rw [nI_clamp b1] at hi
      have e : (vp_cell (cA ty) (m0, .inl f)).slots.getD ((nI sa).toNatClampNeg + i) .null = .int (f (sa + i)) := by
        rw [nI_clamp b3]
        show (arrV (cA ty) m0 (fun j => .int (f j))).slots.getD _ _ = _
        rw [Array.getD_eq_getD_getElem?, arrV_read _ _ (by omega)]
        rfl
      refine ⟨?_, ?_⟩
      · rw [e]
        rcases hty with rfl | ⟨rfl, hf⟩
        · rfl
        · rcases hf (sa + i) with q | q <;> rw [q] <;> rfl
      · rw [e]
        exact trivial)
    (g := F0 m pc ls (.int (nI ka) :: .int (nI da) :: .ref (gAd z ro q) :: .int (nI sa) :: .ref (gAd z ro o) :: rest)) rfl (by rw [hml]) (rest := rest) rfl (by rw [hb]; exact hdg) hframes (by show 2 * 0 + _ + _ ≤ _; omega)
  have e1 : copied (vp_cell (cA ty) (m0, .inl f)) (vp_cell (cA ty) (m1, .inl g)) (nI sa) (nI da) (nI ka) = vp_cell (cA ty) (m1, .inl (va_cpy f g sa da ka)) := by
    have := va_copied (fun z => Value.int z) (cA ty) (cA ty) (n0 := m0) (n1 := m1) (sp := sa) (dp := da) (n := ka) f g c1
    unfold copied
    rw [nI_clamp b1, nI_clamp b2, nI_clamp b3]
    exact this
  rw [e1] at X' step
  have hl : gAd z ro q < H.size := (Array.getElem?_eq_some_iff.mp hc1).1
  have hheap : ((T.setVm vm').setCell (gAd z ro q) (vp_cell (cA ty) (m1, .inl (va_cpy f g sa da ka)))).heap = H.setIfInBounds (gAd z ro q) (vp_cell (cA ty) (m1, .inl (va_cpy f g sa da ka))) := by rw [← hT]; rfl
  have oq : ∀ x : Nat, x ≠ gAd z ro q → (H.setIfInBounds (gAd z ro q) (vp_cell (cA ty) (m1, .inl (va_cpy f g sa da ka))))[x]? = H[x]? := fun x hq => by simp [Array.getElem?_setIfInBounds, Ne.symm hq]
  obtain ⟨t, a1, b1⟩ := kk _ _ (hr.store hq hG1 (by simp) (fun n a b hP => hP.set (gWorld_D a) (gWorld_at2 hq hG1 b) (show (H.setIfInBounds (gAd z ro q) _)[gAd z ro q]? = some _ by simp [Array.getElem?_setIfInBounds, hl]; rfl) oq) g_noobj) ⟨by simp; exact hS.1, fun x g1 g2 => by
      rw [oq x (fun e => g2 (by rw [e]; exact g_gA hq h4 h5))]
      exact hS.2.1 x g1 g2, fun x hx => by
      rcases List.mem_append.mp hx with h | h
      · exact hS.2.2 x h
      · obtain ⟨y, -, hy⟩ := List.mem_map.mp h
        rw [← hy]
        exact g_gA hq h4 h5⟩ _ hheap X'
  exact ⟨t, step t a1, b1⟩
end GRows2
