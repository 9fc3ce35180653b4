/-! ===== rows over the ghost heap that keep the heap's size in sight ===== -/
section GRows
variable {p : Program} {l : Launch} {e : Env} {R : Room} {s : State} {m : MethodId} {args : Array Value} {below : List Frame} {meth : Method} {c : Code} {H : Heap} {locs : List Loc} {cells slots : Nat} {Q : State → Prop}
variable {cc : ByteArray} {pc : Nat} {ls : Array Slot} {rest : List Value}
variable {z : Nat} {ro : Nat → Nat} {cA : FieldType → ClassId} {D : va_G} {roArr : Nat → Option (Nat × (Nat → Int32))} {G : GH}
theorem g_noobj {ty : FieldType} {a : vp_A} : ∀ ci fs, (Sum.inr (ty, a) : GC) = .inl (ci, fs) → ∃ q, vwCl[ci]? = some q ∧ fs.length = q.2.2 := fun _ _ h => by cases h
theorem g_arr (hK : va_K D vwCl (gTys cA) s) {i : Nat} {ty : FieldType} (h : gTy[i]? = some ty) : ArrOfT s (cA ty) ty ∧ va_RA s (cA ty) ty := hK.2 i (cA ty, ty) (by simp [gTys, h])
theorem g_gA {o n : Nat} (ho : o < gRB) (h1 : n ≤ 248 ∨ ro 99999 = 0) (h2 : o ≤ n) : gA z ro (gAd z ro o) := by
  simp only [gA, gAd, ho, if_true]
  rcases h1 with h1 | h1
  · exact ⟨by omega, Or.inl (by omega)⟩
  · exact ⟨by omega, Or.inr (by omega)⟩
theorem vp_sti (cB : ClassId) (n : Nat) (f : Nat → Int32) (k : Nat) (x : Int32) : (vp_cell cB (n, .inl f)).setSlot k (.int x) = vp_cell cB (n, .inl (upd f k x)) := by
  rw [vp_cell_i, vp_cell_i, arrV_store]
  congr 1
  funext q
  by_cases hq : q = k
  · subst hq; simp [updV, upd]
  · simp [updV, upd, hq]
theorem vp_stl (cB : ClassId) (n : Nat) (f : Nat → Int64) (k : Nat) (x : Int64) : (vp_cell cB (n, .inr (.inl f))).setSlot k (.long x) = vp_cell cB (n, .inr (.inl (vp_updL f k x))) := by
  rw [vp_cell_l, vp_cell_l, arrV_store]
  congr 1
  funext q
  by_cases hq : q = k
  · subst hq; simp [updV, vp_updL]
  · simp [updV, vp_updL, hq]
theorem vp_stq (cB : ClassId) (n : Nat) (f : Nat → Option Nat) (k : Nat) (x : Nat) : (vp_cell cB (n, .inr (.inr (.inr (.inr f))))).setSlot k (.ref x) = vp_cell cB (n, .inr (.inr (.inr (.inr (va_up f k (some x)))))) := by
  rw [vp_cell_q, vp_cell_q, arrV_store]
  congr 1
  funext q
  by_cases hq : q = k
  · subst hq; simp [updV, va_up, va_rf]
  · simp [updV, va_up, hq]
theorem vp_size_i (cB : ClassId) (n : Nat) (f : Nat → Int32) : (vp_cell cB (n, .inl f)).slots.size = n := by rw [vp_cell_i, arrV_size]
theorem vp_size_l (cB : ClassId) (n : Nat) (f : Nat → Int64) : (vp_cell cB (n, .inr (.inl f))).slots.size = n := by rw [vp_cell_l, arrV_size]
theorem vp_size_q (cB : ClassId) (n : Nat) (f : Nat → Option Nat) : (vp_cell cB (n, .inr (.inr (.inr (.inr f))))).slots.size = n := by rw [vp_cell_q, arrV_size]
theorem g_iast (hx : p.tables.exec = Jvm.exec) (hb : c.code = cc) (hK : va_K D vwCl (gTys cA) s) (hr : gRep z ro cA D roArr G H) (hS : va_S (gA z ro) s.heap H locs) {o n : Nat} {f : Nat → Int32} (ho : o < gRB) (hG : G.2 o = some (.inr (.int, n, .inl f))) {i x : Int32} (hin : vp_in i n) (hdg : decode cc pc = .ok (.iastore, 1))
    (kk : ∀ H1 locs1, gRep z ro cA D roArr (gU G o (.inr (.int, n, .inl (upd f i.toNatClampNeg x)))) H1 → va_S (gA z ro) s.heap H1 locs1 → W p l e R s m args below meth c H1 locs1 cells slots Q (F0 m (pc + 1) ls rest)) :
    W p l e R s m args below meth c H locs cells slots Q (F0 m pc ls (.int x :: .int i :: .ref (gAd z ro o) :: rest)) := by
  obtain ⟨n', h1, h2, h3, hP, hw⟩ := hr.at ho hG
  refine W.iast hx hb (hP _ _ hw) ((g_arr hK (i := 0) rfl).1 n (fun j => .int (f j))) (fun q => by cases q) (by show ¬ (i < 0 ∨ (vp_cell _ _).slots.size ≤ _); rw [show gAr z ro (n, .inl f) = (n, .inl f) from rfl, vp_size_i]; exact hin) rfl rfl hdg fun H1 e1 e2 e3 => ?_
  refine kk H1 _ (hr.store ho hG e2 (fun n h1 h2 hP => hP.set (gWorld_D h1) (gWorld_at2 ho hG h2) ?_ e3) g_noobj) (hS.put e2 e3 (g_gA ho h1 h2))
  show H1[_]? = some (vp_cell _ _)
  rw [e1]
  exact congrArg some (vp_sti _ _ _ _ _)
theorem g_zast (hx : p.tables.exec = Jvm.exec) (hb : c.code = cc) (hK : va_K D vwCl (gTys cA) s) (hr : gRep z ro cA D roArr G H) (hS : va_S (gA z ro) s.heap H locs) {o n : Nat} {f : Nat → Int32} (ho : o < gRB) (hG : G.2 o = some (.inr (.boolean, n, .inl f))) {i x : Int32} (hin : vp_in i n) (hx0 : x = nI 0 ∨ x = nI 1) (hdg : decode cc pc = .ok (.bastore, 1))
    (kk : ∀ H1 locs1, gRep z ro cA D roArr (gU G o (.inr (.boolean, n, .inl (upd f i.toNatClampNeg x)))) H1 → va_S (gA z ro) s.heap H1 locs1 → W p l e R s m args below meth c H1 locs1 cells slots Q (F0 m (pc + 1) ls rest)) :
    W p l e R s m args below meth c H locs cells slots Q (F0 m pc ls (.int x :: .int i :: .ref (gAd z ro o) :: rest)) := by
  obtain ⟨n', h1, h2, h3, hP, hw⟩ := hr.at ho hG
  have hn : narrow .boolean (.int x) = .int x := by rcases hx0 with rfl | rfl <;> rfl
  refine W.zast hx hb (hP _ _ hw) ((g_arr hK (i := 1) rfl).1 n (fun j => .int (f j))) (fun q => by cases q) (by show ¬ (i < 0 ∨ (vp_cell _ _).slots.size ≤ _); rw [show gAr z ro (n, .inl f) = (n, .inl f) from rfl, vp_size_i]; exact hin) rfl rfl hdg fun H1 e1 e2 e3 => ?_
  refine kk H1 _ (hr.store ho hG e2 (fun n h1 h2 hP => hP.set (gWorld_D h1) (gWorld_at2 ho hG h2) ?_ e3) g_noobj) (hS.put e2 e3 (g_gA ho h1 h2))
  show H1[_]? = some (vp_cell _ _)
  rw [e1, hn]
  exact congrArg some (vp_sti _ _ _ _ _)
theorem g_qast (hx : p.tables.exec = Jvm.exec) (hb : c.code = cc) (hK : va_K D vwCl (gTys cA) s) (hr : gRep z ro cA D roArr G H) (hS : va_S (gA z ro) s.heap H locs) {o y n : Nat} {f : Nat → Option Nat} {fs : List Value} (ho : o < gRB) (hy : y < gRB) (hG : G.2 o = some (.inr (.object "TrunkDuel$State", n, .inr (.inr (.inr (.inr f)))))) (hv : G.2 y = some (.inl (8, fs))) {i : Int32} (hin : vp_in i n) (hdg : decode cc pc = .ok (.aastore, 1))
    (kk : ∀ H1 locs1, gRep z ro cA D roArr (gU G o (.inr (.object "TrunkDuel$State", n, .inr (.inr (.inr (.inr (va_up f i.toNatClampNeg (some y)))))))) H1 → va_S (gA z ro) s.heap H1 locs1 → W p l e R s m args below meth c H1 locs1 cells slots Q (F0 m (pc + 1) ls rest)) :
    W p l e R s m args below meth c H locs cells slots Q (F0 m pc ls (.ref (gAd z ro y) :: .int i :: .ref (gAd z ro o) :: rest)) := by
  have hlt : i.toNatClampNeg < n := Nat.not_le.mp fun q => hin (Or.inr q)
  have h0 : ¬ i < 0 := fun q => hin (Or.inl q)
  obtain ⟨n', h1, h2, h3, hP, hw⟩ := hr.at ho hG
  obtain ⟨n2, -, -, -, hP2, hw2⟩ := hr.at hy hv
  obtain ⟨r', hr', cellV, g1, g2, g3, -⟩ := hP2 _ _ hw2
  have hcls := (hK.1 8 _ hr').2
  have hr8 : r' = (RX8, TX8, 6) := Option.some.inj (hr'.symm.trans rfl)
  subst hr8
  obtain ⟨kA, comp, k1, k2, k3, -⟩ := (g_arr hK (i := 3) rfl).2
  have hcomp : comp = D.1 8 := Option.some.inj (k3.symm.trans hcls.1)
  subst hcomp
  obtain ⟨kC, hkC, -⟩ := hcls.2
  refine W.aast hx hb (hP _ _ hw) (fun q h => by cases h) (fun h => by cases h) k1 k2 rfl hkC ⟨h0, by show _ < (vp_cell _ _).slots.size; rw [show gAr z ro (n, .inr (.inr (.inr (.inr f)))) = (n, .inr (.inr (.inr (.inr fun j => (f j).map (gAd z ro))))) from rfl, vp_size_q]; exact hlt⟩ g1 (fun q h => by rw [g3] at h; cases h) (by rw [g2]; exact hkC) (by rw [g2]; exact va_assign hcls) rfl rfl hdg fun H1 e1 e2 e3 => ?_
  refine kk H1 _ (hr.store ho hG e2 (fun n2 h1 h2 hP => hP.set (gWorld_D h1) (gWorld_at2 ho hG h2) ?_ e3) g_noobj) (hS.put e2 e3 (g_gA ho h1 h2))
  show H1[_]? = some (vp_cell _ _)
  rw [e1]
  refine congrArg some ((vp_stq _ _ _ _ _).trans ?_)
  have e : va_up (fun j => Option.map (gAd z ro) (f j)) i.toNatClampNeg (some (gAd z ro y)) = (fun j => Option.map (gAd z ro) (va_up f i.toNatClampNeg (some y) j)) := by
    funext q
    by_cases hq : q = i.toNatClampNeg
    · subst hq; simp [va_up]
    · simp [va_up, hq]
  exact congrArg (fun F => vp_cell (cA (.object "TrunkDuel$State")) (n, .inr (.inr (.inr (.inr F))))) e
end GRows
