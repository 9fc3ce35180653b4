/-! ===== soundness: calls ===== -/
theorem lg_sl_1 : ∀ {vs : List Value}, (∀ v ∈ vs, v.category = 1) → lg_sl vs = vs.map Slot.val
  | [], _ => rfl
  | v :: vs, h => by
    have h1 := h v List.mem_cons_self
    have ih := lg_sl_1 (vs := vs) fun w hw => h w (List.mem_cons_of_mem _ hw)
    have e : lg_sl (v :: vs) = (if v.category = 2 then [.val v, .second] else [.val v]) ++ lg_sl vs := rfl
    rw [e, if_neg (by rw [h1]; decide), ih]
    rfl
theorem gCat_1 : ∀ {vs : List Value}, gCat vs = vs.length → ∀ v ∈ vs, v.category = 1 := by
  have key : ∀ vs : List Value, vs.length ≤ gCat vs := by
    intro vs
    induction vs with
    | nil => exact Nat.le_refl _
    | cons v r ih => cases v <;> simp only [gCat, List.length_cons] <;> omega
  intro vs
  induction vs with
  | nil => intro _ v hv; cases hv
  | cons w r ih =>
    intro h v hv
    have hk := key r
    cases w <;> simp only [gCat, List.length_cons] at h <;> first | omega | (rcases List.mem_cons.mp hv with rfl | hv; rfl; exact ih (by omega) v hv)
section Snd4
variable {z : Nat} {ro : Nat → Nat} {cA : FieldType → ClassId} {D : va_G} {roArr : Nat → Option (Nat × (Nat → Int32))}
variable {m rc rs pc : Nat} {ls : GL} {st : List Value} {G : GH} {Q : GQ}
theorem gLoc_entry {a : Nat} {as : List Value} (hlen : as.length ≤ gMaxL a) (hcat : ∀ v ∈ as, v.category = 1) : gLoc z ro ((lg_sl (as.map (gv z ro)) ++ List.replicate (gMaxL a - (lg_sl (as.map (gv z ro))).length) Slot.unset).toArray) (gMaxL a) (gEntry a as) := by
  have hc2 : ∀ v ∈ as.map (gv z ro), v.category = 1 := fun v hv => by
    obtain ⟨w, hw, rfl⟩ := List.mem_map.mp hv
    rw [gv_cat]
    exact hcat w hw
  have e := lg_sl_1 hc2
  have hle : (lg_sl (as.map (gv z ro))).length ≤ gMaxL a := by rw [e]; simpa using hlen
  obtain ⟨h1, h2, -⟩ := lv_entry (as.map (gv z ro)) hle
  refine ⟨h1, h2, fun q hq => ?_⟩
  obtain ⟨i, w⟩ := q
  obtain ⟨v, hv, rfl⟩ := gAs_mem.mp hq
  have hi : i < as.length ∧ as[i]? = some v := by
    unfold gEntry at hv
    by_cases hi : i < as.length
    · rw [List.getElem?_append_left (by simpa using hi), List.getElem?_map] at hv
      cases ha : as[i]? with
      | none => rw [ha] at hv; cases hv
      | some v' =>
        rw [ha] at hv
        cases hv
        exact ⟨hi, rfl⟩
    · rw [List.getElem?_append_right (by simpa using Nat.le_of_not_lt hi), List.getElem?_replicate] at hv
      split at hv <;> cases hv
  show (_ : List Slot).toArray[i]? = _
  rw [e, List.getElem?_toArray, List.getElem?_append_left (by simpa using hi.1), List.getElem?_map, List.getElem?_map, hi.2]
  rfl
abbrev gRm (a c d : Nat) : Room := { frames := gFrames a, cells := c, slots := d, locals := gLocs a }
/-- a method's body, from its entry -/
theorem snd_body {a c1 d1 : Nat} {as : List Value} {P : GQ} {l : Launch} (htr : l.stackTraces = false) (hlen : as.length ≤ gMaxL a) (hcat : ∀ v ∈ as, v.category = 1) (h : gC (SND z ro cA D roArr) a c1 d1 as G P)
    {p : Program} {e : Env} {s : State} {mid : MethodId} {args : Array Value} {below : List Frame} {meth : Method} {c : Code} (hx : p.tables.exec = Jvm.exec) (hb : c.code = gCode a) (hml : c.maxLocals = gMaxL a) (hret : meth.sig.returnType = gRet a) (hown : s.vm.findClass (gY a).cls = some mid.cls) (hts : ∀ w ∈ gw, w.before args s = true) (hlk : meth.locks = false) (hnm : meth.name = (gY a).name) (htab : c.exceptionTable.toList = tableOf (gHT a))
    (hv : gPc z ro cA D roArr G as args s) : W p l e (gRm a c1 d1) s mid args below meth c s.heap [] 0 0 (vx_MQ below (gQc z ro cA D roArr P) (gXC z ro cA D roArr P) args s c1 d1 (gA z ro)) (entryFrame mid args (gMaxL a)) := by
  obtain ⟨rfl, hr, hE⟩ := hv
  rw [lg_entry_eq]
  exact h p l e (gRm a c1 d1) s mid _ below meth c s.heap [] 0 0 _ ⟨hx, hb, hml, hret, hown, hts, hlk, hnm, hE, htr, htab, Nat.le_refl _, Nat.le_refl _⟩ hr (gLoc_entry hlen hcat) va_S.rf (by simp) (by simp)
theorem snd_met {a c1 d1 : Nat} {as : List Value} {P : GQ} {l : Launch} (htr : l.stackTraces = false) (hpl : plainName (gY a).cls = true) (hlen : as.length ≤ gMaxL a) (hcat : ∀ v ∈ as, v.category = 1) (hH : gHT a = []) (h : gC (SND z ro cA D roArr) a c1 d1 as G P) :
    vx_Met l (gY a) (Cond.code (gY a) (gCode a) (gMaxL a) (gRet a) :: gw) (gRm a c1 d1) (gPc z ro cA D roArr G as) (gQc z ro cA D roArr P) (gXC z ro cA D roArr P) c1 d1 (gA z ro) := by
  refine vx_ofW hpl rfl ?_
  intro p e s m args below meth c s₁ B hml hno hv
  have hts := atoms_spec (ws := Cond.code (gY a) (gCode a) (gMaxL a) (gRet a) :: gw) B.pre
  refine snd_body htr hlen hcat h B.exec B.bytes hml B.returns (findClass_of_methodNamed B.named) (fun w hw => hts w (List.mem_cons_of_mem _ hw)) B.notSynchronized (name_of_methodNamed B.named B.method).1 ?_ hv
  rw [hH]
  exact List.eq_nil_iff_forall_not_mem.mpr fun x hx => hno x hx
theorem snd_metW {a c1 d1 : Nat} {as : List Value} {P : GQ} {l : Launch} (htr : l.stackTraces = false) (hpl : plainName (gY a).cls = true) (hlen : as.length ≤ gMaxL a) (hcat : ∀ v ∈ as, v.category = 1) (h : gC (SND z ro cA D roArr) a c1 d1 as G P) :
    vx_Met l (gY a) (Cond.codeWith (gY a) (gCode a) (gMaxL a) (gRet a) (gHT a) :: gw) (gRm a c1 d1) (gPc z ro cA D roArr G as) (gQc z ro cA D roArr P) (gXC z ro cA D roArr P) c1 d1 (gA z ro) := by
  refine vx_ofWH hpl rfl ?_
  intro p e s m args below meth c s₁ B hml hv
  have hts := atoms_spec (ws := Cond.codeWith (gY a) (gCode a) (gMaxL a) (gRet a) (gHT a) :: gw) B.pre
  exact snd_body htr hlen hcat h B.exec B.bytes hml B.returns (findClass_of_methodNamed B.named) (fun w hw => hts w (List.mem_cons_of_mem _ hw)) B.notSynchronized (name_of_methodNamed B.named B.method).1 (vx_table (x := gY a) B (hts _ List.mem_cons_self)) hv
theorem gRes.mono {P P' : GQ} {v : Option Value} {H : Heap} (hL : gLe P P') (h : gRes z ro cA D roArr P v H) : gRes z ro cA D roArr P' v H := by
  rcases h with ⟨x, G, a, b, c⟩ | ⟨G, a, b, c⟩ | ⟨x, G, a, b, c⟩ | ⟨x, G, a, b, c⟩ | ⟨x, G, a, b, c⟩
  · exact Or.inl ⟨x, G, a, hL.1 _ _ b, c⟩
  · exact Or.inr (Or.inl ⟨G, a, hL.2.1 _ b, c⟩)
  · exact Or.inr (Or.inr (Or.inl ⟨x, G, a, hL.2.2.1 _ _ b, c⟩))
  · exact Or.inr (Or.inr (Or.inr (Or.inl ⟨x, G, a, hL.2.2.2.1 _ _ b, c⟩)))
  · exact Or.inr (Or.inr (Or.inr (Or.inr ⟨x, G, a, hL.2.2.2.2.1 _ _ b, c⟩)))
/-- what is wanted behind a call of kind e -/
def gKq (X : GX) (KX : String → GH → Prop) (rc rs n : Nat) (ls : GL) (rest : List Value) (e : Nat) : GQ := match e with
  | 0 => gQi (fun x G => X rc rs n ls (.int x :: rest) G) KX
  | 1 => gQv (fun G => X rc rs n ls rest G) KX
  | 2 => gQr (fun x G => X rc rs n ls (.ref x :: rest) G)
  | 3 => gQd (fun x G => X rc rs n ls (.double x :: rest) G)
  | _ => gQf (fun x G => X rc rs n ls (.float x :: rest) G)
theorem gKq_next {KX : String → GH → Prop} {rc rs n : Nat} {ls : GL} {rest : List Value} {e : Nat} {v : Option Value} {H : Heap} (h : gRes z ro cA D roArr (gKq (fun rc rs pc ls st G => SND z ro cA D roArr m rc rs pc ls st G Q) KX rc rs n ls rest e) v H) :
    ∃ (G : GH) (st' : List Value), SND z ro cA D roArr m rc rs n ls st' G Q ∧ gRep z ro cA D roArr G H ∧ v.toList ++ rest.map (gv z ro) = st'.map (gv z ro) := by
  unfold gKq at h
  split at h
  all_goals rcases h with ⟨x, G, a, b, c⟩ | ⟨G, a, b, c⟩ | ⟨x, G, a, b, c⟩ | ⟨x, G, a, b, c⟩ | ⟨x, G, a, b, c⟩
  all_goals first | exact b.elim | (subst a; exact ⟨G, _, b, c, rfl⟩)
theorem gBif_el {c : Bool} {A : Prop} (h : bif c then A else False) : c = true ∧ A := by
  cases c
  · exact h.elim
  · exact ⟨rfl, h⟩
/-- the calls of the program's own methods -/
theorem gInv_own {C : Nat → Nat → Nat → List Value → GH → GQ → Prop} {X : GX} {S : GS} {hh : GHd} {n a b c d e : Nat} (he : e < 5 ∨ e = 10 ∨ e = 11) (h : gInv C X Q S hh rc rs pc ls st G n a b c d e) :
    gCat (st.drop b) ≤ 8 ∧ (st.take b).length = b ∧ gCat (st.take b) = b ∧ ∃ c1 d1, c1 ≤ rc ∧ d1 ≤ rs ∧
    C a c1 d1 (st.take b).reverse G (gKq X (if e < 5 then gNo else fun E G => gHand X Q.2.2.2.2.2 (rc - c1) (rs - d1) pc ls E G hh) (rc - c1) (rs - d1) n ls (st.drop b) (e % 10)) := by
  have key : ∀ {A : Prop}, (bif Nat.ble (gCat (st.drop b)) 8 && (Nat.beq (st.take b).length b && Nat.beq (gCat (st.take b)) b) then A else False) → gCat (st.drop b) ≤ 8 ∧ (st.take b).length = b ∧ gCat (st.take b) = b ∧ A := by
    intro A h
    obtain ⟨h1, h2⟩ := gBif_el h
    simp only [Bool.and_eq_true] at h1
    exact ⟨Nat.le_of_ble_eq_true h1.1, Nat.eq_of_beq_eq_true h1.2.1, Nat.eq_of_beq_eq_true h1.2.2, h2⟩
  rcases he with he | rfl | rfl
  · match e, he, h with
    | 0, _, h => exact key h
    | 1, _, h => exact key h
    | 2, _, h => exact key h
    | 3, _, h => exact key h
    | 4, _, h => exact key h
  · exact key h
  · exact key h
end Snd4
