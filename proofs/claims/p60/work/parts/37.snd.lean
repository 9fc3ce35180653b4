/-! ===== the ghost machine is sound: what a step's formula says, the machine does ===== -/
def gZ (z : Nat) (ro : Nat → Nat) (cA : FieldType → ClassId) (D : va_G) (roArr : Nat → Option (Nat × (Nat → Int32))) (Q : GQ) (R : Room) (s : State) (args : Array Value) (below : List Frame) : State → Prop := vx_MQ below (gQc z ro cA D roArr Q) (gXC z ro cA D roArr Q) args s R.cells R.slots (gA z ro)
def SND (z : Nat) (ro : Nat → Nat) (cA : FieldType → ClassId) (D : va_G) (roArr : Nat → Option (Nat × (Nat → Int32))) : GW := fun m rc rs pc ls st G Q =>
  ∀ (p : Program) (l : Launch) (e : Env) (R : Room) (s : State) (mid : MethodId) (args : Array Value) (below : List Frame) (meth : Method) (c : Code) (H : Heap) (locs : List Loc) (cells slots : Nat) (lsr : Array Slot),
    gCtx z ro cA D roArr m p l R s mid args meth c → gRep z ro cA D roArr G H → gLoc z ro lsr (gMaxL m) ls → va_S (gA z ro) s.heap H locs → cells + rc ≤ R.cells → slots + rs ≤ R.slots →
    W p l e R s mid args below meth c H locs cells slots (gZ z ro cA D roArr Q R s args below) (F0 mid pc lsr (st.map (gv z ro)))
theorem gChk_dec {m pc : Nat} {i : Instr} {n a b c d e : Nat} (h : gChk m pc (i, n, a, b, c, d, e) = true) : decode (gCode m) pc = .ok (i, gLenE i e) ∧ n = pc + gLenE i e := by
  simp only [gChk, Bool.and_eq_true, decide_eq_true_eq, beq_iff_eq] at h
  exact h.1
theorem gLdI_el {ls : GL} {k : Nat} {K : Int32 → Prop} (h : gLdI ls k K) : ∃ x, ls[k]? = some (some (.int x)) ∧ K x := by
  unfold gLdI at h
  split at h
  · exact ⟨_, by assumption, h⟩
  · exact h.elim
theorem gLdA_el {ls : GL} {k : Nat} {K : Nat → Prop} (h : gLdA ls k K) : ∃ x, ls[k]? = some (some (.ref x)) ∧ K x := by
  unfold gLdA at h
  split at h
  · exact ⟨_, by assumption, h⟩
  · exact h.elim
theorem gLdD_el {ls : GL} {k : Nat} {K : UInt64 → Prop} (h : gLdD ls k K) : ∃ x, ls[k]? = some (some (.double x)) ∧ K x := by
  unfold gLdD at h
  split at h
  · exact ⟨_, by assumption, h⟩
  · exact h.elim
section Snd
variable {z : Nat} {ro : Nat → Nat} {cA : FieldType → ClassId} {D : va_G} {roArr : Nat → Option (Nat × (Nat → Int32))}
variable {m rc rs pc : Nat} {ls : GL} {st : List Value} {G : GH} {Q : GQ}
/-- the heap and the locals stay -/
theorem snd_lin {n : Nat} {st' : List Value} (h : SND z ro cA D roArr m rc rs n ls st' G Q)
    (row : ∀ {p : Program} {l : Launch} {e : Env} {R : Room} {s : State} {mid : MethodId} {args : Array Value} {below : List Frame} {meth : Method} {c : Code} {H : Heap} {locs : List Loc} {cells slots : Nat} {lsr : Array Slot} {Z : State → Prop}, gCtx z ro cA D roArr m p l R s mid args meth c → gLoc z ro lsr (gMaxL m) ls →
      W p l e R s mid args below meth c H locs cells slots Z (F0 mid n lsr (st'.map (gv z ro))) → W p l e R s mid args below meth c H locs cells slots Z (F0 mid pc lsr (st.map (gv z ro)))) : SND z ro cA D roArr m rc rs pc ls st G Q :=
  fun _ _ _ _ _ _ _ _ _ _ _ _ _ _ _ hC hr hl hS hc hs => row hC hl (h _ _ _ _ _ _ _ _ _ _ _ _ _ _ _ hC hr hl hS hc hs)
theorem snd_ld {k n : Nat} {v : Value} (hv : ls[k]? = some (some v)) (h : SND z ro cA D roArr m rc rs n ls (v :: st) G Q)
    (row : ∀ {p : Program} {l : Launch} {e : Env} {R : Room} {s : State} {mid : MethodId} {args : Array Value} {below : List Frame} {meth : Method} {c : Code} {H : Heap} {locs : List Loc} {cells slots : Nat} {lsr : Array Slot} {Z : State → Prop}, gCtx z ro cA D roArr m p l R s mid args meth c → lsr[k]? = some (.val (gv z ro v)) →
      W p l e R s mid args below meth c H locs cells slots Z (F0 mid n lsr (gv z ro v :: st.map (gv z ro))) → W p l e R s mid args below meth c H locs cells slots Z (F0 mid pc lsr (st.map (gv z ro)))) : SND z ro cA D roArr m rc rs pc ls st G Q :=
  snd_lin h fun hC hl k => row hC (hl.at hv) k
theorem snd_st {n : Nat} {r : List Value} {ls' : GL} (h : SND z ro cA D roArr m rc rs n ls' r G Q)
    (row : ∀ {p : Program} {l : Launch} {e : Env} {R : Room} {s : State} {mid : MethodId} {args : Array Value} {below : List Frame} {meth : Method} {c : Code} {H : Heap} {locs : List Loc} {cells slots : Nat} {lsr : Array Slot} {Z : State → Prop}, gCtx z ro cA D roArr m p l R s mid args meth c → gLoc z ro lsr (gMaxL m) ls →
      (∀ lsr' : Array Slot, gLoc z ro lsr' (gMaxL m) ls' → W p l e R s mid args below meth c H locs cells slots Z (F0 mid n lsr' (r.map (gv z ro)))) → W p l e R s mid args below meth c H locs cells slots Z (F0 mid pc lsr (st.map (gv z ro)))) : SND z ro cA D roArr m rc rs pc ls st G Q :=
  fun _ _ _ _ _ _ _ _ _ _ _ _ _ _ _ hC hr hl hS hc hs => row hC hl (fun _ hl' => h _ _ _ _ _ _ _ _ _ _ _ _ _ _ _ hC hr hl' hS hc hs)
/-- what an entry of the tables is known by -/
def gEnt (m pc : Nat) (E : GE) : Prop := gChk m pc E = true ∧ gLnk m E
theorem snd_iinc {k n a b c d e : Nat} {v : Int} (hE : gEnt m pc (.iinc k v, n, a, b, c, d, e)) (h : gLdI ls k (fun x => SND z ro cA D roArr m rc rs n (gSt1 ls k (.int (gInc x b a))) st G Q)) : SND z ro cA D roArr m rc rs pc ls st G Q := by
  obtain ⟨hd, hn⟩ := gChk_dec hE.1
  have hk := hE.1
  simp only [gChk, Bool.and_eq_true, decide_eq_true_eq, beq_iff_eq] at hk
  obtain ⟨-, hk1, hk2⟩ := hk
  subst hn
  obtain ⟨x, hx, h⟩ := gLdI_el h
  refine snd_st h fun hC hl kk => ?_
  obtain ⟨j, hj⟩ := List.mem_iff_getElem?.mp (gAs_mem.mpr ⟨_, hx, rfl⟩ : (k, gv z ro (.int x)) ∈ gAs z ro ls)
  refine lv_iinc (v := gInc x b a) hC.1 hC.2.1 hd hl hj ?_ hk1 rfl fun lsr' hl' => kk lsr' (gLoc.st1 (x := .int (gInc x b a)) hl')
  rw [hk2]
  unfold gK gInc
  cases b with
  | zero => rfl
  | succ b => exact (Int32.sub_eq_add_neg _ _).symm
theorem snd_arith {i : Instr} {n a b c d e : Nat} {x y : Int32} {r : List Value} (hi : i = .iadd ∨ i = .isub ∨ i = .imul ∨ i = .iand ∨ i = .ior ∨ i = .ishl ∨ i = .ishr ∨ i = .iushr ∨ i = .idiv ∨ i = .irem) (hE : gEnt m pc (i, n, a, b, c, d, e)) (hst : st = .int y :: .int x :: r)
    (h : gArith i x y (fun v => SND z ro cA D roArr m rc rs n ls (.int v :: r) G Q)) : SND z ro cA D roArr m rc rs pc ls st G Q := by
  obtain ⟨hd, hn⟩ := gChk_dec hE.1
  subst hn
  subst hst
  rcases hi with rfl | rfl | rfl | rfl | rfl | rfl | rfl | rfl | rfl | rfl
  · exact snd_lin h fun hC _ k => lv_iadd hC.1 hC.2.1 hd k
  · exact snd_lin h fun hC _ k => lv_isub hC.1 hC.2.1 hd k
  · exact snd_lin h fun hC _ k => lv_imul hC.1 hC.2.1 hd k
  · exact snd_lin h fun hC _ k => lv_iand hC.1 hC.2.1 hd k
  · exact snd_lin h fun hC _ k => lv_ior hC.1 hC.2.1 hd k
  · exact snd_lin h fun hC _ k => lv_ishl hC.1 hC.2.1 hd k
  · exact snd_lin h fun hC _ k => lv_ishr hC.1 hC.2.1 hd k
  · exact snd_lin h fun hC _ k => lv_iushr hC.1 hC.2.1 hd rfl k
  · exact snd_lin h.2 fun hC _ k => lv_idiv hC.1 hC.2.1 hd h.1 k
  · exact snd_lin h.2 fun hC _ k => lv_irem hC.1 hC.2.1 hd h.1 k
theorem snd_two {A B : Prop} {t n : Nat} {r : List Value} (h1 : A → SND z ro cA D roArr m rc rs t ls r G Q) (h2 : B → SND z ro cA D roArr m rc rs n ls r G Q)
    (row : ∀ {p : Program} {l : Launch} {e : Env} {R : Room} {s : State} {mid : MethodId} {args : Array Value} {below : List Frame} {meth : Method} {c : Code} {H : Heap} {locs : List Loc} {cells slots : Nat} {lsr : Array Slot} {Z : State → Prop}, gCtx z ro cA D roArr m p l R s mid args meth c →
      (A → W p l e R s mid args below meth c H locs cells slots Z (F0 mid t lsr (r.map (gv z ro)))) → (B → W p l e R s mid args below meth c H locs cells slots Z (F0 mid n lsr (r.map (gv z ro)))) → W p l e R s mid args below meth c H locs cells slots Z (F0 mid pc lsr (st.map (gv z ro)))) : SND z ro cA D roArr m rc rs pc ls st G Q :=
  fun _ _ _ _ _ _ _ _ _ _ _ _ _ _ _ hC hr hl hS hc hs => row hC (fun q => h1 q _ _ _ _ _ _ _ _ _ _ _ _ _ _ _ hC hr hl hS hc hs) (fun q => h2 q _ _ _ _ _ _ _ _ _ _ _ _ _ _ _ hC hr hl hS hc hs)
theorem gIte_t {c A B : Prop} [Decidable c] (h : if c then A else B) (q : c) : A := by rw [if_pos q] at h; exact h
theorem gIte_f {c A B : Prop} [Decidable c] (h : if c then A else B) (q : ¬ c) : B := by rw [if_neg q] at h; exact h
theorem i32_nlt {x y : Int32} (h : y ≤ x) : ¬ x < y := Int32.not_lt.mpr h
theorem i32_lt {x y : Int32} (h : ¬ y ≤ x) : x < y := Int32.not_le.mp h
theorem snd_if {cd : Jvm.ClassFile.Cond} {o : Int} {n a b c d e : Nat} {x : Int32} {r : List Value} (hE : gEnt m pc (.ifCond cd o, n, a, b, c, d, e)) (hst : st = .int x :: r) (h : gCond cd x (nI 0) (SND z ro cA D roArr m rc rs a ls r G Q) (SND z ro cA D roArr m rc rs n ls r G Q)) : SND z ro cA D roArr m rc rs pc ls st G Q := by
  obtain ⟨hd, hn⟩ := gChk_dec hE.1
  have hk := hE.1
  simp only [gChk, Bool.and_eq_true, decide_eq_true_eq, beq_iff_eq] at hk
  have ht := hk.2
  subst hn
  subst hst
  rw [nI_0] at h
  cases cd
  · exact snd_two (gIte_t h) (gIte_f h) fun hC k1 k2 => lv_if_eq hC.1 hC.2.1 hd ht k1 k2
  · exact snd_two (gIte_f h) (gIte_t h) fun hC k1 k2 => lv_if_ne hC.1 hC.2.1 hd ht k1 k2
  · exact snd_two (gIte_t h) (gIte_f h) fun hC k1 k2 => lv_if_lt hC.1 hC.2.1 hd ht k1 k2
  · exact snd_two (gIte_f h) (gIte_t h) fun hC k1 k2 => lv_if_ge hC.1 hC.2.1 hd ht (fun q => k1 (i32_nlt q)) (fun q => k2 (i32_lt q))
  · exact snd_two (gIte_t h) (gIte_f h) fun hC k1 k2 => lv_if_gt hC.1 hC.2.1 hd ht k1 k2
  · exact snd_two (gIte_f h) (gIte_t h) fun hC k1 k2 => lv_if_le hC.1 hC.2.1 hd ht (fun q => k1 (i32_nlt q)) (fun q => k2 (i32_lt q))
theorem snd_icmp {cd : Jvm.ClassFile.Cond} {o : Int} {n a b c d e : Nat} {x y : Int32} {r : List Value} (hE : gEnt m pc (.if_icmp cd o, n, a, b, c, d, e)) (hst : st = .int y :: .int x :: r) (h : gCond cd x y (SND z ro cA D roArr m rc rs a ls r G Q) (SND z ro cA D roArr m rc rs n ls r G Q)) : SND z ro cA D roArr m rc rs pc ls st G Q := by
  obtain ⟨hd, hn⟩ := gChk_dec hE.1
  have hk := hE.1
  simp only [gChk, Bool.and_eq_true, decide_eq_true_eq, beq_iff_eq] at hk
  have ht := hk.2
  subst hn
  subst hst
  cases cd
  · exact snd_two (gIte_t h) (gIte_f h) fun hC k1 k2 => lv_icmp_eq hC.1 hC.2.1 hd ht k1 k2
  · exact snd_two (gIte_f h) (gIte_t h) fun hC k1 k2 => lv_icmp_ne hC.1 hC.2.1 hd ht k1 k2
  · exact snd_two (gIte_t h) (gIte_f h) fun hC k1 k2 => lv_icmp_lt hC.1 hC.2.1 hd ht k1 k2
  · exact snd_two (gIte_f h) (gIte_t h) fun hC k1 k2 => lv_icmp_ge hC.1 hC.2.1 hd ht (fun q => k1 (i32_nlt q)) (fun q => k2 (i32_lt q))
  · exact snd_two (gIte_t h) (gIte_f h) fun hC k1 k2 => lv_icmp_gt hC.1 hC.2.1 hd ht k1 k2
  · exact snd_two (gIte_f h) (gIte_t h) fun hC k1 k2 => lv_icmp_le hC.1 hC.2.1 hd ht (fun q => k1 (i32_nlt q)) (fun q => k2 (i32_lt q))
theorem gSw_el {X : Nat → Prop} {pc : Nat} {x : Int32} : ∀ (os : List Int) (lo : Int), gSw X pc x lo os → ∀ (k : Nat) (o : Int), os[k]? = some o → x.toInt = lo + k → X ((pc : Int) + o).toNat
  | [], _, _, k, o, ho, _ => by simp at ho
  | o' :: os, lo, h, 0, o, ho, hx => by
    cases ho
    exact h.1 (by omega)
  | o' :: os, lo, h, k + 1, o, ho, hx => gSw_el os (lo + 1) h.2 k o (by simpa using ho) (by omega)
theorem snd_switch {df lo hi : Int} {os : Array Int} {n a b c d e : Nat} {x : Int32} {r : List Value} (hE : gEnt m pc (.tableswitch df lo hi os, n, a, b, c, d, e)) (hst : st = .int x :: r)
    (h : ((x.toInt < lo ∨ hi < x.toInt) → SND z ro cA D roArr m rc rs a ls r G Q) ∧ gSw (fun t => SND z ro cA D roArr m rc rs t ls r G Q) pc x lo os.toList) : SND z ro cA D roArr m rc rs pc ls st G Q := by
  obtain ⟨hd, hn⟩ := gChk_dec hE.1
  have hk := hE.1
  simp only [gChk, Bool.and_eq_true, decide_eq_true_eq, beq_iff_eq, List.all_eq_true] at hk
  obtain ⟨-, ⟨hk1, hk2⟩, hk3⟩ := hk
  subst hst
  by_cases hx : x.toInt < lo ∨ hi < x.toInt
  · exact snd_lin (h.1 hx) fun hC _ k => lv_tableOut hC.1 hC.2.1 hd hx hk1 k
  · have h1 : ¬ x.toInt < lo := fun q => hx (Or.inl q)
    have h2 : ¬ hi < x.toInt := fun q => hx (Or.inr q)
    have hlt : (x.toInt - lo).toNat < os.size := by omega
    have ho : os[(x.toInt - lo).toNat]? = some os[(x.toInt - lo).toNat] := Array.getElem?_eq_getElem hlt
    have ho2 : os.toList[(x.toInt - lo).toNat]? = some os[(x.toInt - lo).toNat] := by rw [Array.getElem?_toList]; exact ho
    have h3 := gSw_el os.toList lo h.2 _ _ ho2 (by omega)
    have h4 := hk2 _ (List.mem_of_getElem? ho2)
    exact snd_lin h3 fun hC _ k => lv_tableIn hC.1 hC.2.1 hd h1 h2 ho (by omega) k
end Snd
