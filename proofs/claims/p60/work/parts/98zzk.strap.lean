/-! ===== placements across an edge ===== -/
def sumL {α : Type} (f : α → Int) : List α → Int
  | [] => 0
  | a :: l => f a + sumL f l
/-- the number of an edge of the placement at (x, y) -/
abbrev eI (x y : Int) (e : Int × Int × Int) : Int := 2 * (8 * (y + e.2.1) + (x + e.1)) + e.2.2
/-- how many edges of a placement have number k -/
def cvE (s k : Int) (p : Pos) : Int := sumI (fun j => bI (eI p.2.1 p.2.2 ((edg s p.1).getD j.toNat (0, 0, 0)) = k)) (edg s p.1).length
def xS (B : Bd) (s k : Int) : Int := sumL (cvE s k) ((allP B).filter (mis0 B s))
def xT (B : Bd) (q : Int → Int) (k : Int) : Int := sumI (fun s => if 0 < q s then xS B s k else 0) 5
theorem edg_cells : ∀ s : Nat, s < 5 → ∀ r : Nat, r < 4 → (edg s r).all (fun e => (List.range 4).any fun i => (List.range 4).any fun j => decide ((i : Int) < sz s ∧ (j : Int) < sz s ∧ e.1 = oR s r i ∧ e.2.1 = oD s r i ∧ ((e.2.2 = 0 ∧ oR s r j = e.1 + 1 ∧ oD s r j = e.2.1) ∨ (e.2.2 = 1 ∧ oR s r j = e.1 ∧ oD s r j = e.2.1 + 1)))) = true := by decide +kernel
theorem edg_cell {s r : Int} (hs : 0 ≤ s ∧ s < 5) (hr : 0 ≤ r ∧ r < 4) {e : Int × Int × Int} (he : e ∈ edg s r) : ∃ i j : Int, (0 ≤ i ∧ i < sz s) ∧ (0 ≤ j ∧ j < sz s) ∧ e.1 = oR s r i ∧ e.2.1 = oD s r i ∧ ((e.2.2 = 0 ∧ oR s r j = e.1 + 1 ∧ oD s r j = e.2.1) ∨ (e.2.2 = 1 ∧ oR s r j = e.1 ∧ oD s r j = e.2.1 + 1)) := by
  have h := edg_cells s.toNat (by omega) r.toNat (by omega)
  rw [show ((s.toNat : Nat) : Int) = s by omega, show ((r.toNat : Nat) : Int) = r by omega] at h
  obtain ⟨i, hi, q⟩ := List.any_eq_true.mp (List.all_eq_true.mp h e he)
  obtain ⟨j, hj, q⟩ := List.any_eq_true.mp q
  obtain ⟨q1, q2, q3⟩ := of_decide_eq_true q
  exact ⟨i, j, ⟨by omega, q1⟩, ⟨by omega, q2⟩, q3⟩
theorem edg_nodup : ∀ s : Nat, s < 5 → ∀ r : Nat, r < 4 → ((List.range (edg s r).length).all fun i => (List.range (edg s r).length).all fun j => decide (i = j ∨ (edg s r).getD i (0, 0, 0) ≠ (edg s r).getD j (0, 0, 0))) = true := by decide +kernel
/-- both cells of an edge of a placement that fits are empty, its strap is not there -/
theorem edge_in {B : Bd} (hB : bOk B) (hc : cOk B) {s r x y : Int} (hs : 0 ≤ s ∧ s < 5) (hr : 0 ≤ r ∧ r < 4) (h : bMis B s r x y = 0) {e : Int × Int × Int} (he : e ∈ edg s r) : bCell B (x + e.1) (y + e.2.1) = -1 ∧ bBey B (x + e.1) (y + e.2.1) e.2.2 = -1 ∧ bEdge B (x + e.1) (y + e.2.1) e.2.2 ∧ (e.2.2 = 0 ∨ e.2.2 = 1) ∧ bStrap B (x + e.1) (y + e.2.1) e.2.2 = 0 := by
  obtain ⟨i, j, ⟨i0, i1⟩, ⟨j0, j1⟩, e1, e2, e3⟩ := edg_cell hs hr he
  have ci := mis0_cell hB hc h i i0 i1
  have cj := mis0_cell hB hc h j j0 j1
  have cs := crs_edge (bMis0 h).2 e he
  unfold pX pY at ci cj
  rw [← e1, ← e2] at ci
  have hi := bIn_of ci
  have hj := bIn_of cj
  rcases e3 with ⟨z1, z2, z3⟩ | ⟨z1, z2, z3⟩
  · rw [z2, z3] at cj hj
    refine ⟨ci, ?_, ⟨hi, Or.inl ⟨z1, ?_⟩⟩, Or.inl z1, cs⟩
    · unfold bBey
      rw [if_pos z1, Int.add_assoc]; exact cj
    · have := hj.1.2
      omega
  · rw [z2, z3] at cj hj
    refine ⟨ci, ?_, ⟨hi, Or.inr ⟨by omega, ?_⟩⟩, Or.inr z1, cs⟩
    · unfold bBey
      rw [if_neg (by omega), Int.add_assoc]; exact cj
    · have := hj.2.2
      omega
theorem getD_mem {s r : Int} {j : Nat} (h : j < (edg s r).length) : (edg s r).getD j (0, 0, 0) ∈ edg s r := by
  rw [List.getD_eq_getElem?_getD, List.getElem?_eq_getElem h]
  exact List.getElem_mem h
theorem bSS_cell (B : Bd) (k v x y : Int) : bCell (bSS B k v) x y = bCell B x y := rfl
theorem cvE_one {B : Bd} (hB : bOk B) (hc : cOk B) {s k : Int} {p : Pos} (hs : 0 ≤ s ∧ s < 5) (hr : 0 ≤ p.1 ∧ p.1 < 4) (h : bMis B s p.1 p.2.1 p.2.2 = 0) : cvE s k p = if ∃ j, j < (edg s p.1).length ∧ eI p.2.1 p.2.2 ((edg s p.1).getD j (0, 0, 0)) = k then 1 else 0 := by
  unfold cvE
  by_cases q : ∃ j, j < (edg s p.1).length ∧ eI p.2.1 p.2.2 ((edg s p.1).getD j (0, 0, 0)) = k
  · rw [if_pos q]
    obtain ⟨j0, hj, hk⟩ := q
    have e0 := edge_in hB hc hs hr h (getD_mem hj)
    have nd := edg_nodup s.toNat (by omega) p.1.toNat (by omega)
    rw [show ((s.toNat : Nat) : Int) = s by omega, show ((p.1.toNat : Nat) : Int) = p.1 by omega] at nd
    rw [sumI_congr (f := fun j => bI (eI p.2.1 p.2.2 ((edg s p.1).getD j.toNat (0, 0, 0)) = k)) (f' := fun j => if j = (j0 : Int) then 1 else 0) (fun j z0 z1 => by
      by_cases e : j = (j0 : Int)
      · rw [if_pos e, e, Int.toNat_natCast, bI_t hk]
      · rw [if_neg e, bI_f]
        intro hk2
        have hjn : j.toNat < (edg s p.1).length := by omega
        have e1 := edge_in hB hc hs hr h (getD_mem hjn)
        have n := of_decide_eq_true (List.all_eq_true.mp (List.all_eq_true.mp nd j.toNat (List.mem_range.mpr hjn)) j0 (List.mem_range.mpr hj))
        generalize (edg s p.1).getD j.toNat (0, 0, 0) = a at hk2 e1 n
        generalize (edg s p.1).getD j0 (0, 0, 0) = b at hk e0 n
        have ha := bIn_of e1.1
        have hb := bIn_of e0.1
        have c1 := hB.1.2
        obtain ⟨a1, a2, a3⟩ := a
        obtain ⟨b1, b2, b3⟩ := b
        have w0 := e0.2
        have w1 := e1.2
        simp only [eI] at hk hk2 ha hb w0 w1
        have : a1 = b1 ∧ a2 = b2 ∧ a3 = b3 := by omega
        obtain ⟨rfl, rfl, rfl⟩ := this
        rcases n with n | n
        · omega
        · exact n rfl), sumI_single (v := fun _ => 1), if_pos (by omega)]
  · rw [if_neg q, sumI_congr (f := fun j => bI (eI p.2.1 p.2.2 ((edg s p.1).getD j.toNat (0, 0, 0)) = k)) (f' := fun _ => 0) (fun j z0 z1 => bI_f fun hk => q ⟨j.toNat, by omega, hk⟩), sumI_0]
theorem mis_strap {B : Bd} (hB : bOk B) (hc : cOk B) {s k : Int} {p : Pos} (hs : 0 ≤ s ∧ s < 5) (hr : 0 ≤ p.1 ∧ p.1 < 4) : bMis (bSS B k 1) s p.1 p.2.1 p.2.2 = 0 ↔ bMis B s p.1 p.2.1 p.2.2 = 0 ∧ ¬ ∃ j, j < (edg s p.1).length ∧ eI p.2.1 p.2.2 ((edg s p.1).getD j (0, 0, 0)) = k := by
  have st : ∀ X Y S : Int, bIn B X Y → (S = 0 ∨ S = 1) → bStrap (bSS B k 1) X Y S = if 2 * (8 * Y + X) + S = k then 1 else bStrap B X Y S := fun X Y S h1 h2 => by
    unfold bStrap
    rw [if_pos (show bIn (bSS B k 1) X Y ∧ 0 ≤ S ∧ S < 2 from ⟨h1, by omega⟩), if_pos (show bIn B X Y ∧ 0 ≤ S ∧ S < 2 from ⟨h1, by omega⟩)]
    rfl
  constructor
  · intro h
    have hB2 : bOk (bSS B k 1) := by
      obtain ⟨a1, a2, a3⟩ := hB
      refine ⟨a1, a2, fun j j0 j1 => ?_⟩
      show setI B.2.2.2 k 1 j = 0 ∨ setI B.2.2.2 k 1 j = 1
      unfold setI
      split
      · exact Or.inr rfl
      · exact a3 j j0 j1
    have hc2 : cOk (bSS B k 1) := hc
    have key : ∀ e ∈ edg s p.1, 2 * (8 * (p.2.2 + e.2.1) + (p.2.1 + e.1)) + e.2.2 ≠ k ∧ bStrap B (p.2.1 + e.1) (p.2.2 + e.2.1) e.2.2 = 0 := fun e he => by
      obtain ⟨z1, z2, z3, z4, z5⟩ := edge_in hB2 hc2 hs hr h he
      rw [st _ _ _ (bIn_of (B := B) z1) z4] at z5
      by_cases q : 2 * (8 * (p.2.2 + e.2.1) + (p.2.1 + e.1)) + e.2.2 = k
      · rw [if_pos q] at z5; omega
      · rw [if_neg q] at z5
        exact ⟨q, z5⟩
    refine ⟨bMis0_of (mis0_cell hB2 hc2 h) ?_, ?_⟩
    · cases q : bCrs B s p.1 p.2.1 p.2.2
      · rfl
      · exfalso
        unfold bCrs at q
        rw [anyF_iff] at q
        obtain ⟨j, ⟨j0, j1⟩, q⟩ := q
        exact of_decide_eq_true q (key _ (getD_mem (by omega))).2
    · rintro ⟨j, hj, hk⟩
      exact (key _ (getD_mem hj)).1 hk
  · rintro ⟨h, hn⟩
    refine bMis0_of (mis0_cell hB hc h) ?_
    cases q : bCrs (bSS B k 1) s p.1 p.2.1 p.2.2
    · rfl
    · exfalso
      unfold bCrs at q
      rw [anyF_iff] at q
      obtain ⟨j, ⟨j0, j1⟩, q⟩ := q
      have q := of_decide_eq_true q
      obtain ⟨z1, z2, z3, z4, z5⟩ := edge_in hB hc hs hr h (getD_mem (j := j.toNat) (by omega))
      rw [st _ _ _ (bIn_of z1) z4, if_neg (fun z => hn ⟨j.toNat, by omega, z⟩)] at q
      exact q z5
theorem rowL_mem {r y : Int} : ∀ {d : Nat} {x : Int} {p : Pos}, p ∈ rowL r y d x → p.1 = r ∧ p.2.2 = y ∧ x ≤ p.2.1 ∧ p.2.1 < x + d
  | 0, _, _, h => by cases h
  | d + 1, x, p, h => by
    rcases List.mem_cons.mp h with rfl | h
    · exact ⟨rfl, rfl, by simp only; omega, by simp only; omega⟩
    · have := rowL_mem h
      omega
theorem colL_mem {C : Nat} {r : Int} : ∀ {d : Nat} {y : Int} {p : Pos}, p ∈ colL C r d y → p.1 = r ∧ (0 ≤ p.2.1 ∧ p.2.1 < C) ∧ y ≤ p.2.2 ∧ p.2.2 < y + d
  | 0, _, _, h => by cases h
  | d + 1, y, p, h => by
    rcases List.mem_append.mp h with h | h
    · have := rowL_mem h
      omega
    · have := colL_mem h
      omega
theorem rotL_mem {C R : Nat} : ∀ {d : Nat} {r : Int} {p : Pos}, p ∈ rotL C R d r → (r ≤ p.1 ∧ p.1 < r + d) ∧ (0 ≤ p.2.1 ∧ p.2.1 < C) ∧ 0 ≤ p.2.2 ∧ p.2.2 < R
  | 0, _, _, h => by cases h
  | d + 1, r, p, h => by
    rcases List.mem_append.mp h with h | h
    · have := colL_mem h
      omega
    · have := rotL_mem h
      omega
theorem len_strap {B : Bd} (hB : bOk B) (hc : cOk B) {s k : Int} (hs : 0 ≤ s ∧ s < 5) : ∀ l : List Pos, (∀ p ∈ l, 0 ≤ p.1 ∧ p.1 < 4) → ((l.filter (mis0 (bSS B k 1) s)).length : Int) + sumL (cvE s k) (l.filter (mis0 B s)) = ((l.filter (mis0 B s)).length : Int)
  | [], _ => rfl
  | p :: l, h => by
    have ih := len_strap hB hc (s := s) (k := k) hs l fun q hq => h q (List.mem_cons_of_mem _ hq)
    have hr := h p List.mem_cons_self
    have hm := mis_strap hB hc (s := s) (k := k) (p := p) hs hr
    by_cases c1 : bMis B s p.1 p.2.1 p.2.2 = 0
    · have ho := cvE_one hB hc (k := k) hs hr c1
      rw [List.filter_cons_of_pos (show mis0 B s p = true from decide_eq_true c1)]
      simp only [sumL, List.length_cons]
      by_cases c2 : ∃ j, j < (edg s p.1).length ∧ eI p.2.1 p.2.2 ((edg s p.1).getD j (0, 0, 0)) = k
      · rw [if_pos c2] at ho
        rw [List.filter_cons_of_neg (show ¬ mis0 (bSS B k 1) s p = true from fun q => (hm.mp (of_decide_eq_true q)).2 c2), ho]
        omega
      · rw [if_neg c2] at ho
        rw [List.filter_cons_of_pos (show mis0 (bSS B k 1) s p = true from decide_eq_true (hm.mpr ⟨c1, c2⟩)), ho, List.length_cons]
        omega
    · rw [List.filter_cons_of_neg (show ¬ mis0 B s p = true from fun q => c1 (of_decide_eq_true q)), List.filter_cons_of_neg (show ¬ mis0 (bSS B k 1) s p = true from fun q => c1 (hm.mp (of_decide_eq_true q)).1)]
      exact ih
theorem bOk_SS {B : Bd} (hB : bOk B) (k : Int) : bOk (bSS B k 1) := by
  obtain ⟨a1, a2, a3⟩ := hB
  refine ⟨a1, a2, fun j j0 j1 => ?_⟩
  show setI B.2.2.2 k 1 j = 0 ∨ setI B.2.2.2 k 1 j = 1
  unfold setI
  split
  · exact Or.inr rfl
  · exact a3 j j0 j1
theorem fit_strap {B : Bd} (hB : bOk B) (hc : cOk B) {s k : Int} (hs : 0 ≤ s ∧ s < 5) : bFit B s - bFit (bSS B k 1) s = xS B s k := by
  rw [bFit_all hB hs.1 hs.2, bFit_all (bOk_SS hB k) hs.1 hs.2]
  have := len_strap hB hc (k := k) hs (allP B) fun p hp => by
    have := rotL_mem hp
    omega
  unfold xS
  have e : allP (bSS B k 1) = allP B := rfl
  rw [e]
  omega
theorem sumL_nn {f : Pos → Int} (h : ∀ p, 0 ≤ f p) : ∀ l, 0 ≤ sumL f l
  | [] => Int.le_refl _
  | p :: l => by
    have a := h p
    have b := sumL_nn h l
    simp only [sumL]
    omega
theorem sumL_pos {f : Pos → Int} : ∀ l : List Pos, 0 < sumL f l → ∃ p ∈ l, 0 < f p
  | [], h => by simp [sumL] at h
  | p :: l, h => by
    by_cases q : 0 < f p
    · exact ⟨p, List.mem_cons_self, q⟩
    · simp only [sumL] at h
      obtain ⟨p', h1, h2⟩ := sumL_pos (f := f) l (by omega)
      exact ⟨p', List.mem_cons_of_mem _ h1, h2⟩
theorem cvE_nn (s k : Int) (p : Pos) : 0 ≤ cvE s k p := (sumI_bd (b := 1) fun i _ _ => bI_bd _).1
theorem xS_nn (B : Bd) (s k : Int) : 0 ≤ xS B s k := sumL_nn (cvE_nn s k) _
theorem sumI_posI {f : Int → Int} : ∀ {n : Nat}, 0 < sumI f n → ∃ i : Int, (0 ≤ i ∧ i < n) ∧ 0 < f i
  | 0, h => by simp [sumI] at h
  | n + 1, h => by
    simp only [sumI] at h
    by_cases q : 0 < f n
    · exact ⟨n, by omega, q⟩
    · obtain ⟨i, h1, h2⟩ := sumI_posI (n := n) (f := f) (by omega)
      exact ⟨i, by omega, h2⟩
/-- where a placement goes across, a strap may be fastened -/
theorem xT_pos {B : Bd} (hB : bOk B) (hc : cOk B) {q : Int → Int} {k : Int} (h : 0 < xT B q k) : ∃ x y s, k = 2 * (8 * y + x) + s ∧ (s = 0 ∨ s = 1) ∧ bEdge B x y s ∧ bCell B x y = -1 ∧ bBey B x y s = -1 ∧ bStrap B x y s = 0 := by
  obtain ⟨s, hs, h1⟩ := sumI_posI h
  by_cases hq : 0 < q s
  · rw [if_pos hq] at h1
    obtain ⟨p, hp, h2⟩ := sumL_pos _ h1
    obtain ⟨hp1, hp2⟩ := List.mem_filter.mp hp
    have hr := rotL_mem hp1
    have hm := of_decide_eq_true hp2
    obtain ⟨j, ⟨j0, j1⟩, h3⟩ := sumI_posI h2
    have hk : eI p.2.1 p.2.2 ((edg s p.1).getD j.toNat (0, 0, 0)) = k := by
      by_cases z : eI p.2.1 p.2.2 ((edg s p.1).getD j.toNat (0, 0, 0)) = k
      · exact z
      · rw [bI_f z] at h3; omega
    obtain ⟨z1, z2, z3, z4, z5⟩ := edge_in hB hc (s := s) (r := p.1) (by omega) (by omega) hm (getD_mem (j := j.toNat) (by omega))
    exact ⟨_, _, _, hk.symm, z4, z3, z1, z2, z5⟩
  · rw [if_neg hq] at h1
    omega
/-- the answer, as each side finds it -/
def isEf (A : AS) (v : Int) : Prop := 0 ≤ v ∧ (∀ x y s, (s = 0 ∨ s = 1) → bEdge A.bd x y s → aMayS A x y s → xT A.bd (aPl A (1 - A.mv)).2.2.2.1 (2 * (8 * y + x) + s) ≤ v) ∧ (v = 0 ∨ ∃ x y s, (s = 0 ∨ s = 1) ∧ bEdge A.bd x y s ∧ aMayS A x y s ∧ xT A.bd (aPl A (1 - A.mv)).2.2.2.1 (2 * (8 * y + x) + s) = v)
theorem isEf_u {A : AS} {v v' : Int} (h : isEf A v) (h' : isEf A v') : v = v' := by
  have key : ∀ {v v' : Int}, isEf A v → isEf A v' → v ≤ v' := by
    intro v v' h h'
    rcases h.2.2 with e | ⟨x, y, s, h1, h2, h3, e⟩
    · have := h'.1; omega
    · have := h'.2.1 x y s h1 h2 h3
      omega
  exact Int.le_antisymm (key h h') (key h' h)
