/-! ===== all places in order; the reference's counts ===== -/
def mis0 (B : Bd) (s : Int) (p : Pos) : Bool := decide (bMis B s p.1 p.2.1 p.2.2 = 0)
def rowL (r y : Int) : Nat → Int → List Pos
  | 0, _ => []
  | d + 1, x => (r, x, y) :: rowL r y d (x + 1)
def colL (C : Nat) (r : Int) : Nat → Int → List Pos
  | 0, _ => []
  | d + 1, y => rowL r y C 0 ++ colL C r d (y + 1)
def rotL (C R : Nat) : Nat → Int → List Pos
  | 0, _ => []
  | d + 1, r => colL C r R 0 ++ rotL C R d (r + 1)
def allP (B : Bd) : List Pos := rotL B.1.toNat B.2.1.toNat 4 0
/-- the walk from p goes through l, and ends -/
def Wk (C R : Int) : List Pos → Pos → Prop
  | [], p => nextP C R p = none
  | q :: l, p => nextP C R p = some q ∧ Wk C R l q
theorem fN_find {B : Bd} {s : Int} : ∀ {l : List Pos} {p : Pos} {K : Nat}, Wk B.1 B.2.1 l p → l.length ≤ K → fN B s K p = l.find? (mis0 B s)
  | [], p, K, h, hl => by
    have h' : nextP B.1 B.2.1 p = none := h
    cases K with
    | zero => rfl
    | succ K => unfold fN; rw [h']; rfl
  | q :: l, p, K, h, hl => by
    obtain ⟨h1, h2⟩ := h
    cases K with
    | zero => simp at hl
    | succ K =>
      unfold fN
      rw [h1]
      show (if bMis B s q.1 q.2.1 q.2.2 = 0 then some q else fN B s K q) = _
      rw [List.find?_cons]
      by_cases hm : bMis B s q.1 q.2.1 q.2.2 = 0
      · rw [if_pos hm, show mis0 B s q = true from decide_eq_true hm]
      · rw [if_neg hm, show mis0 B s q = false from decide_eq_false hm]
        exact fN_find h2 (by simp at hl; omega)
theorem fL_filter {B : Bd} {s : Int} : ∀ {l : List Pos} {p : Pos} {K : Nat}, Wk B.1 B.2.1 l p → l.length ≤ K → l.length ≤ 256 → fL B s K p = l.filter (mis0 B s)
  | [], p, K, h, hl, h256 => by
    cases K with
    | zero => rfl
    | succ K => unfold fL; rw [fN_find h h256]; rfl
  | q :: l, p, K, h, hl, h256 => by
    have hf := fN_find (s := s) h h256
    obtain ⟨h1, h2⟩ := h
    have hl' : l.length + 1 ≤ K := hl
    have h256' : l.length + 1 ≤ 256 := h256
    cases K with
    | zero => omega
    | succ K =>
      rw [List.find?_cons] at hf
      by_cases hm : bMis B s q.1 q.2.1 q.2.2 = 0
      · rw [show mis0 B s q = true from decide_eq_true hm] at hf
        rw [List.filter_cons_of_pos (show mis0 B s q = true from decide_eq_true hm)]
        unfold fL
        rw [hf]
        show q :: fL B s K q = _
        rw [fL_filter h2 (by omega) (by omega)]
      · rw [show mis0 B s q = false from decide_eq_false hm] at hf
        rw [List.filter_cons_of_neg (show ¬ mis0 B s q = true from fun k => hm (of_decide_eq_true k)), ← fL_filter (K := K + 1) h2 (by omega) (by omega)]
        unfold fL
        rw [hf, fN_find h2 (by omega)]
theorem Wk_row {C R : Int} {r y : Int} {l : List Pos} : ∀ (d : Nat) (x : Int), x + d = C - 1 → Wk C R l (r, C - 1, y) → Wk C R (rowL r y d (x + 1) ++ l) (r, x, y)
  | 0, x, h, hl => by
    rw [show x = C - 1 by omega]
    exact hl
  | d + 1, x, h, hl => by
    refine ⟨?_, Wk_row d (x + 1) (by omega) hl⟩
    unfold nextP
    rw [if_pos (by show x + 1 < C; omega)]
theorem Wk_col {C : Nat} {R : Int} {r : Int} {l : List Pos} (hC : 0 < C) : ∀ (d : Nat) (y : Int), y + d = R - 1 → Wk C R l (r, (C : Int) - 1, R - 1) → Wk C R (colL C r d (y + 1) ++ l) (r, (C : Int) - 1, y)
  | 0, y, h, hl => by
    rw [show y = R - 1 by omega]
    exact hl
  | d + 1, y, h, hl => by
    unfold colL
    obtain ⟨c, rfl⟩ : ∃ c, C = c + 1 := ⟨C - 1, by omega⟩
    rw [List.append_assoc]
    refine ⟨?_, ?_⟩
    · unfold nextP
      rw [if_neg (by show ¬ ((c + 1 : Nat) : Int) - 1 + 1 < ((c + 1 : Nat) : Int); omega), if_pos (by show y + 1 < R; omega)]
    · exact Wk_row c 0 (by omega) (Wk_col hC d (y + 1) (by omega) hl)
theorem Wk_rot {C R : Nat} (hC : 0 < C) (hR : 0 < R) : ∀ (d : Nat) (r : Int), r + d = 3 → Wk C R (rotL C R d (r + 1)) (r, (C : Int) - 1, (R : Int) - 1)
  | 0, r, h => by
    show nextP C R (r, (C : Int) - 1, (R : Int) - 1) = none
    unfold nextP
    rw [if_neg (by show ¬ (C : Int) - 1 + 1 < C; omega), if_neg (by show ¬ (R : Int) - 1 + 1 < R; omega), if_neg (by show ¬ r < 3; omega)]
  | d + 1, r, h => by
    have ih := Wk_rot hC hR d (r + 1) (by omega)
    unfold rotL
    obtain ⟨c, rfl⟩ : ∃ c, C = c + 1 := ⟨C - 1, by omega⟩
    obtain ⟨e, rfl⟩ : ∃ c, R = c + 1 := ⟨R - 1, by omega⟩
    unfold colL
    rw [List.append_assoc]
    refine ⟨?_, ?_⟩
    · unfold nextP
      rw [if_neg (by show ¬ ((c + 1 : Nat) : Int) - 1 + 1 < ((c + 1 : Nat) : Int); omega), if_neg (by show ¬ ((e + 1 : Nat) : Int) - 1 + 1 < ((e + 1 : Nat) : Int); omega), if_pos (by show r < 3; omega)]
    · exact Wk_row c 0 (by omega) (Wk_col hC e 0 (by omega) ih)
theorem Wk_all {C R : Nat} (hC : 0 < C) (hR : 0 < R) : Wk C R (rotL C R 4 0) (0, -1, 0) := by
  have ih := Wk_rot hC hR 3 0 (by omega)
  unfold rotL
  obtain ⟨c, rfl⟩ : ∃ c, C = c + 1 := ⟨C - 1, by omega⟩
  obtain ⟨e, rfl⟩ : ∃ c, R = c + 1 := ⟨R - 1, by omega⟩
  unfold colL
  rw [List.append_assoc]
  exact Wk_row (c + 1) (-1) (by omega) (Wk_col hC e 0 (by omega) ih)
theorem rowL_len (r y : Int) : ∀ (d : Nat) (x : Int), (rowL r y d x).length = d
  | 0, _ => rfl
  | d + 1, x => congrArg (· + 1) (rowL_len r y d (x + 1))
theorem colL_len (C : Nat) (r : Int) : ∀ (d : Nat) (y : Int), (colL C r d y).length = d * C
  | 0, _ => by simp [colL]
  | d + 1, y => by rw [colL, List.length_append, rowL_len, colL_len C r d, Nat.succ_mul, Nat.add_comm]
theorem rotL_len (C R : Nat) : ∀ (d : Nat) (r : Int), (rotL C R d r).length = d * (R * C)
  | 0, _ => by simp [rotL]
  | d + 1, r => by rw [rotL, List.length_append, colL_len, rotL_len C R d, Nat.succ_mul, Nat.add_comm]
theorem bMis_out {B : Bd} (h : B.1 ≤ 0 ∨ B.2.1 ≤ 0) {s : Int} (h0 : 0 ≤ s) (h1 : s < 5) (r x y : Int) : bMis B s r x y = 1 := by
  have hz := sz_bd h0 h1
  unfold bMis
  rw [if_pos]
  rw [anyF_iff]
  refine ⟨0, ⟨by omega, by omega⟩, decide_eq_true ?_⟩
  unfold bCell
  rw [if_neg (by omega)]
theorem fL_all {B : Bd} (hB : bOk B) {s : Int} (h0 : 0 ≤ s) (h1 : s < 5) : fL B s 256 (0, -1, 0) = (allP B).filter (mis0 B s) := by
  obtain ⟨⟨c0, c1⟩, ⟨r0, r1⟩, -⟩ := hB
  by_cases h : 0 < B.1 ∧ 0 < B.2.1
  · have hw := Wk_all (C := B.1.toNat) (R := B.2.1.toNat) (by omega) (by omega)
    rw [show ((B.1.toNat : Nat) : Int) = B.1 by omega, show ((B.2.1.toNat : Nat) : Int) = B.2.1 by omega] at hw
    have hl : (rotL B.1.toNat B.2.1.toNat 4 0).length ≤ 256 := by
      rw [rotL_len]
      have : B.2.1.toNat * B.1.toNat ≤ 8 * 8 := Nat.mul_le_mul (by omega) (by omega)
      omega
    exact fL_filter hw hl hl
  · have hm := bMis_out (B := B) (by omega) h0 h1
    have hn : ∀ (K : Nat) (p : Pos), fN B s K p = none := by
      intro K
      induction K with
      | zero => intro p; rfl
      | succ K ih =>
        intro p
        unfold fN
        cases nextP B.1 B.2.1 p with
        | none => rfl
        | some q =>
          show (if bMis B s q.1 q.2.1 q.2.2 = 0 then some q else fN B s K q) = none
          rw [hm, if_neg (by decide)]
          exact ih q
    have e1 : fL B s 256 (0, -1, 0) = [] := by
      show fL B s (255 + 1) (0, -1, 0) = []
      unfold fL
      rw [hn]
    rw [e1]
    refine (List.filter_eq_nil_iff.mpr fun p _ k => ?_).symm
    have := of_decide_eq_true k
    rw [hm] at this
    omega
/-- loops over all places, front to back -/
def pfold {α : Type} (F : α → Pos → α) (l : List Pos) (a : α) : α := l.foldl F a
theorem bFit_all {B : Bd} (hB : bOk B) {s : Int} (h0 : 0 ≤ s) (h1 : s < 5) : bFit B s = ((allP B).filter (mis0 B s)).length := by
  unfold bFit
  rw [fL_all hB h0 h1]
section
variable {g : PG} {u : PM} {t : Nat} {s r x y : Int}
theorem filter_row {P : Pos → Bool} {r y x : Int} {d : Nat} : ((rowL r y (d + 1) x).filter P).length = (if P (r, x, y) = true then 1 else 0) + ((rowL r y d (x + 1)).filter P).length := by
  show (((r, x, y) :: rowL r y d (x + 1)).filter P).length = _
  by_cases h : P (r, x, y) = true
  · rw [List.filter_cons_of_pos h, if_pos h, List.length_cons]; omega
  · rw [List.filter_cons_of_neg h, if_neg h]; omega
theorem mOk_b {m : Int → Int} (ho : mOk m) : bOk (bdM m) := by
  obtain ⟨h1, h2, -, h4⟩ := ho
  refine ⟨h1, h2, fun j j0 j1 => ?_⟩
  show cl 128 (fun k => m (97 + 64 * (k % 2) + k / 2)) j = 0 ∨ cl 128 (fun k => m (97 + 64 * (k % 2) + k / 2)) j = 1
  rw [cl_in j0 j1]
  have := h4 (64 * (j % 2) + j / 2) (by omega) (by omega)
  rw [show 97 + 64 * (j % 2) + j / 2 = 97 + (64 * (j % 2) + j / 2) by omega]
  exact this
end
