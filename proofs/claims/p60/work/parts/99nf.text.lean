/-! ===== the opening text is written by the class ===== -/
theorem and_c : ∀ c : Fin 128, and2 ((c.val : Nat) : Int) 255 = ((c.val : Nat) : Int) := by decide +kernel
/-- a text as bytes -/
def txB (tx : List Nat) : Int → Int := fun k => ((tx.getD k.toNat 0 : Nat) : Int)
theorem TxO_eq {u : PM} {a : Nat} {n : Int} {b b' : Int → Int} (h : TxO u a n b) (e : ∀ k : Int, 0 ≤ k → k < n → b' k = b k) : TxO u a n b' :=
  ⟨h.1, h.2.1, fun k k0 k1 => by rw [e k k0 k1]; exact h.2.2.1 k k0 k1, fun k k0 k1 => by rw [e k k0 k1]; exact h.2.2.2 k k0 k1⟩
section
variable {g : PG} {u : PM} {r : Nat}
theorem Rd_text (hk : kRd g r) (h0 : u r 0 = 0) {p : Nat} {tx : List Nat} (htx : gStr p = some tx) (hl : tx.length ≤ 600) (hc : ∀ i : Nat, i < tx.length → tx.getD i 0 < 128) : ∃ v, call M_Rd_writeText [vA r, vA p] g u = some (0, vN, g, v) ∧ v r 0 = tx.length ∧ TxO v (r + 24) tx.length (txB tx) ∧ FB r u v := by
  have key : ∀ (d i : Nat) (x : PM), i + d = tx.length → x r 0 = i → TxO x (r + 24) i (txB tx) → ∃ v, run M_Rd_writeText 2 [vA r, vA p, vI i] [] g x = some (0, vN, g, v) ∧ v r 0 = tx.length ∧ TxO v (r + 24) tx.length (txB tx) ∧ FB r x v := by
    intro d
    induction d with
    | zero =>
      intro i x hi h1 h2
      have : i = tx.length := by omega
      subst this
      refine ⟨x, ?_, h1, h2, fun _ _ _ _ => rfl⟩
      rw [R_Rd_writeText_2, htx, pTx_some, if_neg (by omega)]
    | succ d ih =>
      intro i x hi h1 h2
      have hch := hc i (by omega)
      have e255 := and_c ⟨tx.getD i 0, hch⟩
      have e255' : and2 ((tx.getD i 0 : Nat) : Int) 255 = ((tx.getD i 0 : Nat) : Int) := e255
      obtain ⟨y, e1, l1, t1, f1⟩ := Rd_writeByte (g := g) hk h1 h2 (by omega) ((tx.getD i 0 : Nat) : Int) (by rw [e255']; omega)
      rw [e255'] at t1
      have t2 : TxO y (r + 24) ((i + 1 : Nat) : Int) (txB tx) := by
        rw [show ((i + 1 : Nat) : Int) = (i : Int) + 1 by omega]
        refine TxO_eq t1 fun k k0 k1 => ?_
        by_cases e : k = i
        · rw [e, setI_s]
          unfold txB
          rw [Int.toNat_natCast]
        · rw [setI_o e]
      obtain ⟨v, e2, l2, t3, f2⟩ := ih (i + 1) y (by omega) (by rw [l1]; omega) t2
      refine ⟨v, ?_, l2, t3, f1.tr f2⟩
      rw [R_Rd_writeText_2, htx, pTx_some, if_pos (by omega), pTx_some, decide_eq_true (show (0 : Int) ≤ i by omega), decide_eq_true (show (i : Int) < tx.length by omega), Bool.and_true, cond_true, gd_O hk.1, Int.toNat_natCast, e1, cV_some, w_id (x := (i : Int) + 1) (by omega) (by omega), show (i : Int) + 1 = ((i + 1 : Nat) : Int) by omega]
      exact e2
  rw [C_Rd_writeText]
  exact key tx.length 0 u (by omega) h0 ⟨by decide, by decide, fun k k0 k1 => by omega, fun k k0 k1 => by omega⟩
end
def tOpen : List Nat := gTexts.getD 0 []
theorem gOpen : gStr 100016 = some tOpen := rfl
theorem open_c : tOpen.length ≤ 600 ∧ ∀ i : Nat, i < tOpen.length → tOpen.getD i 0 < 128 := by
  refine ⟨by decide +kernel, ?_⟩
  have key : ∀ i : Fin tOpen.length, tOpen.getD i.val 0 < 128 := by decide +kernel
  exact fun i hi => key ⟨i, hi⟩
