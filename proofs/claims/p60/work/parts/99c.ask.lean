/-! ===== p60: what stands between the law's calls; its questions ===== -/
/-- the state, the history, what is drawn from, script and text -/
abbrev SX : Type := AS × List AS × Int × Nat
def Sd (X : SX) (u : PM) : Prop := RO u ∧ absT u 27 = X.1 ∧ ((0 ≤ u 61 0 ∧ u 61 0 ≤ 8) ∧ (0 ≤ u 61 1 ∧ u 61 1 < 8) ∧ hT u 61 = X.2.1) ∧ u 0 0 = X.2.2.1
def Sx (X : SX) : Prop := wfX X.1 ∧ (∀ A ∈ X.2.1, wfX A) ∧ inR X.2.2.1
def St (X : SX) (k : Nat) (g : PG) (u : PM) : Prop := 249 ≤ g.1 ∧ g.2.2 = X.2.2.2 ∧ g.2.1 ≤ k ∧ Sx X ∧ Sd X u
/-- cells that are not looked at -/
def Un (a : Nat) : Prop := (44 ≤ a ∧ a ≤ 60) ∨ (235 ≤ a ∧ a ≤ 247)
def FU (u u' : PM) : Prop := ∀ (a : Nat) (k : Int), ¬ Un a → u' a k = u a k
theorem FU.tr {u v x : PM} (h : FU u v) (h' : FU v x) : FU u x := fun a k z => (h' a k z).trans (h a k z)
theorem FU.rfl' {u : PM} : FU u u := fun _ _ _ => rfl
theorem FqT.un {u v : PM} (h : FqT 1 u v) : FU u v := fun a k z => h a k (by unfold Un at z; omega) (by unfold Un at z; omega)
theorem Fr.un {u v : PM} (h : Fr 235 u v) : FU u v := fun a k z => h a k (by unfold Un at z; omega)
theorem Ft.un {u v : PM} (h : Ft 1 u v) : FU u v := fun a k z => h a k (by unfold Un at z; omega) (by unfold Un at z; omega)
section
variable {g : PG} {u : PM} {X : SX} {k : Nat}
theorem K_ {a : Nat} (h : 249 ≤ g.1) (k : Nat × Nat × Nat) (ha : a < 249) (hk : pKind a = k) : KA g a k := KA_of (by omega) (by omega) hk
theorem K_TD (h : 249 ≤ g.1) : kTD g 1 := ⟨K_ h _ (by decide) rfl, kSt_of h (by decide), kFp_of h (Or.inr rfl), by decide⟩
theorem K_Rd (h : 249 ≤ g.1) : kRd g 2 := ⟨K_ h _ (by decide) rfl, kSt_of h (by decide), kFp_of h (Or.inl rfl), K_ h _ (by decide) rfl, by decide⟩
theorem K_Rg (h : 249 ≤ g.1) : kRg g 244 := ⟨K_ h _ (by decide) rfl, K_ h _ (by decide) rfl, K_ h _ (by decide) rfl, K_ h _ (by decide) rfl⟩
theorem K_Hi (h : 249 ≤ g.1) : ∀ i : Nat, i < 8 → kSt g (61 + 1 + 1 + 17 * i) := fun i hi => kSt_of h (by
  have key : ∀ i : Fin 8, 61 + 1 + 1 + 17 * i.val ∈ pSts := by decide
  exact key ⟨i, hi⟩)
theorem St.x (h : St X k g u) : wfX X.1 := h.2.2.2.1.1
theorem St.w (h : St X k g u) : wf X.1 := h.x.1
theorem St.a (h : St X k g u) : absT u (1 + 26) = X.1 := h.2.2.2.2.2.1
theorem St.b (h : St X k g u) : bdT u (1 + 26 + 1) = X.1.bd := by rw [← h.a]; rfl
theorem St.t (h : St X k g u) : kTD g 1 := K_TD h.1
theorem St.p (h : St X k g u) : pOk2 g u 1 := ⟨h.t, by rw [h.a]; exact h.w.1.1, by rw [h.a]; exact wf_n h.w, h.2.2.2.2.1⟩
theorem St.bo (h : St X k g u) : bOk (bdT u (1 + 26 + 1)) := by rw [h.b]; exact h.w.1.1
theorem St.no (h : St X k g u) : nOk (absT u (1 + 26)) := by rw [h.a]; exact wf_n h.w
theorem St.h (h : St X k g u) : hOk g u 61 := ⟨K_ h.1 _ (by decide) rfl, K_ h.1 _ (by decide) rfl, K_Hi h.1, h.2.2.2.2.2.2.1.1, h.2.2.2.2.2.2.1.2.1⟩
theorem St.l (h : St X k g u) : hT u 61 = X.2.1 := h.2.2.2.2.2.2.1.2.2
theorem St_un {g' : PG} {u' : PM} {k' : Nat} (h : St X k g u) (f : FU u u') (h1 : g'.1 = g.1) (h2 : g'.2.2 = g.2.2) (h3 : g'.2.1 ≤ k') : St X k' g' u' := by
  obtain ⟨a1, a2, a3, a4, b1, b2, ⟨b3, b4, b5⟩, b6⟩ := h
  refine ⟨by omega, by omega, h3, a4, RO_eq (fun a k ha => f a k (by unfold Un; omega)) b1, ?_, ⟨?_, ?_, ?_⟩, ?_⟩
  · rw [absT_eq fun a k c1 c2 => f a k (by unfold Un; omega)]; exact b2
  · rw [f 61 0 (by unfold Un; omega)]; exact b3
  · rw [f 61 1 (by unfold Un; omega)]; exact b4
  · rw [hT_fr fun a k c1 c2 => f a k (by unfold Un; omega)]; exact b5
  · rw [f 0 0 (by unfold Un; omega)]; exact b6
theorem St.up {k' : Nat} (h : St X k g u) (hk : k ≤ k') : St X k' g u := ⟨h.1, h.2.1, Nat.le_trans h.2.2.1 hk, h.2.2.2⟩
/-- a call answers v and leaves what stands -/
def Ask (X : SX) (k : Nat) (c : Option PO) (v : Int) : Prop := ∃ g' u', c = some (0, vI v, g', u') ∧ St X k g' u'
theorem Ask.up {k' : Nat} {c : Option PO} {v : Int} (h : Ask X k c v) (hk : k ≤ k') : Ask X k' c v := by
  obtain ⟨g', u', e, s⟩ := h
  exact ⟨g', u', e, s.up hk⟩
theorem Ask.go {P : Option PO → Prop} {c : Option PO} {v : Int} {K : Int → PG → PM → Option PO} {hx : Nat → PG → PM → Option PO} (h : Ask X k c v) (hk : ∀ g u, St X k g u → P (K v g u)) : P (cI c K hx) := by
  obtain ⟨g', u', e, s⟩ := h
  rw [e]
  exact hk g' u' s
theorem St.td {P : Option PO → Prop} {o : Option PO} (h : St X k g u) (hk : P o) : P (bif pW 1 && pO (pK g 1) 10 then o else none) := by
  rw [gd_O h.t.1]
  exact hk
theorem St.ret {v : Int} (h : St X k g u) : Ask X k (some (0, vI v, g, u)) v := ⟨g, u, rfl, h⟩
theorem ite_t {α : Type} {p : Prop} [Decidable p] {P : α → Prop} {a b : α} (h : p) (ha : P a) : P (if p then a else b) := by rw [if_pos h]; exact ha
theorem ite_f {α : Type} {p : Prop} [Decidable p] {P : α → Prop} {a b : α} (h : ¬ p) (hb : P b) : P (if p then a else b) := by rw [if_neg h]; exact hb
theorem ask_aq {c : Option PO} {v : Int} (h : St X k g u) (hq : AqT g u 1 c 0 v) : Ask X k c v := by
  obtain ⟨u', f, e⟩ := hq
  rw [if_pos rfl] at e
  exact ⟨g, u', e, St_un h (FqT.un f) rfl rfl h.2.2.1⟩
theorem ask_an {c : Option PO} {v : Int} (h : St X k g u) (hq : AnT g u 1 c 0 v) : Ask X k c v := ask_aq h hq.q
/-- a question behind a wrapper of the law -/
theorem ask_ok {c : Option PO} {v r : Int} {K : Int → PG → PM → Option PO} {hx : Nat → PG → PM → Option PO} (h : St X k g u) (hq : Ask X k c v) (hK : ∀ g u, K v g u = some (0, vI r, g, u)) : Ask X k (bif pW 1 && pO (pK g 1) 10 then cI c K hx else none) r := by
  refine h.td (P := fun o => Ask X k o r) (hq.go (P := fun o => Ask X k o r) fun g1 u1 h1 => ?_)
  rw [hK]
  exact h1.ret
theorem ask_no {c : Option PO} {e : Nat} {v r : Int} {K : Int → PG → PM → Option PO} {hx : Nat → PG → PM → Option PO} (h : St X k g u) (hq : AqT g u 1 c e v) (he : e ≠ 0) (hh : ∀ g u, hx (e - 1) g u = some (0, vI r, g, u)) : Ask X (k + 1) (bif pW 1 && pO (pK g 1) 10 then cI c K hx else none) r := by
  obtain ⟨u', f, e1⟩ := hq
  rw [if_neg he] at e1
  refine h.td (P := fun o => Ask X (k + 1) o r) ?_
  obtain ⟨e, rfl⟩ : ∃ d, e = d + 1 := ⟨e - 1, by omega⟩
  rw [e1, cI_exc, show e = e + 1 - 1 by omega, hh]
  exact ⟨_, _, rfl, St_un h (FqT.un f) rfl rfl (Nat.succ_le_succ h.2.2.1)⟩
theorem bI01 (p : Prop) [Decidable p] (g : PG) (u : PM) : (if bI p = 0 then some (0, vI 0, g, u) else some (0, vI 1, g, u) : Option PO) = some (0, vI (bI p), g, u) := by
  by_cases h : p
  · rw [bI_t h, if_neg (by decide)]
  · rw [bI_f h, if_pos rfl]
theorem eCe0 {B : Bd} {x y : Int} (h : bIn B x y) : eCe B x y = 0 := if_pos h
theorem eAim0 {B : Bd} {s r x y : Int} (hs : 0 ≤ s ∧ s < 5) (hr : 0 ≤ r ∧ r < 4) (h : bIn B x y) : eAim B s r x y = 0 := by
  unfold eAim
  rw [if_pos ⟨hs, hr⟩, if_pos h]
theorem ePl0 {p : Int} (h : p = 0 ∨ p = 1) : ePl p = 0 := if_pos (by omega)
theorem ePi0 {A : AS} {k : Int} (h0 : 0 ≤ k) (h1 : k < A.n) : ePi A k = 0 := if_pos ⟨h0, h1⟩
section
variable {x y s r p : Int}
theorem q_isBlocked (h : St X k g u) (hi : bIn X.1.bd x y) : Ask X k (call M_L_isBlocked [vA 1, vI x, vI y] g u) (bI (bCell X.1.bd x y = -2)) := by
  have q := TD_isBlocked h.t h.bo x y
  rw [h.b, eCe0 hi] at q
  rw [C_L_isBlocked]
  exact ask_ok h (ask_an h q) fun g u => bI01 _ g u
theorem q_pieceAt (h : St X k g u) (hi : bIn X.1.bd x y) : Ask X k (call M_L_pieceAt [vA 1, vI x, vI y] g u) (if 0 ≤ bCell X.1.bd x y then bCell X.1.bd x y else -1) := by
  have q := TD_pieceAt h.t h.bo x y
  rw [h.b, eCe0 hi, if_pos hi] at q
  rw [C_L_pieceAt]
  exact ask_ok h (ask_an h q) fun _ _ => rfl
theorem strap01 {B : Bd} (hB : bOk B) (x y s : Int) : bStrap B x y s = 0 ∨ bStrap B x y s = 1 := by
  unfold bStrap
  by_cases w : bIn B x y ∧ 0 ≤ s ∧ s < 2
  · rw [if_pos w]
    have a1 := hB.1
    have a2 := hB.2.1
    exact hB.2.2 _ (by omega) (by omega)
  · rw [if_neg w]; exact Or.inl rfl
theorem q_hasStrap (h : St X k g u) (hs : 0 ≤ s ∧ s < 2) (hi : bEdge X.1.bd x y s) : Ask X k (call M_L_hasStrap [vA 1, vI x, vI y, vI s] g u) (bStrap X.1.bd x y s) := by
  have q := TD_hasStrap h.t h.bo x y s
  rw [h.b, show eEd X.1.bd x y s = 0 by unfold eEd; rw [if_pos hs, if_pos hi]] at q
  rw [C_L_hasStrap]
  refine ask_ok h (ask_an h q) fun g u => ?_
  rcases strap01 h.w.1.1 x y s with e | e <;> rw [e] <;> rfl
theorem q_noStrap (h : St X k g u) (hs : 0 ≤ s ∧ s < 2) (hi : ¬ bEdge X.1.bd x y s) : Ask X (k + 1) (call M_L_hasStrap [vA 1, vI x, vI y, vI s] g u) (-17) := by
  have q := TD_hasStrap h.t h.bo x y s
  rw [h.b, show eEd X.1.bd x y s = 2 by unfold eEd; rw [if_pos hs, if_neg hi]] at q
  rw [C_L_hasStrap]
  exact ask_no h q.q (by decide) fun _ _ => rfl
theorem q_emptyInRow (h : St X k g u) (hi : 0 ≤ y ∧ y < X.1.bd.2.1) : Ask X k (call M_L_emptyInRow [vA 1, vI y] g u) (bEmp X.1.bd y) := by
  have q := TD_emptyInRow h.t h.bo y
  rw [h.b, if_pos hi, if_pos hi] at q
  rw [C_L_emptyInRow]
  exact ask_ok h (ask_an h q) fun _ _ => rfl
theorem q_pieceShape (h : St X k g u) (h0 : 0 ≤ p) (h1 : p < X.1.n) : Ask X k (call M_L_pieceShape [vA 1, vI p] g u) (X.1.pc 0 p) := by
  have q := TD_pieceShape h.t h.no p
  rw [h.a, ePi0 h0 h1] at q
  rw [C_L_pieceShape]
  exact ask_ok h (ask_an h q) fun _ _ => rfl
theorem q_pieceRotation (h : St X k g u) (h0 : 0 ≤ p) (h1 : p < X.1.n) : Ask X k (call M_L_pieceRotation [vA 1, vI p] g u) (X.1.pc 1 p) := by
  have q := TD_pieceRotation h.t h.no p
  rw [h.a, ePi0 h0 h1] at q
  rw [C_L_pieceRotation]
  exact ask_ok h (ask_an h q) fun _ _ => rfl
theorem q_pieceColumn (h : St X k g u) (h0 : 0 ≤ p) (h1 : p < X.1.n) : Ask X k (call M_L_pieceColumn [vA 1, vI p] g u) (X.1.pc 2 p) := by
  have q := TD_pieceColumn h.t h.no p
  rw [h.a, ePi0 h0 h1] at q
  rw [C_L_pieceColumn]
  exact ask_ok h (ask_an h q) fun _ _ => rfl
theorem q_pieceRow (h : St X k g u) (h0 : 0 ≤ p) (h1 : p < X.1.n) : Ask X k (call M_L_pieceRow [vA 1, vI p] g u) (X.1.pc 3 p) := by
  have q := TD_pieceRow h.t h.no p
  rw [h.a, ePi0 h0 h1] at q
  rw [C_L_pieceRow]
  exact ask_ok h (ask_an h q) fun _ _ => rfl
theorem q_pieceOwner (h : St X k g u) (h0 : 0 ≤ p) (h1 : p < X.1.n) : Ask X k (call M_L_pieceOwner [vA 1, vI p] g u) (X.1.pc 4 p) := by
  have q := TD_pieceOwner h.t h.no p
  rw [h.a, ePi0 h0 h1] at q
  rw [C_L_pieceOwner]
  exact ask_ok h (ask_an h q) fun _ _ => rfl
theorem q_piecePoints (h : St X k g u) (h0 : 0 ≤ p) (h1 : p < X.1.n) : Ask X k (call M_L_piecePoints [vA 1, vI p] g u) (X.1.pc 5 p) := by
  have q := TD_piecePoints h.t h.no p
  rw [h.a, ePi0 h0 h1] at q
  rw [C_L_piecePoints]
  exact ask_ok h (ask_an h q) fun _ _ => rfl
theorem q_score (h : St X k g u) (hp : p = 0 ∨ p = 1) : Ask X k (call M_L_score [vA 1, vI p] g u) (aPl X.1 p).1 := by
  have q := TD_score (u := u) h.t p
  rw [h.a, ePl0 hp] at q
  rw [C_L_score]
  exact ask_ok h (ask_an h q) fun _ _ => rfl
theorem q_supply (h : St X k g u) (hp : p = 0 ∨ p = 1) (hs : 0 ≤ s ∧ s < 5) : Ask X k (call M_L_supply [vA 1, vI p, vI s] g u) ((aPl X.1 p).2.2.2.1 s) := by
  have q := TD_supply (u := u) h.t p s
  rw [h.a, ePl0 hp, if_pos rfl, show eSh s = 0 from if_pos hs] at q
  rw [C_L_supply]
  exact ask_ok h (ask_an h q) fun _ _ => rfl
theorem q_strapsLeft (h : St X k g u) (hp : p = 0 ∨ p = 1) : Ask X k (call M_L_strapsLeft [vA 1, vI p] g u) (aPl X.1 p).2.1 := by
  have q := TD_strapsLeft (u := u) h.t p
  rw [h.a, ePl0 hp] at q
  rw [C_L_strapsLeft]
  exact ask_ok h (ask_an h q) fun _ _ => rfl
theorem q_fits (h : St X k g u) (hs : 0 ≤ s ∧ s < 5) (hr : 0 ≤ r ∧ r < 4) (hi : bIn X.1.bd x y) : Ask X k (call M_L_fits [vA 1, vI s, vI r, vI x, vI y] g u) (bI (bMis X.1.bd s r x y = 0)) := by
  have q := TD_fits h.p s r x y
  rw [h.b, eAim0 hs hr hi] at q
  rw [C_L_fits]
  exact ask_ok h (ask_an h q) fun g u => bI01 _ g u
theorem q_misfit (h : St X k g u) (hs : 0 ≤ s ∧ s < 5) (hr : 0 ≤ r ∧ r < 4) (hi : bIn X.1.bd x y) : Ask X k (call M_L_misfitReason [vA 1, vI s, vI r, vI x, vI y] g u) (bMis X.1.bd s r x y) := by
  have q := TD_misfitReason h.p s r x y
  rw [h.b, eAim0 hs hr hi] at q
  rw [C_L_misfitReason]
  exact ask_ok h (ask_an h q) fun _ _ => rfl
def aPtsFor (A : AS) (s r x y : Int) : Int := if bMis A.bd s r x y = 0 then bPts A.bd s r y else -1
theorem q_pointsFor (h : St X k g u) (hs : 0 ≤ s ∧ s < 5) (hr : 0 ≤ r ∧ r < 4) (hi : bIn X.1.bd x y) : Ask X k (call M_L_pointsFor [vA 1, vI s, vI r, vI x, vI y] g u) (aPtsFor X.1 s r x y) := by
  have q := TD_pointsFor h.p s r x y
  rw [h.b, eAim0 hs hr hi] at q
  rw [C_L_pointsFor]
  exact ask_ok h (ask_an h q) fun _ _ => rfl
theorem q_mobility (h : St X k g u) (hp : p = 0 ∨ p = 1) : Ask X k (call M_L_mobility [vA 1, vI p] g u) (aMov X.1 p) := by
  have q := TD_mobility h.p p
  rw [h.a, ePl0 hp] at q
  rw [C_L_mobility]
  exact ask_ok h (ask_an h q) fun _ _ => rfl
theorem q_after (h : St X k g u) (hs : 0 ≤ s ∧ s < 5) (hr : 0 ≤ r ∧ r < 4) (hi : bIn X.1.bd x y) (hp : p = 0 ∨ p = 1) : Ask X k (call M_L_mobilityAfter [vA 1, vI s, vI r, vI x, vI y, vI p] g u) (if aMayP X.1 s r x y then aMov (aPut X.1 s r x y) p else -1) := by
  have q := (TD_mobilityAfter (p := p) h.p (kSt_of h.1 (by decide)) (s := s) (r := r) (x := x) (y := y) (fun hm => by rw [h.a] at hm ⊢; exact wf_lt h.w hs hr hm)).1
  rw [h.b, eAim0 hs hr hi, if_neg (by simp), ePl0 hp, h.a] at q
  obtain ⟨u', e, f⟩ := q rfl
  rw [C_L_mobilityAfter]
  exact ask_ok h ⟨g, u', e, St_un h (Ft.un f) rfl rfl h.2.2.1⟩ fun _ _ => rfl
theorem q_regionSize (h : St X k g u) (hi : bIn X.1.bd x y) : ∃ v, isSz X.1.bd (8 * y + x) v ∧ Ask X k (call M_L_regionSize [vA 1, vI x, vI y] g u) v := by
  obtain ⟨v, h1, q⟩ := TD_regionSize h.p (K_Rg h.1) x y
  rw [h.a] at h1
  rw [h.a, eCe0 hi] at q
  refine ⟨v, h1 hi, ?_⟩
  rw [C_L_regionSize]
  exact ask_ok h (ask_aq h q) fun _ _ => rfl
theorem q_isDead (h : St X k g u) (hi : bIn X.1.bd x y) : ∃ v, ((v = 0 ∨ v = 1) ∧ (v = 1 ↔ eC X.1.bd (8 * y + x) ∧ ¬ nb X.1.bd (8 * y + x))) ∧ Ask X k (call M_L_isDead [vA 1, vI x, vI y] g u) v := by
  obtain ⟨v, h1, q⟩ := TD_isDead h.p (K_Rg h.1) x y
  rw [h.a] at h1
  rw [h.a, eCe0 hi] at q
  refine ⟨v, h1 hi, ?_⟩
  rw [C_L_isDead]
  refine ask_ok h (ask_aq h q) fun _ _ => ?_
  rcases (h1 hi).1 with e | e <;> rw [e] <;> rfl
/-! direct questions -/
theorem d_columns (h : St X k g u) : Ask X k (call M_TD_columns [vA 1] g u) X.1.bd.1 := by
  have q := TD_columns (u := u) h.t
  rw [h.b] at q
  exact ask_an h q
theorem d_rows (h : St X k g u) : Ask X k (call M_TD_rows [vA 1] g u) X.1.bd.2.1 := by
  have q := TD_rows (u := u) h.t
  rw [h.b] at q
  exact ask_an h q
theorem d_emptyCells (h : St X k g u) : Ask X k (call M_TD_emptyCells [vA 1] g u) (bCnt X.1.bd (-1)) := by
  have q := TD_emptyCells h.t h.bo
  rw [h.b] at q
  exact ask_an h q
theorem d_pieceCount (h : St X k g u) : Ask X k (call M_TD_pieceCount [vA 1] g u) X.1.n := by
  have q := TD_pieceCount (u := u) h.t
  rw [h.a] at q
  exact ask_an h q
theorem d_strapCount (h : St X k g u) : Ask X k (call M_TD_strapCount [vA 1] g u) (bStn X.1.bd) := by
  have q := TD_strapCount (u := u) h.t
  rw [h.b] at q
  exact ask_an h q
theorem d_completeRows (h : St X k g u) : Ask X k (call M_TD_completeRows [vA 1] g u) (bCmp X.1.bd) := by
  have q := TD_completeRows h.t h.bo
  rw [h.b] at q
  exact ask_an h q
def aPm (A : AS) : Int := if 2 ≤ A.ps then -1 else A.mv
theorem d_playerToMove (h : St X k g u) : Ask X k (call M_TD_playerToMove [vA 1] g u) (aPm X.1) := by
  have q := TD_playerToMove (u := u) h.t
  rw [h.a] at q
  exact ask_an h q
theorem d_isOver (h : St X k g u) : Ask X k (call M_TD_isOver [vA 1] g u) (bI (2 ≤ X.1.ps)) := by
  have q := TD_isOver (u := u) h.t
  rw [h.a] at q
  exact ask_an h q
def aLead (A : AS) : Int := if w (A.p0.1 - A.p1.1) = 0 then -1 else if 0 < w (A.p0.1 - A.p1.1) then 0 else 1
theorem d_leader (h : St X k g u) : Ask X k (call M_TD_leader [vA 1] g u) (aLead X.1) := by
  have q := TD_leader (u := u) h.t
  rw [h.a] at q
  exact ask_an h q
theorem d_undoable (h : St X k g u) : Ask X k (call M_TD_undoableChanges [vA 1] g u) X.2.1.length := by
  have q := TD_undoable (u := u) h.t h.h
  rw [show hT u (1 + 60) = X.2.1 from h.l] at q
  exact ask_an h q
theorem d_bestShape (h : St X k g u) : Ask X k (call M_TD_bestShape [vA 1] g u) (aBest X.1).1 := by
  have q := TD_bestShape h.p (K_ h.1 _ (by decide) rfl)
  rw [h.a] at q
  exact ask_aq h q
theorem d_bestRotation (h : St X k g u) : Ask X k (call M_TD_bestRotation [vA 1] g u) (aBest X.1).2.1 := by
  have q := TD_bestRotation h.p (K_ h.1 _ (by decide) rfl)
  rw [h.a] at q
  exact ask_aq h q
theorem d_bestColumn (h : St X k g u) : Ask X k (call M_TD_bestColumn [vA 1] g u) (aBest X.1).2.2.1 := by
  have q := TD_bestColumn h.p (K_ h.1 _ (by decide) rfl)
  rw [h.a] at q
  exact ask_aq h q
theorem d_bestRow (h : St X k g u) : Ask X k (call M_TD_bestRow [vA 1] g u) (aBest X.1).2.2.2.1 := by
  have q := TD_bestRow h.p (K_ h.1 _ (by decide) rfl)
  rw [h.a] at q
  exact ask_aq h q
theorem d_effect (h : St X k g u) : ∃ v, (if 2 ≤ X.1.ps then v = -1 else isEf X.1 v) ∧ Ask X k (call M_TD_bestStrapEffect [vA 1] g u) v := by
  obtain ⟨v, h1, q⟩ := TD_bestStrapEffect h.p (K_ h.1 _ (by decide) rfl) (K_ h.1 _ (by decide) rfl) (by rw [h.a]; exact h.w.1.2.1) (by rw [h.a]; exact h.w.2.2.1.1) (by rw [h.a]; exact (wf_pl h.w _).1.1)
  rw [h.a] at h1
  exact ⟨v, h1, ask_aq h q⟩
theorem d_largest (h : St X k g u) : ∃ v, isLrg X.1.bd v ∧ Ask X k (call M_TD_largestRegion [vA 1] g u) v := by
  obtain ⟨v, h1, q⟩ := TD_largestRegion h.p (K_Rg h.1)
  rw [h.a] at h1
  exact ⟨v, h1, ask_aq h q⟩
theorem d_regions (h : St X k g u) : ∃ v, isNum X.1.bd v ∧ Ask X k (call M_TD_regionCount [vA 1] g u) v := by
  obtain ⟨v, h1, q⟩ := TD_regionCount h.p (K_Rg h.1)
  rw [h.a] at h1
  exact ⟨v, h1, ask_aq h q⟩
theorem d_dead (h : St X k g u) : ∃ v, isDd X.1.bd v ∧ Ask X k (call M_TD_deadCells [vA 1] g u) v := by
  obtain ⟨v, h1, q⟩ := TD_deadCells h.p (K_Rg h.1)
  rw [h.a] at h1
  exact ⟨v, h1, ask_aq h q⟩
theorem d_incons (h : St X k g u) : Ask X k (call M_TD_inconsistencies [vA 1] g u) (aInc X.1) := by
  have q := TD_inconsistencies h.p (by rw [h.a]; exact h.w)
  rw [h.a] at q
  exact ask_aq h q
end
end
