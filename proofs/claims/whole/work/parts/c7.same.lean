-- the class and the reference keep the same; before the first town the homes of nobody may differ
def LQ (L L' : Nat → Int32) : Prop := ∀ i, 6 ≤ i → L i = L' i
def UQ : List q_lf → List q_lf → Prop
  | [], [] => True
  | u :: v, u' :: v' => LQ u.2 u'.2 ∧ UQ v v'
  | _, _ => False
def KQ (mk mk' : Nat → Option (q_lf × q_tl)) : Prop := ∀ m, (mk m = none ∧ mk' m = none) ∨ ∃ x x', mk m = some x ∧ mk' m = some x' ∧ LQ x.1.2 x'.1.2 ∧ x.2 = x'.2
def Sq (D : Nat → Nat) (L L' : Nat → Int32) (un un' : List q_lf) (mk mk' : Nat → Option (q_lf × q_tl)) : Prop := (L = L' ∧ un = un' ∧ mk = mk') ∨ (D 1 = 0 ∧ LQ L L' ∧ UQ un un' ∧ KQ mk mk')
theorem UQ_len : ∀ {a b : List q_lf}, UQ a b → a.length = b.length
  | [], [], _ => rfl
  | _ :: v, _ :: v', h => by rw [List.length_cons, List.length_cons, UQ_len h.2]
  | [], _ :: _, h => h.elim
  | _ :: _, [], h => h.elim
theorem UQ_take : ∀ {a b : List q_lf} (n : Nat), UQ a b → UQ (a.take n) (b.take n)
  | _, _, 0, _ => by rw [List.take_zero, List.take_zero]; trivial
  | [], [], n + 1, _ => by rw [List.take_nil]; trivial
  | _ :: v, _ :: v', n + 1, h => by rw [List.take_succ_cons, List.take_succ_cons]; exact ⟨h.1, UQ_take n h.2⟩
  | [], _ :: _, _ + 1, h => h.elim
  | _ :: _, [], _ + 1, h => h.elim
theorem isN_0 {x : Int32} : isN 0 x = 0 := by
  unfold isN
  split
  · rfl
  · rename_i h
    rw [nI_0, if_pos (Int32.not_lt.mp h)]
theorem twoN_0 {x y : Int32} : twoN 0 x y = 0 := by rw [twoN, if_pos isN_0]
theorem rdG_0 {D hm : Nat → Nat} {L : Nat → Int32} (h : D 1 = 0) : rdG D hm L = 0 := by rw [rdG, h]; rfl
theorem rdL_0 {D hm : Nat → Nat} {L : Nat → Int32} {n : Nat} (h : D 1 = 0) : rdL D hm L n = upd (upd L 48 (L 48 + 1)) 49 (L 49 + 0) := by
  rw [rdL, rdG_0 h, h]
  rfl
theorem rdL_q {D hm hm' : Nat → Nat} {L L' : Nat → Int32} {n : Nat} (h : D 1 = 0) (hL : LQ L L') : LQ (rdL D hm L n) (rdL D hm' L' n) := by
  rw [rdL_0 h, rdL_0 h]
  intro i hi
  unfold upd
  rw [hL 48 (by decide), hL 49 (by decide), hL i hi]
section SAME
variable {D hm : Nat → Nat} {P : Nat → List Int32} {N : q_nm} {L L' : Nat → Int32} {un un' : List q_lf} {mk mk' : Nat → Option (q_lf × q_tl)} {tl : q_tl} {dy : q_dy} {tp : List Nat} {x y z c : Int32}
theorem Sq.rf : Sq D L L un un mk mk := Or.inl ⟨rfl, rfl, rfl⟩
theorem Sq.family (h : Sq D L L' un un' mk mk') : a_family D hm P L' x y = a_family D hm P L x y := by
  rcases h with ⟨rfl, _, _⟩ | ⟨h0, _⟩
  · rfl
  · rw [a_family, a_family, h0, if_pos isN_0, if_pos isN_0]
theorem Sq.owes (h : Sq D L L' un un' mk mk') : a_owes D L' x y = a_owes D L x y := by
  rcases h with ⟨rfl, _, _⟩ | ⟨h0, _⟩
  · rfl
  · rw [a_owes, a_owes, h0, if_pos twoN_0, if_pos twoN_0]
theorem Sq.lend (h : Sq D L L' un un' mk mk') : a_lend D hm L' x y c = a_lend D hm L x y c := by
  rcases h with ⟨rfl, _, _⟩ | ⟨h0, _⟩
  · rfl
  · rw [a_lend, a_lend, h0, if_pos twoN_0, if_pos twoN_0]
theorem Sq.pay (h : Sq D L L' un un' mk mk') : a_pay D L' x y c = a_pay D L x y c := by
  rcases h with ⟨rfl, _, _⟩ | ⟨h0, _⟩
  · rfl
  · rw [a_pay, a_pay, h0, if_pos twoN_0, if_pos twoN_0]
theorem Sq.gains (h : Sq D L L' un un' mk mk') : a_gains D hm L' x = a_gains D hm L x := by
  rcases h with ⟨rfl, _, _⟩ | ⟨h0, _⟩
  · rfl
  · rw [a_gains, a_gains, h0, if_pos isN_0, if_pos isN_0]
theorem Sq.drawn (h : Sq D L L' un un' mk mk') : rdG D hm L' = rdG D hm L := by
  rcases h with ⟨rfl, _, _⟩ | ⟨h0, _⟩
  · rfl
  · rw [rdG_0 h0, rdG_0 h0]
theorem Sq.count {k : Int} (h : Sq D L L' un un' mk mk') : a_count D L' un' tl dy tp k = a_count D L un tl dy tp k := by
  rcases h with ⟨rfl, rfl, _⟩ | ⟨h0, hL, hU, _⟩
  · rfl
  · unfold a_count
    rw [hL 48 (by decide), hL 49 (by decide), UQ_len hU]
    have e1 : (fun i => L (6 + i)) = fun i => L' (6 + i) := by funext i; exact hL _ (by omega)
    have e2 : (fun i => L (12 + i)) = fun i => L' (12 + i) := by funext i; exact hL _ (by omega)
    rw [e1, e2]
theorem cyS_s {g : Nat → Nat} {kb : Nat → Nat → Nat} {s : (Nat → Nat) × (Nat → Int32) × Nat} {k : Nat} (h0 : D 1 = 0) : cyS g kb D P s (k + 1) = ((rdR D (cyS g kb D P s k).1.2.2, rdL D (cyS g kb D P s k).1.1 (cyS g kb D P s k).1.2.1 (cyS g kb D P s k).1.2.2, rdN D (cyS g kb D P s k).1.2.2), (cyS g kb D P s k).2.1 + ncont D (rdR D (cyS g kb D P s k).1.2.2) P (D 1), (cyS g kb D P s k).2.2 + pop30 (brk D (rdR D (cyS g kb D P s k).1.2.2)) 30) := by
  rw [cyS]
  generalize cyS g kb D P s k = r
  have e : lyr g kb D r.1.1 r.1.2.1 r.1.2.2 = (r.1.1, r.1.2.1, r.1.2.2) := by rw [lyr, h0, if_pos (by decide)]
  rw [e]
theorem cyS_q {g : Nat → Nat} {kb : Nat → Nat → Nat} {n : Nat} (h0 : D 1 = 0) (hL : LQ L L') (k : Nat) : LQ (cyS g kb D P (hm, L, n) k).1.2.1 (cyS g kb D P (hm, L', n) k).1.2.1 ∧ (cyS g kb D P (hm, L', n) k).1.2.2 = (cyS g kb D P (hm, L, n) k).1.2.2 ∧ (cyS g kb D P (hm, L', n) k).2 = (cyS g kb D P (hm, L, n) k).2 := by
  induction k with
  | zero => exact ⟨hL, rfl, rfl⟩
  | succ k ih =>
    rw [cyS_s h0, cyS_s h0]
    generalize cyS g kb D P (hm, L, n) k = r at ih ⊢
    generalize cyS g kb D P (hm, L', n) k = r' at ih ⊢
    obtain ⟨g2, g3, g4⟩ := ih
    dsimp only
    rw [g3, g4]
    exact ⟨rdL_q h0 g2, rfl, rfl⟩
theorem Sq.cent {g : Nat → Nat} {kb : Nat → Nat → Nat} (h : Sq D L L' un un' mk mk') : a_cent g kb D hm P L' x y z = a_cent g kb D hm P L x y z := by
  rcases h with ⟨rfl, _, _⟩ | ⟨h0, hL, _⟩
  · rfl
  · have hL2 : LQ (upd L 49 0) (upd L' 49 0) := fun i hi => by unfold upd; rw [hL i hi]
    obtain ⟨g2, g3, g4⟩ := cyS_q (g := g) (kb := kb) (P := P) (hm := hm) (n := x.toNatClampNeg) h0 hL2 y.toNatClampNeg
    unfold a_cent
    rw [g4, g2 49 (by decide)]
theorem Sq.mark0 (h : Sq D L L' un un' mk mk') : a_mark mk' x z = a_mark mk x z := by
  rcases h with ⟨_, _, rfl⟩ | ⟨_, _, _, hK⟩
  · rfl
  · unfold a_mark
    rcases hK x.toNatClampNeg with ⟨e1, e2⟩ | ⟨u, u', e1, e2, _⟩
    · rw [e1, e2]
    · rw [e1, e2]; rfl
theorem Sq.two (h : Sq D L L' un un' mk mk') (h2 : ¬ twoN (D 1) x y = 0) : L = L' ∧ un = un' ∧ mk = mk' := by
  rcases h with h | ⟨h0, _⟩
  · exact h
  · rw [h0] at h2; exact absurd twoN_0 h2
theorem Sq.draw {n : Nat} (h : Sq D L L' un un' mk mk') : Sq D (rdL D hm L n) (rdL D hm L' n) (pushU hm L un) (pushU hm L' un') mk mk' := by
  rcases h with ⟨rfl, rfl, rfl⟩ | ⟨h0, hL, hU, hK⟩
  · exact Sq.rf
  · exact Or.inr ⟨h0, rdL_q h0 hL, UQ_take 16 (show UQ ((hm, L) :: un) ((hm, L') :: un') from ⟨hL, hU⟩), hK⟩
theorem Sq.undo0 (h : Sq D L L' un un' mk mk') : un = [] ↔ un' = [] := by
  rcases h with ⟨_, rfl, _⟩ | ⟨_, _, hU, _⟩
  · exact Iff.rfl
  · have := UQ_len hU
    constructor
    · intro e; rw [e] at this; exact List.length_eq_zero_iff.mp this.symm
    · intro e; rw [e] at this; exact List.length_eq_zero_iff.mp this
theorem Sq.undo {u u' : q_lf} {v v' : List q_lf} (h : Sq D L L' (u :: v) (u' :: v') mk mk') : Sq D u.2 u'.2 v v' mk mk' := by
  rcases h with ⟨_, e, rfl⟩ | ⟨h0, _, hU, hK⟩
  · cases e
    exact Sq.rf
  · exact Or.inr ⟨h0, hU.1, hU.2, hK⟩
theorem Sq.mark1 {n : Nat} (h : Sq D L L' un un' mk mk') : Sq D L L' un un' (mkU mk n ((hm, L), tl)) (mkU mk' n ((hm, L'), tl)) := by
  rcases h with ⟨rfl, rfl, rfl⟩ | ⟨h0, hL, hU, hK⟩
  · exact Sq.rf
  · refine Or.inr ⟨h0, hL, hU, fun m => ?_⟩
    unfold mkU
    by_cases e : m = n
    · rw [if_pos e, if_pos e]
      exact Or.inr ⟨_, _, rfl, rfl, hL, rfl⟩
    · rw [if_neg e, if_neg e]
      exact hK m
theorem Sq.mark2 {n : Nat} {v v' : q_lf × q_tl} (h : Sq D L L' un un' mk mk') (h1 : mk n = some v) (h2 : mk' n = some v') : v.2 = v'.2 ∧ Sq D v.1.2 v'.1.2 [] [] mk mk' := by
  rcases h with ⟨_, _, rfl⟩ | ⟨h0, _, _, hK⟩
  · rw [h1] at h2
    cases h2
    exact ⟨rfl, Sq.rf⟩
  · rcases hK n with ⟨e1, _⟩ | ⟨u, u', e1, e2, e3, e4⟩
    · rw [e1] at h1; cases h1
    · rw [h1] at e1; rw [h2] at e2
      cases e1; cases e2
      exact ⟨e4, Or.inr ⟨h0, e3, trivial, hK⟩⟩
-- what holds before each round of the law
def Inv (σ : q_S) : Prop := q_Sh σ ∧ ∃ t p D P N hm L un mk L' un' mk' tl dy tp, WJ D P N hm L un mk tl dy tp ∧ WJ D P N hm L' un' mk' tl dy tp ∧ CJ σ t p D P N L un mk tl dy tp ∧ MJ σ D P N L' un' mk' tl dy tp ∧ Sq D L L' un un' mk mk'
end SAME
