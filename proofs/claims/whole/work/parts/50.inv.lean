-- what the class and the reference keep between calls
abbrev q_lf : Type := (Nat → Nat) × (Nat → Int32)
abbrev q_tl : Type := List (Nat × Nat × Bool)
abbrev q_dy : Type := List (Nat × Nat × Nat × Nat)
def besM (tl : q_tl) : Int64 := tl.foldl (fun m x => if x.2.2 then m ||| pbit x.1 x.2.1 else m) 0
def apM (tl : q_tl) : Int64 := tl.foldl (fun m x => if x.2.2 then m else m ||| pbit x.1 x.2.1) 0
def CTl (σ : q_S) (a : Nat) (tl : q_tl) : Prop := q_L σ a 0 = besM tl ∧ q_L σ a 1 = apM tl ∧ q_I σ a 2 = nI tl.length
def MTl (σ : q_S) (b : Nat) (tl : q_tl) : Prop := q_I σ 175 (b + 50) = nI tl.length ∧ ∀ k x, tl[k]? = some x → q_I σ 175 (b + (51 + 3 * k)) = nI x.1 ∧ q_I σ 175 (b + (52 + 3 * k)) = nI x.2.1 ∧ q_I σ 175 (b + (53 + 3 * k)) = if x.2.2 then 1 else 0
def WT (D : Nat → Nat) (tl : q_tl) : Prop := tl.length ≤ 10 ∧ ∀ x ∈ tl, x.1 < D 1 ∧ x.2.1 < D 1 ∧ x.1 ≠ x.2.1
def CU (σ : q_S) (un : List q_lf) : Prop := ∃ e : Nat, e < 16 ∧ q_I σ 0 16 = nI e ∧ q_I σ 0 17 = nI un.length ∧ ∀ i u, un[i]? = some u → CL σ (75 + 4 * ((e + 15 - i) % 16)) u.2
def MU (σ : q_S) (un : List q_lf) : Prop := q_I σ 159 25 = nI un.length ∧ ∀ i u, un[i]? = some u → ML σ (82 * (5 + (un.length - 1 - i))) u.2
def WU (D : Nat → Nat) (un : List q_lf) : Prop := un.length ≤ 16 ∧ ∀ u ∈ un, WL D u.1 u.2
def CM (σ : q_S) (mk : Nat → Option (q_lf × q_tl)) : Prop := ∀ m, m < 4 → (mk m = none → q_I σ 26 m = 0) ∧ ∀ x, mk m = some x → q_I σ 26 m = 1 ∧ CL σ (139 + 5 * m) x.1.2 ∧ CTl σ (143 + 5 * m) x.2
def MM (σ : q_S) (mk : Nat → Option (q_lf × q_tl)) : Prop := ∀ m, m < 4 → (mk m = none → q_I σ 176 m = 0) ∧ ∀ x, mk m = some x → q_I σ 176 m = 1 ∧ ML σ (82 * (1 + m)) x.1.2 ∧ MTl σ (82 * (1 + m)) x.2
def WM (D : Nat → Nat) (mk : Nat → Option (q_lf × q_tl)) : Prop := ∀ m, m < 4 → ∀ x, mk m = some x → WL D x.1.1 x.1.2 ∧ WT D x.2
def CY (σ : q_S) (p : Nat) (dy : q_dy) : Prop := q_I σ p 4 = nI dy.length ∧ ∀ k x, dy[k]? = some x → q_I σ (p + 1) k = nI x.1 ∧ q_I σ (p + 2) k = nI x.2.1 ∧ q_I σ (p + 3) k = nI x.2.2.1 ∧ q_I σ (p + 4) k = nI x.2.2.2
def MY (σ : q_S) (dy : q_dy) : Prop := q_I σ 172 0 = nI dy.length ∧ ∀ k x, dy[k]? = some x → q_I σ 172 (1 + 4 * k) = nI x.1 ∧ (x.1 = 0 → q_I σ 172 (2 + 4 * k) = nI x.2.2.2) ∧ (x.1 ≠ 0 → q_I σ 172 (2 + 4 * k) = nI x.2.1 ∧ q_I σ 172 (3 + 4 * k) = nI x.2.2.1) ∧ (2 ≤ x.1 → q_I σ 172 (4 + 4 * k) = nI x.2.2.2)
def WY (D : Nat → Nat) (dy : q_dy) : Prop := dy.length ≤ 24 ∧ ∀ x ∈ dy, x.1 ≤ 3 ∧ x.2.2.2 ≤ 9999 ∧ (x.1 ≠ 0 → x.2.1 < D 1 ∧ x.2.2.1 < D 1 ∧ x.2.1 ≠ x.2.2.1)
def CTp (σ : q_S) (tp : List Nat) : Prop := q_I σ 1 1 = nI tp.length ∧ ∀ i x, tp[i]? = some x → q_I σ 2 i = nI x
def MTp (σ : q_S) (tp : List Nat) : Prop := q_I σ 159 2 = nI tp.length ∧ ∀ i x, tp[i]? = some x → q_I σ 160 i = nI x
def WTp (tp : List Nat) : Prop := tp.length ≤ 1000 ∧ ∀ x ∈ tp, x = 10 ∨ (32 ≤ x ∧ x ≤ 126)
-- names, as rows of letters (1 to 26); a house h is h, a family f is 20 + f
abbrev q_nm : Type := List (List Nat × Nat)
def e32 (l : List Nat) : Nat := l.foldl (fun a x => a * 32 + x) 0
def e37 (l : List Nat) : Nat := l.foldl (fun a x => 37 * a + x) 0
def CN (σ : q_S) (t : Nat) (N : q_nm) : Prop := ∀ x ∈ N, (x.2 < 20 → q_L σ (t + 1) x.2 = lN (e32 x.1)) ∧ (20 ≤ x.2 → q_L σ (t + 2) (x.2 - 20) = lN (e32 x.1))
def q_w37 : List Int64 := [15782540, 1166844, 418609182, 629152, 255319, 6395136, 620569, 407338, 791486, 2686664, 149033600, 27011078, 14270, 15252293, 227314, 993947, 615203, 21966, 30596128, 16026169954, 49590575432, 835201092, 19741, 1891, 573, 1179132858181, 20875329818, 4672519, 324975, 311227, 716042, 671333, 11304]
def MN (σ : q_S) (N : q_nm) : Prop := (q_I σ 159 18 = nI N.length ∧ ∀ k, k < 33 → q_L σ 164 k = q_w37.getD k 0) ∧ ∀ k x, N[k]? = some x → q_L σ 168 k = lN (e37 x.1) ∧ q_I σ 170 k = nI x.2
def WN (D : Nat → Nat) (N : q_nm) : Prop := N.length ≤ 12 ∧ (∀ x ∈ N, (x.2 < D 0 ∨ (20 ≤ x.2 ∧ x.2 < 20 + D 1)) ∧ x.1.length ≤ 8 ∧ x.1 ≠ [] ∧ ∀ c ∈ x.1, 1 ≤ c ∧ c ≤ 26) ∧ (∀ x ∈ N, ∀ y ∈ N, x.1 = y.1 ∨ x.2 = y.2 → x = y) ∧ (∀ h, h < D 0 → ∃ l, (l, h) ∈ N) ∧ ∀ f, f < D 1 → ∃ l, (l, 20 + f) ∈ N
-- how many walls there are
def wlN (D : Nat → Nat) : Nat := ((List.range 36).filter (fun i => decide (D (8 + i) ≠ 0))).length
def WfW (D : Nat → Nat) : Prop := 2 * D 2 = wlN D ∧ ∀ a b, a < 6 → b < 6 → D (8 + (a * 6 + b)) ≠ 0 → a < D 0 ∧ b < D 0
def CJ0 (σ : q_S) (t p : Nat) (D : Nat → Nat) (P : Nat → List Int32) (N : q_nm) (L : Nat → Int32) (un : List q_lf) (mk : Nat → Option (q_lf × q_tl)) (tl : q_tl) (dy : q_dy) (tp : List Nat) : Prop :=
  (q_R σ 0 12 = some t ∧ q_isTw t ∧ ∃ t', q_R σ 0 13 = some t' ∧ q_isTw t' ∧ t' ≠ t) ∧ (q_R σ 0 14 = some p ∧ q_isDy p ∧ ∃ p', q_R σ 0 15 = some p' ∧ q_isDy p' ∧ p' ≠ p) ∧ CT σ t D P ∧ CN σ t N ∧ CL σ 15 L ∧ CU σ un ∧ CM σ mk ∧ CTl σ 14 tl ∧ CY σ p dy ∧ CTp σ tp
def MJ (σ : q_S) (D : Nat → Nat) (P : Nat → List Int32) (N : q_nm) (L : Nat → Int32) (un : List q_lf) (mk : Nat → Option (q_lf × q_tl)) (tl : q_tl) (dy : q_dy) (tp : List Nat) : Prop :=
  MT σ D P ∧ MN σ N ∧ ML σ 0 L ∧ MU σ un ∧ MM σ mk ∧ MTl σ 0 tl ∧ MY σ dy ∧ MTp σ tp
def WJ (D : Nat → Nat) (P : Nat → List Int32) (N : q_nm) (hm : Nat → Nat) (L : Nat → Int32) (un : List q_lf) (mk : Nat → Option (q_lf × q_tl)) (tl : q_tl) (dy : q_dy) (tp : List Nat) : Prop :=
  WfD D ∧ WfP P ∧ WfW D ∧ WN D N ∧ WL D hm L ∧ WU D un ∧ WM D mk ∧ WT D tl ∧ WY D dy ∧ WTp tp
-- the cells that these speak of
def cj (t p : Nat) : Nat → Nat → Prop := fun a i => (a = 0 ∧ 16 ≤ i) ∨ a = 1 ∨ a = 2 ∨ (14 ≤ a ∧ a ≤ 18) ∨ a = 26 ∨ TC t a i ∨ (p ≤ a ∧ a ≤ p + 4) ∨ (75 ≤ a ∧ a ≤ 158)
def cjL (t : Nat) : Nat → Nat → Prop := fun a _ => a = t + 1 ∨ a = t + 2 ∨ a = t + 11 ∨ a = 14 ∨ (139 ≤ a ∧ a ≤ 158)
def mj : Nat → Nat → Prop := fun a i => (a = 165 ∧ i < 200) ∨ ((a = 166 ∨ a = 167) ∧ i < 1100) ∨ a = 177 ∨ a = 170 ∨ (a = 159 ∧ (i = 2 ∨ i = 18 ∨ i = 25)) ∨ (a = 175 ∧ i < 1722) ∨ a = 176 ∨ (a = 172 ∧ i < 110) ∨ a = 160
def mjL : Nat → Nat → Prop := fun a _ => a = 168 ∨ a = 164
section INV
variable {σ σ' : q_S} {t p : Nat} {D : Nat → Nat} {P : Nat → List Int32} {N : q_nm} {hm : Nat → Nat} {L : Nat → Int32} {un : List q_lf} {mk : Nat → Option (q_lf × q_tl)} {tl : q_tl} {dy : q_dy} {tp : List Nat}
theorem CTl.keep {a : Nat} (h : CTl σ a tl) (h1 : ∀ i, q_L σ' a i = q_L σ a i) (h2 : ∀ i, q_I σ' a i = q_I σ a i) : CTl σ' a tl := by
  unfold CTl
  rw [h1, h1, h2]
  exact h
theorem CU.keep (hl : un.length ≤ 16) (h : CU σ un) (h1 : ∀ a i, (a = 0 ∧ 16 ≤ i) ∨ (75 ≤ a ∧ a ≤ 138) → q_I σ' a i = q_I σ a i) : CU σ' un := by
  obtain ⟨e, a1, a2, a3, a4⟩ := h
  refine ⟨e, a1, by rw [h1 _ _ (Or.inl ⟨rfl, by decide⟩)]; exact a2, by rw [h1 _ _ (Or.inl ⟨rfl, by decide⟩)]; exact a3, fun i u hu => (a4 i u hu).keep (fun a j b1 b2 => h1 a j (Or.inr (by omega)))⟩
theorem CM.keep (h : CM σ mk) (h1 : ∀ a i, a = 26 ∨ (139 ≤ a ∧ a ≤ 158) → q_I σ' a i = q_I σ a i) (h2 : ∀ a i, 139 ≤ a → a ≤ 158 → q_L σ' a i = q_L σ a i) : CM σ' mk := by
  intro m hm
  obtain ⟨a1, a2⟩ := h m hm
  rw [h1 26 m (Or.inl rfl)]
  exact ⟨a1, fun x hx => ⟨(a2 x hx).1, (a2 x hx).2.1.keep (fun a j b1 b2 => h1 a j (Or.inr (by omega))), (a2 x hx).2.2.keep (fun i => h2 _ i (by omega) (by omega)) (fun i => h1 _ i (Or.inr (by omega)))⟩⟩
theorem CJ0.fr {SI SL : Nat → Nat → Prop} (hl : un.length ≤ 16) (h : CJ0 σ t p D P N L un mk tl dy tp) (hf : Fr SI SL σ σ') (hI : ∀ a i, SI a i → ¬ cj t p a i) (hL : ∀ a i, SL a i → ¬ cjL t a i) : CJ0 σ' t p D P N L un mk tl dy tp := by
  obtain ⟨c1, c2, c3, c4, c5, c6, c7, c8, c9, c10⟩ := h
  have kI : ∀ a i, cj t p a i → q_I σ' a i = q_I σ a i := fun a i z => hf.2.2.1 a i (fun s => hI a i s z)
  have kL : ∀ a i, cjL t a i → q_L σ' a i = q_L σ a i := fun a i z => hf.2.2.2 a i (fun s => hL a i s z)
  refine ⟨?_, ?_, ?_, ?_, ?_, ?_, ?_, ?_, ?_, ?_⟩
  · rw [hf.2.1]; exact c1
  · rw [hf.2.1]; exact c2
  · exact c3.keep (fun a i z => kI a i (by unfold cj; exact Or.inr (Or.inr (Or.inr (Or.inr (Or.inr (Or.inl z))))))) (fun i => kL _ _ (by unfold cjL; omega))
  · intro x hx
    rw [kL _ _ (by unfold cjL; omega), kL _ _ (by unfold cjL; omega)]
    exact c4 x hx
  · exact c5.keep (fun a i b1 b2 => kI a i (by unfold cj; omega))
  · exact c6.keep hl (fun a i z => kI a i (by unfold cj; omega))
  · exact c7.keep (fun a i z => kI a i (by unfold cj; omega)) (fun a i b1 b2 => kL _ _ (by unfold cjL; omega))
  · exact c8.keep (fun i => kL _ _ (by unfold cjL; omega)) (fun i => kI _ _ (by unfold cj; omega))
  · refine ⟨by rw [kI _ _ (by unfold cj; omega)]; exact c9.1, fun k x hx => ?_⟩
    rw [kI _ _ (by unfold cj; omega), kI _ _ (by unfold cj; omega), kI _ _ (by unfold cj; omega), kI _ _ (by unfold cj; omega)]
    exact c9.2 k x hx
  · refine ⟨by rw [kI _ _ (by unfold cj; omega)]; exact c10.1, fun i x hx => ?_⟩
    rw [kI _ _ (by unfold cj; omega)]
    exact c10.2 i x hx
theorem MC.keep' {w s : Nat} {p : List Int32} (h : MC σ w s p) (h6 : ∀ i, i < 1100 → q_I σ' 166 i = q_I σ 166 i) (h7 : ∀ i, i < 1100 → q_I σ' 167 i = q_I σ 167 i) : MC σ' w s p := ⟨fun j hj => by have := h.2.2; rw [h6 _ (by omega), h7 _ (by omega)]; exact h.1 j hj, by rw [h6 _ h.2.2]; exact h.2.1, h.2.2⟩
theorem MT.keep' (h : MT σ D P) (hI : ∀ a i, mj a i → q_I σ' a i = q_I σ a i) : MT σ' D P := by
  refine ⟨⟨fun i h1 h2 => by rw [hI _ _ (by unfold mj; omega)]; exact h.1.1 i h1 h2, fun w hw => ?_⟩, fun f e k a1 a2 a3 => by rw [hI _ _ (by unfold mj; omega)]; exact h.2 f e k a1 a2 a3⟩
  rw [hI _ _ (by unfold mj; omega)]
  rcases h.1.2 w hw with g | ⟨s, g1, g2⟩
  · exact Or.inl g
  · exact Or.inr ⟨s, g1, g2.keep' (fun i hi => hI _ _ (by unfold mj; omega)) (fun i hi => hI _ _ (by unfold mj; omega))⟩
theorem MTl.keep {b : Nat} (ht : tl.length ≤ 10) (h : MTl σ b tl) (h1 : ∀ i, b ≤ i → i < b + 82 → q_I σ' 175 i = q_I σ 175 i) : MTl σ' b tl := by
  refine ⟨by rw [h1 _ (by omega) (by omega)]; exact h.1, fun k x hx => ?_⟩
  have hk : k < tl.length := (List.getElem?_eq_some_iff.mp hx).1
  rw [h1 _ (by omega) (by omega), h1 _ (by omega) (by omega), h1 _ (by omega) (by omega)]
  exact h.2 k x hx
theorem MU.keep (hl : un.length ≤ 16) (h : MU σ un) (h0 : q_I σ' 159 25 = q_I σ 159 25) (h1 : ∀ i, 410 ≤ i → i < 1722 → q_I σ' 175 i = q_I σ 175 i) : MU σ' un := ⟨by rw [h0]; exact h.1, fun i u hu => (h.2 i u hu).keep (fun j b1 b2 => h1 j (by omega) (by have : i < un.length := (List.getElem?_eq_some_iff.mp hu).1; omega))⟩
theorem MM.keep (hw : WM D mk) (h : MM σ mk) (h0 : ∀ i, q_I σ' 176 i = q_I σ 176 i) (h1 : ∀ i, 82 ≤ i → i < 410 → q_I σ' 175 i = q_I σ 175 i) : MM σ' mk := by
  intro m hm
  obtain ⟨a1, a2⟩ := h m hm
  rw [h0]
  exact ⟨a1, fun x hx => ⟨(a2 x hx).1, (a2 x hx).2.1.keep (fun j b1 b2 => h1 j (by omega) (by omega)), (a2 x hx).2.2.keep (hw m hm x hx).2.1 (fun i b1 b2 => h1 _ (by omega) (by omega))⟩⟩
theorem MY.keep (hl : dy.length ≤ 24) (h : MY σ dy) (h1 : ∀ i, i < 110 → q_I σ' 172 i = q_I σ 172 i) : MY σ' dy := by
  refine ⟨by rw [h1 _ (by decide)]; exact h.1, fun k x hx => ?_⟩
  have hk : k < dy.length := (List.getElem?_eq_some_iff.mp hx).1
  rw [h1 _ (by omega), h1 _ (by omega), h1 _ (by omega), h1 _ (by omega)]
  exact h.2 k x hx
theorem MJ.fr {SI SL : Nat → Nat → Prop} (hw : WJ D P N hm L un mk tl dy tp) (h : MJ σ D P N L un mk tl dy tp) (hf : Fr SI SL σ σ') (hI : ∀ a i, SI a i → ¬ mj a i) (hL : ∀ a i, SL a i → ¬ mjL a i) : MJ σ' D P N L un mk tl dy tp := by
  obtain ⟨c1, c2, c3, c4, c5, c6, c7, c8⟩ := h
  obtain ⟨w1, w2, w3, w4, w5, w6, w7, w8, w9, w10⟩ := hw
  have kI : ∀ a i, mj a i → q_I σ' a i = q_I σ a i := fun a i z => hf.2.2.1 a i (fun s => hI a i s z)
  have kL : ∀ a i, mjL a i → q_L σ' a i = q_L σ a i := fun a i z => hf.2.2.2 a i (fun s => hL a i s z)
  refine ⟨c1.keep' kI, ⟨⟨by rw [kI _ _ (by unfold mj; omega)]; exact c2.1.1, fun k hk => by rw [kL _ _ (Or.inr rfl)]; exact c2.1.2 k hk⟩, fun k x hx => ?_⟩, c3.keep (fun i b1 b2 => kI _ _ (by unfold mj; omega)), c4.keep w6.1 (kI _ _ (by unfold mj; omega)) (fun i b1 b2 => kI _ _ (by unfold mj; omega)), c5.keep w7 (fun i => kI _ _ (by unfold mj; omega)) (fun i b1 b2 => kI _ _ (by unfold mj; omega)), c6.keep w8.1 (fun i b1 b2 => kI _ _ (by unfold mj; omega)), c7.keep w9.1 (fun i hi => kI _ _ (by unfold mj; omega)), ⟨by rw [kI _ _ (by unfold mj; omega)]; exact c8.1, fun i x hx => ?_⟩⟩
  · rw [kL _ _ (Or.inl rfl), kI _ _ (by unfold mj; omega)]
    exact c2.2 k x hx
  · rw [kI _ _ (by unfold mj; omega)]
    exact c8.2 i x hx
theorem WK.fr {SI SL : Nat → Nat → Prop} (h : WK σ D P) (hf : Fr SI SL σ σ') (hI : ∀ a i, SI a i → a < 5 ∨ 11 ≤ a) (hL : ∀ a i, SL a i → a < 5 ∨ 11 ≤ a) : WK σ' D P := by
  have kI : ∀ a i, 5 ≤ a → a < 11 → q_I σ' a i = q_I σ a i := fun a i z y => hf.2.2.1 a i (fun s => by have := hI a i s; omega)
  have kL : ∀ a i, 5 ≤ a → a < 11 → q_L σ' a i = q_L σ a i := fun a i z y => hf.2.2.2 a i (fun s => by have := hL a i s; omega)
  unfold WK WyD
  rw [kI _ _ (by decide) (by decide), kI _ _ (by decide) (by decide), kI _ _ (by decide) (by decide)]
  rcases h with h | ⟨h1, h2, h3, h4, h5⟩
  · exact Or.inl h
  · refine Or.inr ⟨h1, h2, h3, fun k w hk => ?_, fun f hf => ?_⟩
    · rw [kI _ _ (by decide) (by decide), kI _ _ (by decide) (by decide), kL _ _ (by decide) (by decide), kL _ _ (by decide) (by decide)]
      exact h4 k w hk
    · rw [kI _ _ (by decide) (by decide)]
      exact h5 f hf
end INV
