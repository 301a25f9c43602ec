-- who lives in a house
def who (hm : Nat → Nat) (h : Int32) : Nat → Int32
  | 0 => -1
  | n + 1 => if nI (hm n) = h then nI n else who hm h n
theorem who_none {hm : Nat → Nat} {h : Int32} : ∀ n, (∀ j, j < n → ¬ nI (hm j) = h) → who hm h n = -1
  | 0, _ => rfl
  | n + 1, hn => by rw [who, if_neg (hn n (by omega))]; exact who_none n (fun j hj => hn j (by omega))
theorem who_one {hm : Nat → Nat} {h : Int32} {k : Nat} : ∀ n, k < n → nI (hm k) = h → (∀ j, j < n → nI (hm j) = h → j = k) → who hm h n = nI k
  | 0, hk, _, _ => absurd hk (Nat.not_lt_zero k)
  | n + 1, hk, h1, h2 => by
    rw [who]
    by_cases c : nI (hm n) = h
    · rw [if_pos c, h2 n (by omega) c]
    · rw [if_neg c]
      have : k ≠ n := fun e => c (e ▸ h1)
      exact who_one n (by omega) h1 (fun j hj => h2 j (by omega))
theorem who_cases {hm : Nat → Nat} {h : Int32} : ∀ n, who hm h n = -1 ∨ ∃ k, k < n ∧ who hm h n = nI k ∧ nI (hm k) = h
  | 0 => Or.inl rfl
  | n + 1 => by
    rw [who]
    by_cases c : nI (hm n) = h
    · rw [if_pos c]; exact Or.inr ⟨n, by omega, rfl, c⟩
    · rw [if_neg c]
      rcases who_cases (hm := hm) (h := h) n with e | ⟨k, a, b, e⟩
      · exact Or.inl e
      · exact Or.inr ⟨k, by omega, b, e⟩
-- rings of families who take one another's houses
def rg (hm w : Nat → Nat) (F f : Nat) : Nat → Nat → Bool
  | 0, _ => false
  | s + 1, e => if nI f < who hm (nI (w e)) F then rg hm w F f s (who hm (nI (w e)) F).toNatClampNeg else decide (who hm (nI (w e)) F = nI f)
def orb (hm w : Nat → Nat) (F f : Nat) : Nat → Nat
  | 0 => f
  | i + 1 => (who hm (nI (w (orb hm w F f i))) F).toNatClampNeg
theorem php : ∀ (m n : Nat) (g : Nat → Nat), (∀ i, i < n → g i < m) → (∀ i j, i < n → j < n → g i = g j → i = j) → n ≤ m
  | 0, n, g, h1, _ => by
    rcases Nat.eq_zero_or_pos n with z | z
    · omega
    · exact absurd (h1 0 z) (Nat.not_lt_zero _)
  | m + 1, 0, _, _, _ => Nat.zero_le _
  | m + 1, n + 1, g, h1, h2 => by
    have := php m n (fun i => if g i = m then g n else g i) (fun i hi => ?_) (fun i j hi hj hij => ?_)
    · omega
    · show (if g i = m then g n else g i) < m
      split
      · next c =>
        have a1 := h1 n (by omega)
        have a2 : g n ≠ m := fun e => by have := h2 i n (by omega) (by omega) (by omega); omega
        omega
      · next c => have := h1 i (by omega); omega
    · have hij : (if g i = m then g n else g i) = (if g j = m then g n else g j) := hij
      by_cases c1 : g i = m <;> by_cases c2 : g j = m
      · exact h2 i j (by omega) (by omega) (by omega)
      · rw [if_pos c1, if_neg c2] at hij
        have := h2 n j (by omega) (by omega) hij
        omega
      · rw [if_neg c1, if_pos c2] at hij
        have := h2 i n (by omega) (by omega) hij
        omega
      · rw [if_neg c1, if_neg c2] at hij
        exact h2 i j (by omega) (by omega) hij
def Inj (F : Nat) (w : Nat → Nat) : Prop := ∀ i j, i < F → j < F → w i = w j → i = j
section RING
variable {hm w : Nat → Nat} {F f : Nat}
theorem orb_lt (hF : F ≤ 6) (hf : f < F) {n : Nat} (h : ∀ i, i < n → nI f < who hm (nI (w (orb hm w F f i))) F) : ∀ i, i ≤ n → orb hm w F f i < F ∧ (0 < i → f < orb hm w F f i ∧ nI (hm (orb hm w F f i)) = nI (w (orb hm w F f (i - 1))))
  | 0, _ => ⟨hf, fun h => absurd h (Nat.lt_irrefl 0)⟩
  | i + 1, hi => by
    have h1 := h i (by omega)
    rcases who_cases (hm := hm) (h := nI (w (orb hm w F f i))) F with e | ⟨k, a, b, e⟩
    · rw [e] at h1
      exact absurd h1 (fun h => absurd (Int32.lt_trans h (by decide : (-1 : Int32) < 0)) (nI_pos (by omega)))
    · have e1 : orb hm w F f (i + 1) = k := by rw [orb, b, nI_clamp (by omega)]
      rw [b, nI_ltI (by omega) (by omega)] at h1
      rw [e1]
      exact ⟨a, fun _ => ⟨h1, by rw [e]; rfl⟩⟩
theorem orb_ends (hF : F ≤ 6) (hf : f < F) (hw8 : ∀ j, j < F → w j < 8) (hw : Inj F w) : ∃ i, i < F ∧ ¬ nI f < who hm (nI (w (orb hm w F f i))) F := by
  refine Classical.byContradiction (fun hn => ?_)
  have h : ∀ i, i < F → nI f < who hm (nI (w (orb hm w F f i))) F := fun i hi => Classical.byContradiction (fun c => hn ⟨i, hi, c⟩)
  have hl := orb_lt hF hf h
  have inj : ∀ j i, i < j → j ≤ F → orb hm w F f i = orb hm w F f j → False := by
    intro j
    induction j with
    | zero => intro i hi _ _; omega
    | succ j ih =>
      intro i hi hj he
      cases i with
      | zero =>
        have := ((hl (j + 1) hj).2 (by omega)).1
        rw [← he] at this
        exact absurd this (Nat.lt_irrefl f)
      | succ i =>
        have a1 := ((hl (j + 1) hj).2 (by omega)).2
        have a2 := ((hl (i + 1) (by omega)).2 (by omega)).2
        rw [he, a1] at a2
        have b1 := (hl j (by omega)).1
        have b2 := (hl i (by omega)).1
        have c1 := hw8 _ b1
        have c2 := hw8 _ b2
        simp only [Nat.add_sub_cancel] at a2
        rw [nI_eq (by omega) (by omega)] at a2
        exact ih i (by omega) (by omega) (hw _ _ b1 b2 a2).symm
  have := php F (F + 1) (orb hm w F f) (fun i hi => (hl i (by omega)).1) (fun i j hi hj he => by
    rcases Nat.lt_trichotomy i j with c | c | c
    · exact (inj j i c (by omega) he).elim
    · exact c
    · exact (inj i j c (by omega) he.symm).elim)
  omega
theorem rg_orb {s : Nat} : ∀ i k, (∀ j, j < i → nI f < who hm (nI (w (orb hm w F f (k + j)))) F) → rg hm w F f (i + s) (orb hm w F f k) = rg hm w F f s (orb hm w F f (k + i))
  | 0, k, _ => by rw [Nat.zero_add]; rfl
  | i + 1, k, h => by
    have h0 : nI f < who hm (nI (w (orb hm w F f k))) F := h 0 (by omega)
    rw [show i + 1 + s = (i + s) + 1 by omega, rg, if_pos h0]
    show rg hm w F f (i + s) (orb hm w F f (k + 1)) = _
    rw [rg_orb i (k + 1) (fun j hj => by have := h (j + 1) (by omega); rwa [show k + 1 + j = k + (j + 1) by omega]), show k + 1 + i = k + (i + 1) by omega]
theorem rg_same (hF : F ≤ 6) (hf : f < F) (hw8 : ∀ j, j < F → w j < 8) (hw : Inj F w) : rg hm w F f 6 f = rg hm w F f F f := by
  obtain ⟨i, ⟨h1, h2⟩, h3⟩ := pk_least (fun i => i < F ∧ ¬ nI f < who hm (nI (w (orb hm w F f i))) F) (orb_ends hF hf hw8 hw)
  have h4 : ∀ j, j < i → nI f < who hm (nI (w (orb hm w F f (0 + j)))) F := fun j hj => by
    rw [Nat.zero_add]
    exact Classical.byContradiction (fun c => h3 j hj ⟨by omega, c⟩)
  have e1 := rg_orb (s := 6 - i) i 0 h4
  have e2 := rg_orb (s := F - i) i 0 h4
  rw [show i + (6 - i) = 6 by omega] at e1
  rw [show i + (F - i) = F by omega] at e2
  show rg hm w F f 6 (orb hm w F f 0) = rg hm w F f F (orb hm w F f 0)
  rw [e1, e2, Nat.zero_add]
  rw [show 6 - i = (5 - i) + 1 by omega, show F - i = (F - i - 1) + 1 by omega, rg, rg, if_neg h2, if_neg h2]
end RING
-- the fewest swaps
def swc (hm w : Nat → Nat) (F : Nat) : Nat → Nat
  | 0 => 0
  | n + 1 => swc hm w F n + (if w n = hm n then 0 else if rg hm w F n F n then 0 else 1)
theorem swc_le {hm w : Nat → Nat} {F : Nat} : ∀ n, swc hm w F n ≤ n
  | 0 => Nat.le_refl 0
  | n + 1 => by
    have := swc_le (hm := hm) (w := w) (F := F) n
    rw [swc]
    split
    · omega
    · split <;> omega
section SWAPS
variable {G : q_G} {d : Nat} {σ : q_S} {Q : Option Value → q_S → Prop} {t h f k : Nat} {D hm w : Nat → Nat} {P : Nat → List Int32} {ws : List (Nat → Nat)}
theorem Tw_familyIn_ok {x : Int32} (ht : q_isTw t) (hp : q_kd h = (1, 6)) (hs : q_Sh σ) (hD : WfD D) (hT : CT0 σ t D P) (hh : HM σ h D hm) (hi : Inj (D 1) hm) (hq : Q (some (.int (who hm x (D 1)))) σ) : q_Call G d 0 0 X_Tw_familyIn [.ref t, .ref h, .int x] σ Q := by
  have h6 := hD.F6
  refine q_ci (by decide +kernel) (Nat.le_of_ble_eq_true rfl) (fun Q hq => ?_) hq
  refine v_Tw_familyIn_0 ht hp hs ?_
  refine up_ind (R := fun k => (∀ j, j < k → ¬ nI (hm j) = x) → q_At G X_Tw_familyIn d 0 0 2 [some (.ref t), some (.ref h), some (.int x), some (.int (nI k))] [] σ Q) (n := D 1) (fun g => ?_) (fun k hk ih g => ?_) 0 (Nat.zero_le _) (fun j hj => absurd hj (Nat.not_lt_zero j))
  · refine v_Tw_familyIn_2 ht hp hs ⟨fun _ => ?_, fun c => absurd (by rw [hT.1.2.1]; exact Int32.le_refl _) c⟩
    rw [who_none _ g] at hq
    exact hq
  · refine v_Tw_familyIn_2 ht hp hs ⟨fun c => by rw [hT.1.2.1] at c; exact ge_not c hk (by omega), fun _ => ⟨k, rfl, by omega, fun c => ?_, fun c => ?_⟩⟩
    · rw [(hh k hk).1] at c
      rw [nI_1]
      exact ih (fun j hj => by
        by_cases e : j = k
        · subst e; exact c
        · exact g j (by omega))
    · rw [(hh k hk).1] at c
      rw [who_one (k := k) _ hk c (fun j hj e => hi j k hj hk (by
        have a1 := hh.lt6 hD hj
        have a2 := hh.lt6 hD hk
        rw [← c, nI_eq (by omega) (by omega)] at e
        exact e))] at hq
      exact hq
theorem Wy_isWay_ok (hs : q_Sh σ) (hW : WyD σ D P ws) (hl : ws.length ≤ 720) (hk : k < ws.length) (hq : Q (some (.int 1)) σ) : q_Call G d 0 0 X_Wy_isWay [.ref 5, .int (nI k)] σ Q := by
  refine q_ci (by decide +kernel) (Nat.le_of_ble_eq_true rfl) (fun Q hq => ?_) hq
  refine v_Wy_isWay_0 hs ?_
  rw [if_neg (nI_pos (by omega)), hW.2.1, if_neg (nI_ge hk (by omega))]
  exact ⟨rfl, hq⟩
theorem Wy_isWay_no (hs : q_Sh σ) (hq : Q (some (.int 0)) σ) : q_Call G d 0 0 X_Wy_isWay [.ref 5, .int (-1)] σ Q := by
  refine q_ci (by decide +kernel) (Nat.le_of_ble_eq_true rfl) (fun Q hq => ?_) hq
  refine v_Wy_isWay_0 hs ?_
  rw [if_pos (by decide)]
  exact ⟨rfl, hq⟩
theorem get_lt (hk : ws[k]? = some w) : k < ws.length := (List.getElem?_eq_some_iff.mp hk).1
theorem Wy_house_ok (hs : q_Sh σ) (hD : WfD D) (hW : WyD σ D P ws) (hl : ws.length ≤ 720) (hk : ws[k]? = some w) (hw : ∀ f, f < D 1 → w f < D 0) (hf : f < D 1) (hq : Q (some (.int (nI (w f)))) σ) : q_Call G (d + 1) 0 0 X_Wy_houseOf [.ref 5, .int (nI k), .int (nI f)] σ Q := by
  have hH := hD.2.1
  have kl := get_lt hk
  refine q_ci (by decide +kernel) (Nat.le_of_ble_eq_true rfl) (fun Q hq => ?_) hq
  refine v_Wy_houseOf_0 hs (Wy_isWay_ok hs hW hl kl ⟨hs, _, rfl, fun c => absurd c (by decide), fun _ => ⟨k, rfl, by omega, ?_⟩⟩)
  rw [(hW.2.2.1 k w hk).1, row_at hD.F6 hf (fun f hf => by have := hw f hf; omega)]
  exact hq
theorem Wy_felt_ok (hs : q_Sh σ) (hD : WfD D) (hW : WyD σ D P ws) (hl : ws.length ≤ 720) (hk : ws[k]? = some w) (hw : ∀ f, f < D 1 → w f < D 0) (hf : f < D 1) (hq : Q (some (.int (felt D w P f))) σ) : q_Call G (d + 1) 0 0 X_Wy_feltBy [.ref 5, .int (nI k), .int (nI f)] σ Q := by
  have kl := get_lt hk
  refine q_ci (by decide +kernel) (Nat.le_of_ble_eq_true rfl) (fun Q hq => ?_) hq
  refine v_Wy_feltBy_0 hs (Wy_isWay_ok hs hW hl kl ⟨hs, _, rfl, fun c => absurd c (by decide), fun _ => ⟨k, rfl, by omega, ?_⟩⟩)
  rw [(hW.2.2.1 k w hk).2.1, flt_at hD.F6 hf (fun f hf => felt_lt hD hw hf), ← felt_N]
  exact hq
def qsm (D w : Nat → Nat) (P : Nat → List Int32) : Nat → Int32 := bx_sum (felt D w P)
theorem Wy_feltAll_ok (hs : q_Sh σ) (hD : WfD D) (hW : WyD σ D P ws) (hl : ws.length ≤ 720) (hk : ws[k]? = some w) (hw : ∀ f, f < D 1 → w f < D 0) (hq : Q (some (.int (qsm D w P (D 1)))) σ) : q_Call G (d + 2) 0 0 X_Wy_feltByAll [.ref 5, .int (nI k)] σ Q := by
  have h6 := hD.F6
  refine q_ci (by decide +kernel) (Nat.le_of_ble_eq_true rfl) (fun Q hq => ?_) hq
  refine v_Wy_feltByAll_0 hs ?_
  refine up_ind (R := fun j => q_At G X_Wy_feltByAll (d + 2) 0 0 4 [some (.ref 5), some (.int (nI k)), some (.int (qsm D w P j)), some (.int (nI j))] [] σ Q) (n := D 1) ?_ (fun j hj ih => ?_) 0 (Nat.zero_le _)
  · exact v_Wy_feltByAll_4 hs ⟨fun _ => hq, fun c => absurd (by rw [hW.1]; exact Int32.le_refl _) c⟩
  · refine v_Wy_feltByAll_4 hs ⟨fun c => by rw [hW.1] at c; exact ge_not c hj (by omega), fun _ => ?_⟩
    refine Wy_felt_ok (d := d) hs hD hW hl hk hw hj ⟨hs, _, rfl, ?_⟩
    rw [nI_1]
    exact ih
theorem Wy_content_ok (hs : q_Sh σ) (hW : WyD σ D P ws) (hl : ws.length ≤ 720) (hk : ws[k]? = some w) (hq : Q (some (.int (ncont D w P (D 1)))) σ) : q_Call G (d + 1) 0 0 X_Wy_contentIn [.ref 5, .int (nI k)] σ Q := by
  have kl := get_lt hk
  refine q_ci (by decide +kernel) (Nat.le_of_ble_eq_true rfl) (fun Q hq => ?_) hq
  refine v_Wy_contentIn_0 hs (Wy_isWay_ok hs hW hl kl ⟨hs, _, rfl, fun c => absurd c (by decide), fun _ => ⟨k, rfl, by omega, ?_⟩⟩)
  rw [(hW.2.2.1 k w hk).2.2.2]
  exact hq
theorem Wy_content_no (hs : q_Sh σ) (hq : Q (some (.int 0)) σ) : q_Call G (d + 1) 0 0 X_Wy_contentIn [.ref 5, .int (-1)] σ Q := by
  refine q_ci (by decide +kernel) (Nat.le_of_ble_eq_true rfl) (fun Q hq => ?_) hq
  exact v_Wy_contentIn_0 hs (Wy_isWay_no hs ⟨hs, _, rfl, fun _ => hq, fun c => absurd rfl c⟩)
theorem Wy_leads_ok (ht : q_isTw t) (hp : q_kd h = (1, 6)) (hs : q_Sh σ) (hD : WfD D) (hT : CT0 σ t D P) (hh : HM σ h D hm) (hi : Inj (D 1) hm) (hW : WyD σ D P ws) (hl : ws.length ≤ 720) (hk : ws[k]? = some w) (hw : ∀ f, f < D 1 → w f < D 0) (hf : f < D 1) (hq : Q (some (.int (if rg hm w (D 1) f (D 1) f then 1 else 0))) σ) : q_Call G (d + 2) 0 0 X_Wy_leadsRing [.ref 5, .int (nI k), .ref t, .ref h, .int (nI f)] σ Q := by
  have h6 := hD.F6
  refine q_ci (by decide +kernel) (Nat.le_of_ble_eq_true rfl) (fun Q hq => ?_) hq
  refine v_Wy_leadsRing_0 ht hp hs ?_
  have loop : ∀ s j e, j + s = D 1 → e < D 1 → (Q (some (.int (if rg hm w (D 1) f s e then 1 else 0))) σ) → q_At G X_Wy_leadsRing (d + 2) 0 0 7 [some (.ref 5), some (.int (nI k)), some (.ref t), some (.ref h), some (.int (nI f)), some (.int (nI e)), some (.int (nI j))] [] σ Q := by
    intro s
    induction s with
    | zero =>
      intro j e hj he hq
      have : j = D 1 := by omega
      subst this
      exact v_Wy_leadsRing_7 ht hs ⟨fun _ => hq, fun c => absurd (by rw [hW.1]; exact Int32.le_refl _) c⟩
    | succ s ih =>
      intro j e hj he hq
      refine v_Wy_leadsRing_7 ht hs ⟨fun c => by rw [hW.1] at c; exact ge_not c (by omega) (by omega), fun _ => ?_⟩
      refine Wy_house_ok (d := d) hs hD hW hl hk hw he ⟨hs, _, rfl, ?_⟩
      refine Tw_familyIn_ok ht hp hs hD hT hh hi ⟨hs, _, rfl, fun c => ?_, fun c => ?_⟩
      · rw [rg, if_pos c] at hq
        rcases who_cases (hm := hm) (h := nI (w e)) (D 1) with e0 | ⟨x, a, b, e0⟩
        · rw [e0] at c
          exact absurd (Int32.lt_trans c (by decide : (-1 : Int32) < 0)) (nI_pos (by omega))
        · rw [b, nI_1]
          rw [b, nI_clamp (by omega)] at hq
          exact ih (j + 1) x (by omega) a hq
      · rw [rg, if_neg c] at hq
        refine ⟨by split <;> rfl, ?_⟩
        by_cases c2 : who hm (nI (w e)) (D 1) = nI f
        · rw [if_pos c2]
          rw [if_pos (decide_eq_true c2)] at hq
          exact hq
        · rw [if_neg c2]
          rw [if_neg (by simp [c2])] at hq
          exact hq
  exact loop (D 1) 0 f (by omega) hf hq
theorem Wy_swaps_ok (ht : q_isTw t) (hp : q_kd h = (1, 6)) (hs : q_Sh σ) (hD : WfD D) (hT : CT0 σ t D P) (hh : HM σ h D hm) (hi : Inj (D 1) hm) (hW : WyD σ D P ws) (hl : ws.length ≤ 720) (hk : ws[k]? = some w) (hw : ∀ f, f < D 1 → w f < D 0) (hq : Q (some (.int (nI (swc hm w (D 1) (D 1))))) σ) : q_Call G (d + 3) 0 0 X_Wy_swapsTo [.ref 5, .int (nI k), .ref t, .ref h] σ Q := by
  have h6 := hD.F6
  have hH := hD.2.1
  refine q_ci (by decide +kernel) (Nat.le_of_ble_eq_true rfl) (fun Q hq => ?_) hq
  refine v_Wy_swapsTo_0 ht hp hs ?_
  refine up_ind (R := fun j => q_At G X_Wy_swapsTo (d + 3) 0 0 6 [some (.ref 5), some (.int (nI k)), some (.ref t), some (.ref h), some (.int (nI (swc hm w (D 1) j))), some (.int (nI j))] [] σ Q) (n := D 1) ?_ (fun j hj ih => ?_) 0 (Nat.zero_le _)
  · exact v_Wy_swapsTo_6 hp hs ⟨fun _ => hq, fun c => absurd (by rw [hW.1]; exact Int32.le_refl _) c⟩
  · refine v_Wy_swapsTo_6 hp hs ⟨fun c => by rw [hW.1] at c; exact ge_not c hj (by omega), fun _ => ?_⟩
    have e1 : (nI (w j) = nI (hm j)) ↔ w j = hm j := by
      have a1 := hw j hj
      have a2 := hh.lt6 hD hj
      exact nI_eq (by omega) (by omega)
    refine Wy_house_ok (d := d + 1) hs hD hW hl hk hw hj ⟨hs, _, rfl, j, rfl, by omega, fun c => ?_, fun c => ?_⟩
    · rw [(hh j hj).1, e1] at c
      rw [swc, if_pos c] at ih
      rw [nI_1]
      exact ih
    · rw [(hh j hj).1, e1] at c
      rw [swc, if_neg c] at ih
      refine Wy_leads_ok (d := d) ht hp hs hD hT hh hi hW hl hk hw hj ⟨hs, _, rfl, fun c2 => ?_, fun c2 => ?_⟩
      · rw [if10, Classical.not_not] at c2
        rw [if_pos c2] at ih
        rw [nI_1]
        exact ih
      · rw [if10] at c2
        rw [if_neg c2] at ih
        rw [nI_1, nI_1]
        exact ih
end SWAPS
