-- bits counted
def bc (p0 : Int32) : Int32 := ((((((((p0 - ((p0.toUInt32 >>> ((1 : Int32).toUInt32 &&& Int32.toUInt32 31)).toInt32 &&& 1431655765)) &&& 858993459) + (((p0 - ((p0.toUInt32 >>> ((1 : Int32).toUInt32 &&& Int32.toUInt32 31)).toInt32 &&& 1431655765)).toUInt32 >>> ((2 : Int32).toUInt32 &&& Int32.toUInt32 31)).toInt32 &&& 858993459)) + ((((p0 - ((p0.toUInt32 >>> ((1 : Int32).toUInt32 &&& Int32.toUInt32 31)).toInt32 &&& 1431655765)) &&& 858993459) + (((p0 - ((p0.toUInt32 >>> ((1 : Int32).toUInt32 &&& Int32.toUInt32 31)).toInt32 &&& 1431655765)).toUInt32 >>> ((2 : Int32).toUInt32 &&& Int32.toUInt32 31)).toInt32 &&& 858993459)).toUInt32 >>> ((4 : Int32).toUInt32 &&& Int32.toUInt32 31)).toInt32) &&& 252645135) + ((((((p0 - ((p0.toUInt32 >>> ((1 : Int32).toUInt32 &&& Int32.toUInt32 31)).toInt32 &&& 1431655765)) &&& 858993459) + (((p0 - ((p0.toUInt32 >>> ((1 : Int32).toUInt32 &&& Int32.toUInt32 31)).toInt32 &&& 1431655765)).toUInt32 >>> ((2 : Int32).toUInt32 &&& Int32.toUInt32 31)).toInt32 &&& 858993459)) + ((((p0 - ((p0.toUInt32 >>> ((1 : Int32).toUInt32 &&& Int32.toUInt32 31)).toInt32 &&& 1431655765)) &&& 858993459) + (((p0 - ((p0.toUInt32 >>> ((1 : Int32).toUInt32 &&& Int32.toUInt32 31)).toInt32 &&& 1431655765)).toUInt32 >>> ((2 : Int32).toUInt32 &&& Int32.toUInt32 31)).toInt32 &&& 858993459)).toUInt32 >>> ((4 : Int32).toUInt32 &&& Int32.toUInt32 31)).toInt32) &&& 252645135).toUInt32 >>> ((8 : Int32).toUInt32 &&& Int32.toUInt32 31)).toInt32) + (((((((p0 - ((p0.toUInt32 >>> ((1 : Int32).toUInt32 &&& Int32.toUInt32 31)).toInt32 &&& 1431655765)) &&& 858993459) + (((p0 - ((p0.toUInt32 >>> ((1 : Int32).toUInt32 &&& Int32.toUInt32 31)).toInt32 &&& 1431655765)).toUInt32 >>> ((2 : Int32).toUInt32 &&& Int32.toUInt32 31)).toInt32 &&& 858993459)) + ((((p0 - ((p0.toUInt32 >>> ((1 : Int32).toUInt32 &&& Int32.toUInt32 31)).toInt32 &&& 1431655765)) &&& 858993459) + (((p0 - ((p0.toUInt32 >>> ((1 : Int32).toUInt32 &&& Int32.toUInt32 31)).toInt32 &&& 1431655765)).toUInt32 >>> ((2 : Int32).toUInt32 &&& Int32.toUInt32 31)).toInt32 &&& 858993459)).toUInt32 >>> ((4 : Int32).toUInt32 &&& Int32.toUInt32 31)).toInt32) &&& 252645135) + ((((((p0 - ((p0.toUInt32 >>> ((1 : Int32).toUInt32 &&& Int32.toUInt32 31)).toInt32 &&& 1431655765)) &&& 858993459) + (((p0 - ((p0.toUInt32 >>> ((1 : Int32).toUInt32 &&& Int32.toUInt32 31)).toInt32 &&& 1431655765)).toUInt32 >>> ((2 : Int32).toUInt32 &&& Int32.toUInt32 31)).toInt32 &&& 858993459)) + ((((p0 - ((p0.toUInt32 >>> ((1 : Int32).toUInt32 &&& Int32.toUInt32 31)).toInt32 &&& 1431655765)) &&& 858993459) + (((p0 - ((p0.toUInt32 >>> ((1 : Int32).toUInt32 &&& Int32.toUInt32 31)).toInt32 &&& 1431655765)).toUInt32 >>> ((2 : Int32).toUInt32 &&& Int32.toUInt32 31)).toInt32 &&& 858993459)).toUInt32 >>> ((4 : Int32).toUInt32 &&& Int32.toUInt32 31)).toInt32) &&& 252645135).toUInt32 >>> ((8 : Int32).toUInt32 &&& Int32.toUInt32 31)).toInt32).toUInt32 >>> ((16 : Int32).toUInt32 &&& Int32.toUInt32 31)).toInt32) &&& 63)
theorem JI_bitCount_ok {G : q_G} {d : Nat} {σ : q_S} {Q : Option Value → q_S → Prop} {x : Int32} (hs : q_Sh σ) (hq : Q (some (.int (bc x))) σ) : q_Call G d 0 0 X_JI_bitCount [.int x] σ Q := by
  refine q_ci (by decide +kernel) (Nat.le_of_ble_eq_true rfl) (fun Q hq => ?_) hq
  exact v_JI_bitCount_0 hs hq
theorem bc_8 : ∀ n, n < 256 → bc (nI n) = pop30 (nI n) 30 := by decide +kernel
theorem or_8 : ∀ m, m < 256 → ∀ k, k < 8 → nI m ||| ((1 : Int32) <<< (nI k &&& 31)) = nI (m ||| 2 ^ k) ∧ m ||| 2 ^ k < 256 := by decide +kernel
theorem bc_s : ∀ n, n < 6 → ∀ m, m < 64 → m < 2 ^ n → nI m ||| ((1 : Int32) <<< (nI n &&& 31)) = nI (m + 2 ^ n) ∧ m + 2 ^ n < 2 ^ (n + 1) ∧ m + 2 ^ n < 64 ∧ bc (nI (m + 2 ^ n)) = bc (nI m) + 1 := by decide +kernel
theorem or_in {f : Nat → Int32} {x : Int32} {o : Nat} (hx : ∃ m, m < 256 ∧ x = nI m) : ∀ n, o + n ≤ 8 → (∀ k, k < n → f k = 0 ∨ f k = (1 : Int32) <<< (nI (o + k) &&& 31)) → ∃ m, m < 256 ∧ bx_orI x f n = nI m
  | 0, _, _ => hx
  | n + 1, h, hf => by
    obtain ⟨m, m1, m2⟩ := or_in hx n (by omega) (fun k hk => hf k (by omega))
    rw [bx_orI, m2]
    rcases hf n (by omega) with e | e
    · rw [e, or0]; exact ⟨m, m1, rfl⟩
    · rw [e]; exact ⟨_, (or_8 m m1 (o + n) (by omega)).2, (or_8 m m1 (o + n) (by omega)).1⟩
theorem bx_or_I {f : Nat → Int32} : ∀ n, bx_or f n = bx_orI 0 f n
  | 0 => rfl
  | n + 1 => by rw [bx_or, bx_orI, bx_or_I n]
theorem brk_8 {D hm : Nat → Nat} (hD : WfD D) : ∃ m, m < 256 ∧ brk D hm = nI m := by
  unfold brk
  refine or_in (o := 4) ?_ (D 4) (by have := hD.2.2.2.1; omega) (fun k _ => ?_)
  · rw [bx_or_I]
    refine or_in (o := 0) ⟨0, by decide, rfl⟩ (D 3) (by have := hD.2.2.1; omega) (fun k _ => ?_)
    rw [Nat.zero_add]
    split
    · exact Or.inl rfl
    · exact Or.inr rfl
  · split
    · exact Or.inr rfl
    · exact Or.inl rfl
theorem bc_brk {D hm : Nat → Nat} (hD : WfD D) : bc (brk D hm) = pop30 (brk D hm) 30 := by
  obtain ⟨m, m1, m2⟩ := brk_8 (hm := hm) hD
  rw [m2]
  exact bc_8 m m1
theorem bc_or {b : Nat → Prop} [DecidablePred b] : ∀ n, n ≤ 6 → ∃ m, m < 64 ∧ m < 2 ^ n ∧ bx_or (fun f => if b f then (1 : Int32) <<< (nI f &&& 31) else 0) n = nI m ∧ bc (nI m) = bx_sum (fun f => if b f then 1 else 0) n
  | 0, _ => ⟨0, by decide, by decide, rfl, (by decide +kernel : bc (nI 0) = 0)⟩
  | n + 1, h => by
    obtain ⟨m, m0, m1, m2, m3⟩ := bc_or (b := b) n (by omega)
    rw [bx_or, bx_sum, m2, ← m3]
    by_cases c : b n
    · obtain ⟨s1, s2, s3, s4⟩ := bc_s n (by omega) m m0 m1
      rw [if_pos c, if_pos c]
      exact ⟨_, s3, s2, s1, s4⟩
    · rw [if_neg c, if_neg c, or0, Int32.add_zero]
      exact ⟨m, m0, by have := Nat.pow_lt_pow_succ (a := 2) (n := n) (by decide); omega, rfl, rfl⟩
theorem bc_cont {D hm : Nat → Nat} {P : Nat → List Int32} (hD : WfD D) : bc (cont D hm P) = ncont D hm P (D 1) := by
  obtain ⟨m, _, _, m2, m3⟩ := bc_or (b := fun f => 0 ≤ joyv D hm P f) (D 1) hD.F6
  unfold cont ncont
  rw [m2]
  exact m3
-- centuries
def cyS (g : Nat → Nat) (kb : Nat → Nat → Nat) (D : Nat → Nat) (P : Nat → List Int32) (s : (Nat → Nat) × (Nat → Int32) × Nat) : Nat → ((Nat → Nat) × (Nat → Int32) × Nat) × Int32 × Int32
  | 0 => (s, 0, 0)
  | k + 1 => ((rdR D (lyr g kb D (cyS g kb D P s k).1.1 (cyS g kb D P s k).1.2.1 (cyS g kb D P s k).1.2.2).2.2, rdL D (lyr g kb D (cyS g kb D P s k).1.1 (cyS g kb D P s k).1.2.1 (cyS g kb D P s k).1.2.2).1 (lyr g kb D (cyS g kb D P s k).1.1 (cyS g kb D P s k).1.2.1 (cyS g kb D P s k).1.2.2).2.1 (lyr g kb D (cyS g kb D P s k).1.1 (cyS g kb D P s k).1.2.1 (cyS g kb D P s k).1.2.2).2.2, rdN D (lyr g kb D (cyS g kb D P s k).1.1 (cyS g kb D P s k).1.2.1 (cyS g kb D P s k).1.2.2).2.2),
      (cyS g kb D P s k).2.1 + ncont D (rdR D (lyr g kb D (cyS g kb D P s k).1.1 (cyS g kb D P s k).1.2.1 (cyS g kb D P s k).1.2.2).2.2) P (D 1),
      (cyS g kb D P s k).2.2 + pop30 (brk D (rdR D (lyr g kb D (cyS g kb D P s k).1.1 (cyS g kb D P s k).1.2.1 (cyS g kb D P s k).1.2.2).2.2)) 30)
def a_cent (g : Nat → Nat) (kb : Nat → Nat → Nat) (D hm : Nat → Nat) (P : Nat → List Int32) (L : Nat → Int32) (x y z : Int32) : Int32 :=
  if inN 0 x 9999 = 0 then -1 else if inN 1 y 60 = 0 then -1 else if inN 0 z 2 = 0 then -1
  else if z = 0 then (cyS g kb D P (hm, upd L 49 0, x.toNatClampNeg) y.toNatClampNeg).2.1 else if z = 1 then (cyS g kb D P (hm, upd L 49 0, x.toNatClampNeg) y.toNatClampNeg).2.2 else (cyS g kb D P (hm, upd L 49 0, x.toNatClampNeg) y.toNatClampNeg).1.2.1 49
theorem WL_49 {D hm : Nat → Nat} {L : Nat → Int32} {v : Int32} (hD : WfD D) (h : WL D hm L) : WL D hm (upd L 49 v) := by
  have := hD.F6
  exact ⟨fun f hf => by rw [upd_ne (by omega)]; exact h.1 f hf, h.2.1, fun i hi h1 => by rw [upd_ne (by omega)]; exact h.2.2 i hi h1⟩
theorem cyS_W {g : Nat → Nat} {kb : Nat → Nat → Nat} {D : Nat → Nat} {P : Nat → List Int32} {s : (Nat → Nat) × (Nat → Int32) × Nat} (hg : g = rN) (hk : kb = bN) (hD : WfD D) (h : WL D s.1 s.2.1) (hn : s.2.2 < 2147483648) : ∀ k, WL D (cyS g kb D P s k).1.1 (cyS g kb D P s k).1.2.1 ∧ (cyS g kb D P s k).1.2.2 < 2147483648
  | 0 => ⟨h, hn⟩
  | k + 1 => by
    have ih := cyS_W (P := P) hg hk hD h hn k
    rw [cyS]
    exact ⟨WL_rd hD (WL_lyr hk hD ih.1), shf_lt _ _ _ (lyr_lt hg ih.2)⟩
-- two lives that differ by what has lapsed
def offL (c : Int32) (A B : Nat → Int32) : Prop := (∀ i, i < 49 → B i = A i) ∧ B 49 = A 49 + c
theorem offL.up {c x : Int32} {A B : Nat → Int32} {i : Nat} (h : offL c A B) (hi : i < 49) : offL c (upd A i x) (upd B i x) := by
  refine ⟨fun j hj => ?_, by rw [upd_ne (by omega), upd_ne (by omega)]; exact h.2⟩
  by_cases e : j = i
  · subst e; rw [upd_at, upd_at]
  · rw [upd_ne e, upd_ne e]; exact h.1 j hj
section OFF
variable {c : Int32} {A B : Nat → Int32} {D hm : Nat → Nat} {f e n : Nat} {g : Nat → Nat} {kb : Nat → Nat → Nat}
theorem off_lpd (h : offL c A B) (hf : f < 6) (he : e < 6) : lpd D hm B f e = lpd D hm A f e := lpd_eq (h.1 _ (by omega))
theorem off_rlE {x y : Int32 × (Nat → Int32)} (h1 : y.1 = x.1) (h : offL c x.2 y.2) (hf : f < 6) : ∀ n, n ≤ 6 → (rlE D hm f n y).1 = (rlE D hm f n x).1 ∧ offL c (rlE D hm f n x).2 (rlE D hm f n y).2
  | 0, _ => ⟨h1, h⟩
  | n + 1, hn => by
    obtain ⟨i1, i2⟩ := off_rlE h1 h hf n (by omega)
    rw [rlE, rlE]
    refine ⟨?_, ?_⟩
    · show _ + _ = _ + _
      rw [i1, off_lpd i2 hf (by omega)]
    · show offL c (upd _ _ _) (upd _ _ _)
      rw [off_lpd i2 hf (by omega), i2.1 (12 + (f * 6 + n)) (by omega)]
      exact i2.up (by omega)
theorem off_rlF {x y : Int32 × (Nat → Int32)} (h6 : D 1 ≤ 6) (h1 : y.1 = x.1) (h : offL c x.2 y.2) : ∀ n, n ≤ 6 → (rlF D hm n y).1 = (rlF D hm n x).1 ∧ offL c (rlF D hm n x).2 (rlF D hm n y).2
  | 0, _ => ⟨h1, h⟩
  | n + 1, hn => by
    obtain ⟨i1, i2⟩ := off_rlF h6 h1 h n (by omega)
    rw [rlF, rlF]
    exact off_rlE i1 i2 (by omega) (D 1) h6
theorem off_hcp {r : Nat → Nat} (h : offL c A B) : ∀ n, n ≤ 6 → offL c (hcp r n A) (hcp r n B)
  | 0, _ => h
  | n + 1, hn => by
    rw [hcp, hcp]
    exact (off_hcp h n (by omega)).up (by omega)
theorem off_rdL (h6 : D 1 ≤ 6) (h : offL c A B) : offL c (rdL D hm A n) (rdL D hm B n) := by
  obtain ⟨i1, i2⟩ := off_rlF (hm := hm) (x := (0, A)) (y := (0, B)) h6 rfl h (D 1) h6
  have i3 := off_hcp (r := rdR D n) i2 (D 1) h6
  unfold rdL rdG
  rw [i1, i3.1 48 (by decide)]
  have i4 := i3.up (i := 48) (x := hcp (rdR D n) (D 1) (rlF D hm (D 1) (0, A)).2 48 + 1) (by decide)
  refine ⟨fun j hj => ?_, ?_⟩
  · exact (upd_ne (by omega)).trans ((i4.1 j hj).trans (upd_ne (by omega)).symm)
  · rw [upd_at, upd_at, i4.2]
    rw [Int32.add_assoc, Int32.add_comm c, ← Int32.add_assoc]
theorem off_swp (h : offL c A B) (hf : f < 6) (he : e < 6) : offL c (swpL A f e) (swpL B f e) := by
  unfold swpL
  rw [h.1 f (by omega), h.1 e (by omega)]
  exact (h.up (by omega)).up (by omega)
theorem off_mv {x : Int32} (h : offL c A B) (hf : f < 6) (he : e < 6) : offL c (mvL A f e x) (mvL B f e x) := by
  unfold mvL
  rw [h.1 (6 + f) (by omega)]
  have h2 := h.up (i := 6 + f) (x := A (6 + f) - x) (by omega)
  rw [h2.1 (6 + e) (by omega)]
  exact h2.up (by omega)
theorem off_len {x : Int32} (h : offL c A B) (hf : f < 6) (he : e < 6) : offL c (lenL A f e x) (lenL B f e x) := by
  have h2 := off_mv (x := x) h hf he
  unfold lenL
  rw [h2.1 (12 + (e * 6 + f)) (by omega)]
  exact h2.up (by omega)
theorem off_ly1 (h : offL c A B) (hf : f < 6) (he : e < 6) : offL c (ly1 D hm A f e) (ly1 D hm B f e) := by
  unfold ly1
  rw [h.1 (6 + f) (by omega)]
  split
  · exact h
  · split
    · exact h
    · exact off_len h hf he
theorem off_ly2 {F : Nat} (hk : kb = bN) (h0 : 0 < F) (h6 : F ≤ 6) (h : offL c A B) : (ly2 g kb F hm B n).1 = (ly2 g kb F hm A n).1 ∧ (ly2 g kb F hm B n).2.2 = (ly2 g kb F hm A n).2.2 ∧ offL c (ly2 g kb F hm A n).2.1 (ly2 g kb F hm B n).2.1 := by
  unfold ly2
  split
  · exact ⟨rfl, rfl, off_swp h (by have := kb_lt hk (g (g n)) h0; omega) (by have := kb_lt hk (g (g (g n))) h0; omega)⟩
  · exact ⟨rfl, rfl, h⟩
theorem off_lyr (hk : kb = bN) (h6 : D 1 ≤ 6) (h : offL c A B) : (lyr g kb D hm B n).1 = (lyr g kb D hm A n).1 ∧ (lyr g kb D hm B n).2.2 = (lyr g kb D hm A n).2.2 ∧ offL c (lyr g kb D hm A n).2.1 (lyr g kb D hm B n).2.1 := by
  unfold lyr
  split
  · exact ⟨rfl, rfl, h⟩
  · exact off_ly2 hk (by omega) h6 (off_ly1 h (by have := kb_lt hk (g n) (m := D 1) (by omega); omega) (by have := kb_lt hk (g (g n)) (m := D 1) (by omega); omega))
theorem WL_off (hD : WfD D) (h : offL c A B) (hw : WL D hm A) : WL D hm B := by
  have := hD.F6
  exact ⟨fun f hf => by rw [h.1 f (by omega)]; exact hw.1 f hf, hw.2.1, fun i hi h1 => by rw [h.1 _ (by omega)]; exact hw.2.2 i hi h1⟩
end OFF
