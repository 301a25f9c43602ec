def CK (σ : q_S) (tp : List Nat) (i : Nat) : Prop := CTp σ tp ∧ TKr σ (tkA tp (ps tp i))
def flt (tp : List Nat) (k i : Nat) : Nat := k + 16 * ps tp i
def isW (T : q_tk) (w : Nat) : Bool := decide (T.1 = 1 ∧ T.2.2.1 = w)
def isS (T : q_tk) (c : Nat) : Bool := decide (T.1 = 3 ∧ T.2.2.1 = c)
def isNm (T : q_tk) : Bool := decide (T.1 = 1 ∧ 25 ≤ T.2.2.1)
def kdT (T : q_tk) : Int32 := if T.1 = 1 ∧ 18 ≤ T.2.2.1 ∧ T.2.2.1 ≤ 21 then nI (T.2.2.1 - 18) else -1
def acT (T : q_tk) : Int32 := if T.1 = 1 ∧ 14 ≤ T.2.2.1 ∧ T.2.2.1 ≤ 17 then nI (T.2.2.1 - 14) else -1
def S39 : Nat → Nat → Prop := fun a i => a = 3 ∧ i = 9
def SKb : Nat → Nat → Prop := fun a i => a = 3 ∧ i < 9
def SKc : Nat → Nat → Prop := fun a _ => a = 3
theorem isW_t {T : q_tk} {w : Nat} : isW T w = true ↔ T.1 = 1 ∧ T.2.2.1 = w := by unfold isW; rw [decide_eq_true_eq]
theorem isS_t {T : q_tk} {w : Nat} : isS T w = true ↔ T.1 = 3 ∧ T.2.2.1 = w := by unfold isS; rw [decide_eq_true_eq]
theorem isNm_t {T : q_tk} : isNm T = true ↔ T.1 = 1 ∧ 25 ≤ T.2.2.1 := by unfold isNm; rw [decide_eq_true_eq]
theorem tkA_s {tp : List Nat} {p : Nat} (hw : WTp tp) (h : (tkA tp p).1.1 = 3) : (tkA tp p).1.2.2.1 < 127 := by
  by_cases c0 : p < tp.length
  · by_cases c1 : isLe (tp.getD p 0) = true
    · exfalso
      unfold tkA at h
      rw [if_pos c0, if_pos c1] at h
      have h : (if _ then 1 else 4) = 3 := h
      split at h <;> exact absurd h (by decide)
    · by_cases c2 : isDg (tp.getD p 0) = true
      · exfalso
        unfold tkA at h
        rw [if_pos c0, if_neg c1, if_pos c2] at h
        have h : (if _ then 2 else 4) = 3 := h
        split at h <;> exact absurd h (by decide)
      · have e : tkA tp p = ((if isSg (tp.getD p 0) = true then 3 else 4, p, tp.getD p 0, []), p + 1) := by unfold tkA; rw [if_pos c0, if_neg c1, if_neg c2]
        rw [e]
        exact hw.at c0
  · rw [tkA_end c0] at h
    exact absurd (show (0 : Nat) = 3 from h) (by decide)
theorem wcn_25 : ∀ k, k < 34 → ((q_wcn.getD k 0 = 0) ↔ k < 25) := by decide +kernel
theorem sm_kd : ∀ v, v < 34 → ((q_smap.getD v 0).toInt < 1 ∨ 4 < (q_smap.getD v 0).toInt → ¬ (18 ≤ v ∧ v ≤ 21)) ∧ ((q_smap.getD v 0).toInt = 1 → v = 18) ∧ ((q_smap.getD v 0).toInt = 2 → v = 19) ∧ ((q_smap.getD v 0).toInt = 3 → v = 20) ∧ ((q_smap.getD v 0).toInt = 4 → v = 21) := by decide +kernel
theorem sm_ac : ∀ v, v < 34 → ((q_smap.getD v 0).toInt < 24 ∨ 27 < (q_smap.getD v 0).toInt → ¬ (14 ≤ v ∧ v ≤ 17)) ∧ ((q_smap.getD v 0).toInt = 24 → v = 14) ∧ ((q_smap.getD v 0).toInt = 25 → v = 15) ∧ ((q_smap.getD v 0).toInt = 26 → v = 16) ∧ ((q_smap.getD v 0).toInt = 27 → v = 17) := by decide +kernel
section CTOK2
variable {G : q_G} {d : Nat} {σ σ' : q_S} {Q : Option Value → q_S → Prop} {tp : List Nat} {i : Nat}
theorem tk_v33 (h : (tk tp i).1 = 1) : (tk tp i).2.2.1 < 34 := by
  have := (tkA_w h).2.2
  have h2 := wix_le (tkA tp (ps tp i)).1.2.2.2
  unfold tk
  rw [this]
  omega
theorem CK.k {SI SL : Nat → Nat → Prop} (h : CK σ tp i) (hf : Fr SI SL σ σ') (hI : ∀ a j, SI a j → ¬ (a = 2 ∨ (a = 1 ∧ j = 1) ∨ (a = 3 ∧ j < 8))) (hL : ∀ a j, SL a j → ¬ (a = 3 ∧ j = 5)) : CK σ' tp i := by
  have e : ∀ j, j < 8 → q_I σ' 3 j = q_I σ 3 j := fun j hj => hf.2.2.1 _ _ (fun z => hI _ _ z (Or.inr (Or.inr ⟨rfl, hj⟩)))
  refine ⟨h.1.k hf.k (fun a j z y => hI _ _ z (by omega)), ?_⟩
  unfold TKr
  rw [e 1 (by decide), e 2 (by decide), e 3 (by decide), e 6 (by decide), e 7 (by decide), hf.2.2.2 _ _ (fun z => hL _ _ z ⟨rfl, rfl⟩), hf.2.1]
  exact h.2
theorem CK.s39 {v : Int32} (h : CK σ tp i) : CK (q_setI σ 3 9 v) tp i := h.k (SI := S39) (SL := noL) (Fr.setI ⟨rfl, rfl⟩) (fun a j z => by unfold S39 at z; omega) (fun _ _ z => z.elim)
theorem CK.sort (h : CK σ tp i) : q_I σ 3 1 = nI (tk tp i).1 := h.2.1
theorem CK.pl (h : CK σ tp i) : q_I σ 3 2 = nI (ps tp i) := by have := h.2.2.1; rwa [tkA_pl] at this
theorem CK.s1 (h : CK σ tp i) {n : Nat} (hn : n < 5) : (q_I σ 3 1 = nI n) ↔ (tk tp i).1 = n := by
  rw [h.sort]
  have := tk_sort (tp := tp) i
  exact nI_eq (by omega) (by omega)
theorem nx_le : (tkA tp (ps tp i)).2 ≤ tp.length := by
  by_cases c : ps tp i < tp.length
  · exact (tkA_nx c).2
  · rw [tkA_end c]; exact ps_le i
theorem Tk_next (hd : 6 ≤ d) (hs : q_Sh σ) (hw : WTp tp) (hK : CK σ tp i) (hq : ∀ σ', Fk SKa SKl σ σ' → CK σ' tp (i + 1) → Q none σ') : q_Call G d 0 0 X_Tk_advance [.ref 3] σ Q :=
  Tk_adv_ok hd hs hw hK.1 nx_le hK.2.2.2.1 (fun σ' f g => hq σ' f ⟨hK.1.k f (fun _ _ z => SKa_t z), g⟩)
theorem Tk_start_ok (hd : 7 ≤ d) (hs : q_Sh σ) (hw : WTp tp) (hT : CTp σ tp) (hq : ∀ σ', Fk SKc SKl σ σ' → CK σ' tp 0 → q_I σ' 3 9 = 0 → Q none σ') : q_Call G d 0 0 X_Tk_start [.ref 3] σ Q := by
  obtain ⟨d, rfl⟩ : ∃ d', d = d' + 1 := ⟨d - 1, by omega⟩
  refine q_cv0 (P := fun σ' => Fk SKc SKl σ σ' ∧ CK σ' tp 0 ∧ q_I σ' 3 9 = 0) (by decide +kernel) (Nat.le_of_ble_eq_true rfl) (fun Q hq => ?_) (fun σ' h => hq σ' h.1 h.2.1 h.2.2)
  have f1 : Fk SKc SKl σ (q_setI (q_setI σ 3 3 0) 3 9 0) := (Fr.setI (show SKc 3 3 from rfl)).k.tr (Fr.setI (show SKc 3 9 from rfl)).k
  have hT1 := hT.k f1 (fun a i z => by unfold SKc at z; omega)
  refine v_Tk_start_0 hs (Tk_adv_ok (b := 0) (by omega) (f1.sh hs) hw hT1 (Nat.zero_le _) (by rw [q_I_ne (by decide), q_I_eq]; rfl) (fun σ' f g => ⟨f.sh (f1.sh hs), rfl, hq _ ⟨f1.tr (f.mono (fun a i z => z.1) (fun _ _ z => z)), ⟨hT1.k f (fun _ _ z => SKa_t z), g⟩, ?_⟩⟩))
  rw [f.2.2.1 _ _ (fun z => absurd z.2 (by decide)), q_I_eq]
theorem Tk_refuse_ok {k : Nat} (hs : q_Sh σ) (hK : CK σ tp i) (hq : ∀ σ', Fr S39 noL σ σ' → q_I σ' 3 9 = nI (flt tp k i) → Q (some (.int 0)) σ') : q_Call G d 0 0 X_Tk_refuse [.ref 3, .int (nI k)] σ Q := by
  refine q_cii (Pp := fun v σ' => v = 0 ∧ Fr S39 noL σ σ' ∧ q_I σ' 3 9 = nI (flt tp k i)) (by decide +kernel) (Nat.le_of_ble_eq_true rfl) (fun Q hv => ?_) (fun v σ' h => by rw [h.1]; exact hq σ' h.2.1 h.2.2)
  refine v_Tk_refuse_0 hs (hv _ _ ⟨rfl, Fr.setI ⟨rfl, rfl⟩, ?_⟩)
  rw [q_I_eq, hK.pl, show (16 : Int32) = nI 16 from rfl, pk_mul, nI_add]
  rfl
theorem Tk_isWord_ok {w : Nat} (hw : w < 34) (hs : q_Sh σ) (hK : CK σ tp i) (hq : Q (some (.int (if isW (tk tp i) w then 1 else 0))) σ) : q_Call G d 0 0 X_Tk_isWord [.ref 3, .ref (1001 + w)] σ Q := by
  refine q_ci (by decide +kernel) (Nat.le_of_ble_eq_true rfl) (fun Q hq => ?_) hq
  refine v_Tk_isWord_0 hw hs ⟨fun c => ?_, fun c => ?_⟩
  · rw [show (1 : Int32) = nI 1 from rfl, hK.s1 (by decide)] at c
    rw [if_neg (fun z => c (isW_t.mp z).1)] at hq
    exact hq
  · rw [show (1 : Int32) = nI 1 from rfl, hK.s1 (by decide)] at c
    refine ⟨(tk tp i).2.2.1, (hK.2.2.2.2.1 c).2, tk_v33 c, fun c2 => ?_, fun c2 => ?_⟩
    · rw [if_neg (fun z => c2 (isW_t.mp z).2)] at hq
      exact hq
    · rw [if_pos (isW_t.mpr ⟨c, c2⟩)] at hq
      exact hq
theorem Tk_isSign_ok {c : Nat} (hc : c < 128) (hs : q_Sh σ) (hw : WTp tp) (hK : CK σ tp i) (hq : Q (some (.int (if isS (tk tp i) c then 1 else 0))) σ) : q_Call G d 0 0 X_Tk_isSign [.ref 3, .int (nI c)] σ Q := by
  refine q_ci (by decide +kernel) (Nat.le_of_ble_eq_true rfl) (fun Q hq => ?_) hq
  have e : (if (q_I σ 3 1) = 3 then (if (q_I σ 3 7) = nI c then (1 : Int32) else 0) else 0) = if isS (tk tp i) c then 1 else 0 := by
    by_cases c3 : q_I σ 3 1 = 3
    · rw [if_pos c3]
      rw [show (3 : Int32) = nI 3 from rfl, hK.s1 (by decide)] at c3
      have hv := tkA_s hw c3
      have e7 : (q_I σ 3 7 = nI c) ↔ (tk tp i).2.2.1 = c := by rw [hK.2.2.2.2.2.2 c3]; exact nI_eq (by omega) (by omega)
      by_cases c4 : (tk tp i).2.2.1 = c
      · rw [if_pos (e7.mpr c4), if_pos (isS_t.mpr ⟨c3, c4⟩)]
      · rw [if_neg (fun z => c4 (e7.mp z)), if_neg (fun z => c4 (isS_t.mp z).2)]
    · rw [if_neg c3]
      rw [show (3 : Int32) = nI 3 from rfl, hK.s1 (by decide)] at c3
      rw [if_neg (fun z => c3 (isS_t.mp z).1)]
  refine v_Tk_isSign_0 hs ?_
  rw [e]
  exact ⟨q_nb01, hq⟩
theorem Tk_isName_ok (hs : q_Sh σ) (hK : CK σ tp i) (hq : Q (some (.int (if isNm (tk tp i) then 1 else 0))) σ) : q_Call G d 0 0 X_Tk_isName [.ref 3] σ Q := by
  refine q_ci (by decide +kernel) (Nat.le_of_ble_eq_true rfl) (fun Q hq => ?_) hq
  refine v_Tk_isName_0 hs ⟨fun c => ?_, fun c => ?_⟩
  · rw [show (1 : Int32) = nI 1 from rfl, hK.s1 (by decide)] at c
    rw [if_neg (fun z => c (isNm_t.mp z).1)] at hq
    exact hq
  · rw [show (1 : Int32) = nI 1 from rfl, hK.s1 (by decide)] at c
    have v34 := tk_v33 c
    refine ⟨(tk tp i).2.2.1, (hK.2.2.2.2.1 c).2, v34, q_nb10, ?_⟩
    have e := wcn_25 _ v34
    by_cases c2 : (tk tp i).2.2.1 < 25
    · rw [if_pos (e.mpr c2)]
      rw [if_neg (fun z => by have := (isNm_t.mp z).2; omega)] at hq
      exact hq
    · rw [if_neg (fun z => c2 (e.mp z))]
      rw [if_pos (isNm_t.mpr ⟨c, by omega⟩)] at hq
      exact hq
theorem Tk_takeWord_ok {w : Nat} (hd : 7 ≤ d) (hw33 : w < 34) (hs : q_Sh σ) (hw : WTp tp) (hK : CK σ tp i) (hq1 : isW (tk tp i) w = true → ∀ σ', Fk SKa SKl σ σ' → CK σ' tp (i + 1) → Q (some (.int 1)) σ') (hq0 : ¬ isW (tk tp i) w = true → ∀ σ', Fr S39 noL σ σ' → q_I σ' 3 9 = nI (flt tp 1 i) → Q (some (.int 0)) σ') : q_Call G d 0 0 X_Tk_takeWord [.ref 3, .ref (1001 + w)] σ Q := by
  obtain ⟨d, rfl⟩ : ∃ d', d = d' + 1 := ⟨d - 1, by omega⟩
  refine q_cii (Pp := fun v σ' => (isW (tk tp i) w = true ∧ v = 1 ∧ Fk SKa SKl σ σ' ∧ CK σ' tp (i + 1)) ∨ (¬ isW (tk tp i) w = true ∧ v = 0 ∧ Fr S39 noL σ σ' ∧ q_I σ' 3 9 = nI (flt tp 1 i))) (by decide +kernel) (Nat.le_of_ble_eq_true rfl) (fun Q hv => ?_) (fun v σ' h => by
    rcases h with ⟨a, b, c, e⟩ | ⟨a, b, c, e⟩
    · rw [b]; exact hq1 a σ' c e
    · rw [b]; exact hq0 a σ' c e)
  refine v_Tk_takeWord_0 hw33 hs (Tk_isWord_ok hw33 hs hK ⟨hs, _, rfl, fun c => ?_, fun c => ?_⟩)
  · have c : isW (tk tp i) w = true := Classical.byContradiction (fun z => c (by rw [if_neg z]))
    exact Tk_next (by omega) hs hw hK (fun σ' f g => ⟨f.sh hs, rfl, hv _ _ (Or.inl ⟨c, rfl, f, g⟩)⟩)
  · have c : ¬ isW (tk tp i) w = true := fun z => by rw [if_pos z] at c; exact absurd c (by decide)
    exact Tk_refuse_ok (k := 1) hs hK (fun σ' f g => ⟨f.sh hs, _, rfl, rfl, hv _ _ (Or.inr ⟨c, rfl, f, g⟩)⟩)
theorem Tk_takeSign_ok {w : Nat} (hd : 7 ≤ d) (hw33 : w < 128) (hs : q_Sh σ) (hw : WTp tp) (hK : CK σ tp i) (hq1 : isS (tk tp i) w = true → ∀ σ', Fk SKa SKl σ σ' → CK σ' tp (i + 1) → Q (some (.int 1)) σ') (hq0 : ¬ isS (tk tp i) w = true → ∀ σ', Fr S39 noL σ σ' → q_I σ' 3 9 = nI (flt tp 1 i) → Q (some (.int 0)) σ') : q_Call G d 0 0 X_Tk_takeSign [.ref 3, .int (nI w)] σ Q := by
  obtain ⟨d, rfl⟩ : ∃ d', d = d' + 1 := ⟨d - 1, by omega⟩
  refine q_cii (Pp := fun v σ' => (isS (tk tp i) w = true ∧ v = 1 ∧ Fk SKa SKl σ σ' ∧ CK σ' tp (i + 1)) ∨ (¬ isS (tk tp i) w = true ∧ v = 0 ∧ Fr S39 noL σ σ' ∧ q_I σ' 3 9 = nI (flt tp 1 i))) (by decide +kernel) (Nat.le_of_ble_eq_true rfl) (fun Q hv => ?_) (fun v σ' h => by
    rcases h with ⟨a, b, c, e⟩ | ⟨a, b, c, e⟩
    · rw [b]; exact hq1 a σ' c e
    · rw [b]; exact hq0 a σ' c e)
  refine v_Tk_takeSign_0 hs (Tk_isSign_ok hw33 hs hw hK ⟨hs, _, rfl, fun c => ?_, fun c => ?_⟩)
  · have c : isS (tk tp i) w = true := Classical.byContradiction (fun z => c (by rw [if_neg z]))
    exact Tk_next (by omega) hs hw hK (fun σ' f g => ⟨f.sh hs, rfl, hv _ _ (Or.inl ⟨c, rfl, f, g⟩)⟩)
  · have c : ¬ isS (tk tp i) w = true := fun z => by rw [if_pos z] at c; exact absurd c (by decide)
    exact Tk_refuse_ok (k := 1) hs hK (fun σ' f g => ⟨f.sh hs, _, rfl, rfl, hv _ _ (Or.inr ⟨c, rfl, f, g⟩)⟩)
-- what is wrong with a number (nothing: 0)
def nmF (T : q_tk) (lo hi : Nat) : Nat := if T.1 = 2 then (if T.2.2.1 < lo then 4 else if hi < T.2.2.1 then 4 else 0) else 1
theorem Tk_takeNumber_ok {lo hi : Nat} (hd : 7 ≤ d) (hlo : lo < 2 ^ 31) (hhi : hi < 2 ^ 31) (hs : q_Sh σ) (hw : WTp tp) (hK : CK σ tp i) (hq1 : nmF (tk tp i) lo hi = 0 → ∀ σ', Fk SKb SKl σ σ' → CK σ' tp (i + 1) → q_I σ' 3 8 = nI (tk tp i).2.2.1 → Q (some (.int 1)) σ') (hq0 : nmF (tk tp i) lo hi ≠ 0 → ∀ σ', Fr S39 noL σ σ' → q_I σ' 3 9 = nI (flt tp (nmF (tk tp i) lo hi) i) → Q (some (.int 0)) σ') : q_Call G d 0 0 X_Tk_takeNumber [.ref 3, .int (nI lo), .int (nI hi)] σ Q := by
  obtain ⟨d, rfl⟩ : ∃ d', d = d' + 1 := ⟨d - 1, by omega⟩
  refine q_cii (Pp := fun v σ' => (nmF (tk tp i) lo hi = 0 ∧ v = 1 ∧ Fk SKb SKl σ σ' ∧ CK σ' tp (i + 1) ∧ q_I σ' 3 8 = nI (tk tp i).2.2.1) ∨ (nmF (tk tp i) lo hi ≠ 0 ∧ v = 0 ∧ Fr S39 noL σ σ' ∧ q_I σ' 3 9 = nI (flt tp (nmF (tk tp i) lo hi) i))) (by decide +kernel) (Nat.le_of_ble_eq_true rfl) (fun Q hv => ?_) (fun v σ' h => by
    rcases h with ⟨a, b, c, e, f⟩ | ⟨a, b, c, e⟩
    · rw [b]; exact hq1 a σ' c e f
    · rw [b]; exact hq0 a σ' c e)
  have bad : ∀ k, nmF (tk tp i) lo hi = k → k ≠ 0 → q_Call G d 0 0 X_Tk_refuse [.ref 3, .int (nI k)] σ (q_ri (fun x8 σ6 => (narrow .boolean (.int x8) = .int x8 ∧ Q (some (.int x8)) σ6))) := fun k e h0 => Tk_refuse_ok hs hK (fun σ' f g => ⟨f.sh hs, _, rfl, rfl, hv _ _ (Or.inr ⟨by omega, rfl, f, by rw [e]; exact g⟩)⟩)
  refine v_Tk_takeNumber_0 hs ⟨fun c => ?_, fun c => ?_⟩
  · rw [show (2 : Int32) = nI 2 from rfl, hK.s1 (by decide)] at c
    have hv4 := tkA_n c
    have hv4 : (tk tp i).2.2.1 < 10000 := hv4
    have e6 : q_I σ 3 6 = nI (tk tp i).2.2.1 := hK.2.2.2.2.2.1 c
    rw [e6]
    refine ⟨fun c2 => ?_, fun c2 => ⟨fun c3 => ?_, fun c3 => ?_⟩⟩
    · rw [nI_ltI (by omega) hlo] at c2
      exact bad 4 (by unfold nmF; rw [if_pos c, if_pos c2]) (by decide)
    · rw [nI_ltI (by omega) hlo] at c2
      rw [nI_leI (by omega) hhi] at c3
      have f1 : Fr (fun a j => a = 3 ∧ j = 8) noL σ (q_setI σ 3 8 (nI (tk tp i).2.2.1)) := Fr.setI ⟨rfl, rfl⟩
      refine Tk_next (by omega) (f1.sh hs) hw (hK.k f1 (fun a j z => by omega) (fun _ _ z => z.elim)) (fun σ' f g => ⟨f.sh (f1.sh hs), rfl, hv _ _ (Or.inl ⟨?_, rfl, ?_, g, ?_⟩)⟩)
      · unfold nmF; rw [if_pos c, if_neg c2, if_neg (by omega)]
      · exact (f1.k.mono (fun a j z => by unfold SKb; omega) (fun _ _ z => z.elim)).tr (f.mono (fun a j z => by unfold SKa at z; unfold SKb; omega) (fun _ _ z => z))
      · rw [f.2.2.1 _ _ (fun z => absurd z.2 (by decide)), q_I_eq]
    · rw [nI_ltI (by omega) hlo] at c2
      rw [nI_leI (by omega) hhi] at c3
      exact bad 4 (by unfold nmF; rw [if_pos c, if_neg c2, if_pos (by omega)]) (by decide)
  · rw [show (2 : Int32) = nI 2 from rfl, hK.s1 (by decide)] at c
    exact bad 1 (by unfold nmF; rw [if_neg c]) (by decide)
theorem Tk_kind_ok (hd : 1 ≤ d) (hs : q_Sh σ) (hK : CK σ tp i) (hq : Q (some (.int (kdT (tk tp i)))) σ) : q_Call G d 0 0 X_Tk_kindHere [.ref 3] σ Q := by
  obtain ⟨d, rfl⟩ : ∃ d', d = d' + 1 := ⟨d - 1, by omega⟩
  refine q_ci (by decide +kernel) (Nat.le_of_ble_eq_true rfl) (fun Q hq => ?_) hq
  refine v_Tk_kindHere_0 hs ⟨fun c => ?_, fun c => ?_⟩
  · rw [show (1 : Int32) = nI 1 from rfl, hK.s1 (by decide)] at c
    have v34 := tk_v33 c
    obtain ⟨s0, s1, s2, s3, s4⟩ := sm_kd _ v34
    have e : ∀ n, (tk tp i).2.2.1 = 18 + n → n ≤ 3 → kdT (tk tp i) = nI n := fun n h h3 => by unfold kdT; rw [if_pos ⟨c, by omega, by omega⟩, h]; congr 1; omega
    refine ⟨(tk tp i).2.2.1, (hK.2.2.2.2.1 c).2, v34, (tk tp i).2.2.1, rfl, v34, fun z => ?_, fun z => ?_, fun z => ?_, fun z => ?_, fun z => ?_⟩
    · unfold kdT at hq
      rw [if_neg (fun y => s0 z y.2)] at hq
      exact hq
    · rw [e 0 (s1 z) (by decide)] at hq; exact hq
    · rw [e 1 (s2 z) (by decide)] at hq; exact hq
    · rw [e 2 (s3 z) (by decide)] at hq; exact hq
    · rw [e 3 (s4 z) (by decide)] at hq; exact hq
  · rw [show (1 : Int32) = nI 1 from rfl, hK.s1 (by decide)] at c
    unfold kdT at hq
    rw [if_neg (fun y => c y.1)] at hq
    exact hq
theorem Rd_act_ok (hd : 1 ≤ d) (hs : q_Sh σ) (hK : CK σ tp i) (hq : Q (some (.int (acT (tk tp i)))) σ) : q_Call G d 0 0 X_Rd_actHere [.ref 4] σ Q := by
  obtain ⟨d, rfl⟩ : ∃ d', d = d' + 1 := ⟨d - 1, by omega⟩
  refine q_ci (by decide +kernel) (Nat.le_of_ble_eq_true rfl) (fun Q hq => ?_) hq
  refine v_Rd_actHere_0 hs ⟨fun c => ?_, fun c => ?_⟩
  · rw [show (1 : Int32) = nI 1 from rfl, hK.s1 (by decide)] at c
    have v34 := tk_v33 c
    obtain ⟨s0, s1, s2, s3, s4⟩ := sm_ac _ v34
    have e : ∀ n, (tk tp i).2.2.1 = 14 + n → n ≤ 3 → acT (tk tp i) = nI n := fun n h h3 => by unfold acT; rw [if_pos ⟨c, by omega, by omega⟩, h]; congr 1; omega
    refine ⟨(tk tp i).2.2.1, (hK.2.2.2.2.1 c).2, v34, (tk tp i).2.2.1, rfl, v34, fun z => ?_, fun z => ?_, fun z => ?_, fun z => ?_, fun z => ?_⟩
    · unfold acT at hq
      rw [if_neg (fun y => s0 z y.2)] at hq
      exact hq
    · rw [e 0 (s1 z) (by decide)] at hq; exact hq
    · rw [e 1 (s2 z) (by decide)] at hq; exact hq
    · rw [e 2 (s3 z) (by decide)] at hq; exact hq
    · rw [e 3 (s4 z) (by decide)] at hq; exact hq
  · rw [show (1 : Int32) = nI 1 from rfl, hK.s1 (by decide)] at c
    unfold acT at hq
    rw [if_neg (fun y => c y.1)] at hq
    exact hq
end CTOK2
