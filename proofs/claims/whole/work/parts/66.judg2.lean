section JUDGM
variable {G : q_G} {d : Nat} {σ σ' : q_S} {Q : Option Value → q_S → Prop} {t p k : Nat} {D : Nat → Nat} {P : Nat → List Int32} {N : q_nm} {hm w : Nat → Nat} {L L' : Nat → Int32} {un un' : List q_lf} {mk mk' : Nat → Option (q_lf × q_tl)} {tl tl' : q_tl} {dy : q_dy} {tp : List Nat} {x y z c u v : Int32} {f e : Nat} {s : q_lf} {X : Nat × Nat × Nat × Nat}
theorem mtS_H (hf : Fr mtS L159 σ σ') : Fr hi_ hi_ σ σ' := hf.hi (fun a i z => by unfold mtS at z; omega) (fun a i z => by unfold L159 at z; omega)
theorem m1_neg (x : Int32) (h : x = -1 ∨ 0 ≤ x) : (0 ≤ x) ↔ ¬ x = -1 := by
  rcases h with h | h
  · subst h; exact ⟨fun z => absurd z (by decide), fun z => absurd rfl z⟩
  · exact ⟨fun _ z => by subst z; exact absurd h (by decide), fun _ => h⟩
theorem M_judged_ok (hs : q_Sh σ) (hw : WJ D P N hm L un mk tl dy tp) (hJ : MJ σ D P N L un mk tl dy tp) (hq : ∀ σ', Fr hi_ hi_ σ σ' → MJ σ' D P N L un mk tl dy tp → Q (some (.int (a_judged D dy x))) σ') : q_Call G (d + 4) 0 0 X_M_judged [.ref 159, .int x] σ Q := by
  have hy := hw.2.2.2.2.2.2.2.2.1
  have hl := hy.1
  refine q_cii (Pp := fun v σ' => v = a_judged D dy x ∧ Fr hi_ hi_ σ σ' ∧ MJ σ' D P N L un mk tl dy tp) (by decide +kernel) (Nat.le_of_ble_eq_true rfl) (fun Q hv => ?_) (fun v σ' h => by rw [h.1]; exact hq σ' h.2.1 h.2.2)
  have hs1 : q_Sh (Th σ) := Th_fr.sh hs
  have hJ1 : MJ (Th σ) D P N L un mk tl dy tp := hJ.th hw
  refine v_M_judged_0 hs (M_within_ok hs1 ⟨hs1, _, rfl, fun c => ?_, fun c => hv _ _ ⟨by rw [a_judged, if_pos c], Th_fr, hJ1⟩⟩)
  have hv' : ∀ v σ2, Fr mtS L159 (Th σ) σ2 → v = (if x = 0 then (jdS D dy dy.length).2.1 else if x = 1 then (jdS D dy dy.length).2.2 else (jdS D dy dy.length).1.2 49) → Q (some (.int v)) σ2 := fun v σ2 f2 e => hv _ _ ⟨by rw [a_judged, if_neg c]; exact e, Th_fr.tr (mtS_H f2), hJ1.mts hw f2⟩
  refine M_starts_ok (b := 1722) (d := d + 2) hs1 hw.1 hJ1.1.1 (by decide) (fun σ1 f1 g1 => ⟨f1.sh hs1, rfl, ?_⟩)
  have f1' : Fr mtS L159 (Th σ) σ1 := f1.mono (fun a i z => by unfold SMb at z; unfold mtS; omega) (fun _ _ z => z.elim)
  refine up_ind (R := fun k => ∀ σ1, Fr mtS L159 (Th σ) σ1 → ML σ1 1722 (jdS D dy k).1.2 → q_At G X_M_judged (d + 4) 0 0 31 [some (.ref 159), some (.int x), some (.int (jdS D dy k).2.1), some (.int (jdS D dy k).2.2), some (.int (nI k)), none] [] σ1 Q) (n := dy.length) (fun σ1 fr g1 => ?_) (fun k hk ih σ1 fr g1 => ?_) 0 (Nat.zero_le _) σ1 f1' g1
  · have hJ2 := hJ1.mts hw fr
    have e49 : q_I σ1 175 1771 = (jdS D dy dy.length).1.2 49 := g1 49 (by decide)
    refine v_M_judged_31 (fr.sh hs1) ⟨fun _ => ⟨fun n0 => ⟨fun n1 => ?_, fun n1 => ?_⟩, fun n0 => ?_⟩, fun c => absurd (by rw [hJ2.2.2.2.2.2.2.1.1]; exact Int32.le_refl _) c⟩
    · exact hv' _ _ fr (by rw [if_neg n0, if_neg n1]; exact e49)
    · exact hv' _ _ fr (by rw [if_neg n0, if_pos n1])
    · exact hv' _ _ fr (by rw [if_pos n0])
  · have hJ2 := hJ1.mts hw fr
    have hs2 := fr.sh hs1
    obtain ⟨X, hX⟩ : ∃ X, dy[k]? = some X := ⟨dy[k], List.getElem?_eq_getElem hk⟩
    have okx := hy.2 X (List.mem_of_getElem? hX)
    rw [jdS_s hX] at ih
    have j1 := jdS_1 (D := D) (dy := dy) k (by omega)
    refine v_M_judged_31 hs2 ⟨fun c => by rw [hJ2.2.2.2.2.2.2.1.1] at c; exact ge_not c hk (by omega), fun _ => ?_⟩
    rw [show (1 : Int32) + 4 * nI k = nI (1 + 4 * k) by rw [q_lit 1, q_lit 4, pk_mul, nI_add]]
    refine M_does_ok (d := d) hs2 hw.1 hJ2.1.1 hy hJ2.2.2.2.2.2.2.1 hX g1 (jdS_W hw.1 hy k) (fun σ3 f3 g3 => ⟨f3.sh hs2, _, rfl, ?_⟩)
    have f4 := fr.tr (SMd_mtr f3)
    have hJ3 := hJ1.mts hw f4
    have hs3 := f4.sh hs1
    have W3 := WL_do hw.1 (jdS_W hw.1 hy k) okx
    have ih3 := ih σ3 f4 g3
    have l2 : (if (if (doL D (jdS D dy k).1 X).1 then (1 : Int32) else 0) = 0 then (if 0 ≤ (jdS D dy k).2.1 then (jdS D dy k).2.1 else nI k) else (jdS D dy k).2.1) = (if (doL D (jdS D dy k).1 X).1 then (jdS D dy k).2.1 else if (jdS D dy k).2.1 = -1 then nI k else (jdS D dy k).2.1) := by
      by_cases q1 : (doL D (jdS D dy k).1 X).1 = true
      · rw [if_pos q1, if_pos q1, if_neg (by decide)]
      · rw [if_neg q1, if_neg q1, if_pos rfl]
        by_cases q2 : (jdS D dy k).2.1 = -1
        · rw [if_neg (fun z => (m1_neg _ j1.1).mp z q2), if_pos q2]
        · rw [if_pos ((m1_neg _ j1.1).mpr q2), if_neg q2]
    dsimp only
    rw [l2, nI_1]
    refine ⟨fun c => ?_, fun c => ?_⟩
    · rw [if_neg ((m1_neg _ j1.2).mp c)] at ih3
      exact ih3
    · have c2 : (jdS D dy k).2.2 = -1 := Classical.byContradiction (fun z => c ((m1_neg _ j1.2).mpr z))
      rw [if_pos c2] at ih3
      refine M_broken_ok (b := 1722) (d := d + 2) hs3 hw.1 hJ3.1.1 (g3.HB hw.1 W3.1) (by decide) ⟨hs3, _, rfl, ?_⟩
      rw [c2]
      exact ih3
end JUDGM
