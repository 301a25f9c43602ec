-- while cells are made: how many, that all numbers are 0 (but the words' row 164), the references told so far
def Bn (n : Nat) (fs : List (Nat × Nat × Nat)) (ws : List Int64) (σ : q_S) : Prop := q_n σ = n ∧ (∀ a i, a < n → q_I σ a i = 0) ∧ (∀ a i, a < n → q_L σ a i = if a = 164 then ws.getD i 0 else 0) ∧ ∀ x ∈ fs, x.1 < n ∧ q_R σ x.1 x.2.1 = some x.2.2
section BN
variable {G : q_G} {X Y : q_M} {d b sb b1 sb1 pc nx idx n ci a j v N : Nat} {ls ls' : List (Option Value)} {st As : List Value} {σ : q_S} {Q : Option Value → q_S → Prop} {fs : List (Nat × Nat × Nat)} {ws : List Int64}
theorem Bn.new (h : Bn n fs ws σ) (hw : n ≠ 164 ∨ ws = []) : Bn (n + 1) fs ws (q_new σ) := by
  obtain ⟨h1, h2, h3, h4⟩ := h
  refine ⟨by rw [q_new_n, h1], fun a i ha => ?_, fun a i ha => ?_, fun x hx => ⟨Nat.lt_succ_of_lt (h4 x hx).1, ?_⟩⟩
  · rw [q_new_I, h1]
    split
    · rfl
    · exact h2 a i (by omega)
  · rw [q_new_L, h1]
    split
    · rename_i e
      subst e
      rcases hw with hw | hw
      · rw [if_neg hw]
      · subst hw
        split <;> simp
    · exact h3 a i (by omega)
  · rw [q_new_R, h1, if_neg (Nat.ne_of_lt (h4 x hx).1)]
    exact (h4 x hx).2
theorem Bn.set (h : Bn n fs ws σ) (ha : a < n) (hd : ∀ x ∈ fs, x.1 ≠ a ∨ x.2.1 ≠ j) : Bn n ((a, j, v) :: fs) ws (q_setR σ a j (some v)) := by
  obtain ⟨h1, h2, h3, h4⟩ := h
  refine ⟨h1, h2, h3, fun x hx => ?_⟩
  rcases List.mem_cons.mp hx with rfl | hx
  · exact ⟨ha, by rw [q_setR_R, if_pos ⟨rfl, rfl⟩]⟩
  · refine ⟨(h4 x hx).1, ?_⟩
    rw [q_setR_R, if_neg (fun e => by rcases hd x hx with g | g; exact g e.1; exact g e.2)]
    exact (h4 x hx).2
theorem Bn.word (h : Bn n fs ws σ) {w : Int64} : Bn n fs (ws ++ [w]) (q_setL σ 164 ws.length w) := by
  obtain ⟨h1, h2, h3, h4⟩ := h
  refine ⟨h1, h2, fun a i ha => ?_, h4⟩
  have e : q_L (q_setL σ 164 ws.length w) a i = if a = 164 ∧ i = ws.length then w else q_L σ a i := rfl
  rw [e]
  by_cases g : a = 164
  · subst g
    simp only [true_and, if_true]
    by_cases gi : i = ws.length
    · subst gi
      simp
    · rw [if_neg gi, h3 _ _ ha, if_pos rfl]
      simp only [List.getD_eq_getElem?_getD, List.getElem?_append]
      by_cases gl : i < ws.length
      · rw [if_pos gl]
      · rw [if_neg gl, List.getElem?_eq_none (by omega), List.getElem?_eq_none (by simp; omega)]
  · rw [if_neg (fun e => g e.1), h3 _ _ ha, if_neg g, if_neg g]
theorem n_newO (hB : Bn n fs ws σ) (hd : q_D X pc (.new idx) 3 nx) (hC : q_CN (m_y X).cls idx ci N) (hk : q_kd n = (0, ci)) (hw : n ≠ 164 ∨ ws = []) (k : ∀ σ', Bn (n + 1) fs ws σ' → q_At G X d b sb nx ls (.ref n :: st) σ' Q) : q_At G X d (1 + b) (N + sb) pc ls st σ Q := by
  have e := hB.1
  subst e
  exact q_newO hd hC hk (k _ (hB.new hw))
theorem n_newI {x : Int32} (hB : Bn n fs ws σ) (hd : q_D X pc (.newarray .int) 2 nx) (hk : q_kd n = (1, N)) (hx : x = nI N) (hN : N ≤ 100000) (hw : n ≠ 164 ∨ ws = []) (k : ∀ σ', Bn (n + 1) fs ws σ' → q_At G X d b sb nx ls (.ref n :: st) σ' Q) : q_At G X d (1 + b) (N + sb) pc ls (.int x :: st) σ Q := by
  have e := hB.1
  subst e
  exact q_newI hd hk hx hN (k _ (hB.new hw))
theorem n_newL {x : Int32} (hB : Bn n fs ws σ) (hd : q_D X pc (.newarray .long) 2 nx) (hk : q_kd n = (2, N)) (hx : x = nI N) (hN : N ≤ 100000) (hw : n ≠ 164 ∨ ws = []) (k : ∀ σ', Bn (n + 1) fs ws σ' → q_At G X d b sb nx ls (.ref n :: st) σ' Q) : q_At G X d (1 + b) (N + sb) pc ls (.int x :: st) σ Q := by
  have e := hB.1
  subst e
  exact q_newL hd hk hx hN (k _ (hB.new hw))
theorem n_newB {x : Int32} (hB : Bn n fs ws σ) (hd : q_D X pc (.newarray .boolean) 2 nx) (hk : q_kd n = (3, N)) (hx : x = nI N) (hN : N ≤ 100000) (hw : n ≠ 164 ∨ ws = []) (k : ∀ σ', Bn (n + 1) fs ws σ' → q_At G X d b sb nx ls (.ref n :: st) σ' Q) : q_At G X d (1 + b) (N + sb) pc ls (.int x :: st) σ Q := by
  have e := hB.1
  subst e
  exact q_newB hd hk hx hN (k _ (hB.new hw))
theorem n_newC {x : Int32} (hB : Bn n fs ws σ) (hd : q_D X pc (.newarray .char) 2 nx) (hk : q_kd n = (4, N)) (hx : x = nI N) (hN : N ≤ 100000) (hw : n ≠ 164 ∨ ws = []) (k : ∀ σ', Bn (n + 1) fs ws σ' → q_At G X d b sb nx ls (.ref n :: st) σ' Q) : q_At G X d (1 + b) (N + sb) pc ls (.int x :: st) σ Q := by
  have e := hB.1
  subst e
  exact q_newC hd hk hx hN (k _ (hB.new hw))
theorem n_newLi {x : Int32} (hB : Bn n fs ws σ) (hd : q_D X pc (.anewarray idx) 3 nx) (hl : Cond.classLink (m_y X).cls idx "WallLottery$Life" ∈ q_GT) (hk : q_kd n = (5, N)) (hx : x = nI N) (hN : N ≤ 100000) (hw : n ≠ 164 ∨ ws = []) (k : ∀ σ', Bn (n + 1) fs ws σ' → q_At G X d b sb nx ls (.ref n :: st) σ' Q) : q_At G X d (1 + b) (N + sb) pc ls (.int x :: st) σ Q := by
  have e := hB.1
  subst e
  exact q_newLi hd hl hk hx hN (k _ (hB.new hw))
theorem n_newTl {x : Int32} (hB : Bn n fs ws σ) (hd : q_D X pc (.anewarray idx) 3 nx) (hl : Cond.classLink (m_y X).cls idx "WallLottery$Tales" ∈ q_GT) (hk : q_kd n = (6, N)) (hx : x = nI N) (hN : N ≤ 100000) (hw : n ≠ 164 ∨ ws = []) (k : ∀ σ', Bn (n + 1) fs ws σ' → q_At G X d b sb nx ls (.ref n :: st) σ' Q) : q_At G X d (1 + b) (N + sb) pc ls (.int x :: st) σ Q := by
  have e := hB.1
  subst e
  exact q_newTl hd hl hk hx hN (k _ (hB.new hw))
theorem n_putR {ft : FieldType} {fin : Bool} (hB : Bn n fs ws σ) (hd : q_D X pc (.putfield idx) 3 nx) (hf : q_FP (m_y X).cls idx ci j 2 ft fin) (hfn : fin = true → (m_y X).name = "<init>") (hk : q_kd a = (0, ci)) (ha : a < n) (hn : ∀ q, narrow ft (.ref q) = .ref q) (hfit : ∀ q, fits ft (.ref q) = true) (hdj : ∀ x ∈ fs, x.1 ≠ a ∨ x.2.1 ≠ j) (k : ∀ σ', Bn n ((a, j, v) :: fs) ws σ' → q_At G X d b sb nx ls st σ' Q) : q_At G X d b sb pc ls (.ref v :: .ref a :: st) σ Q :=
  q_putR hd hf hfn hk (by rw [hB.1]; exact ha) hn hfit (k _ (hB.set ha hdj))
theorem n_getR (hB : Bn n fs ws σ) (hd : q_D X pc (.getfield idx) 3 nx) (hf : q_F (m_y X).cls idx ci j 2) (hk : q_kd a = (0, ci)) (ha : a < n) (hv : (a, j, v) ∈ fs) (k : q_At G X d b sb nx ls (.ref v :: st) σ Q) : q_At G X d b sb pc ls (.ref a :: st) σ Q := q_getR hd hf hk (by rw [hB.1]; exact ha) (hB.2.2.2 _ hv).2 k
theorem n_last {x : Int32} {w : Int64} {i : Nat} (hB : Bn n fs ws σ) (hd : q_D X pc .lastore 1 nx) (hn : 164 < n) (hx : x = nI i) (hi : i = ws.length) (h33 : i < 33) (k : ∀ σ', Bn n fs (ws ++ [w]) σ' → q_At G X d b sb nx ls st σ' Q) : q_At G X d b sb pc ls (.long w :: .int x :: .ref 164 :: st) σ Q := by
  subst hi
  exact q_last (n := 33) hd (by decide +kernel) (by rw [hB.1]; exact hn) hx h33 (by decide) (k _ hB.word)
theorem n_aast5 {i : Nat} {x : Int32} (hB : Bn n fs ws σ) (hd : q_D X pc .aastore 1 nx) (hk : q_kd a = (5, N)) (ha : a < n) (hkv : q_kd v = (0, 3)) (hv : v < n) (hx : x = nI i) (hi : i < N) (hN : N < 2 ^ 31) (hdj : ∀ x ∈ fs, x.1 ≠ a ∨ x.2.1 ≠ i) (k : ∀ σ', Bn n ((a, i, v) :: fs) ws σ' → q_At G X d b sb nx ls st σ' Q) : q_At G X d b sb pc ls (.ref v :: .int x :: .ref a :: st) σ Q :=
  q_aast (i0 := 4) hd (by decide) hk (fun σ' => q_ent_5 hk) rfl (by rw [hB.1]; exact ha) hkv (by rw [hB.1]; exact hv) rfl hx hi hN (k _ (hB.set ha hdj))
theorem n_aast6 {i : Nat} {x : Int32} (hB : Bn n fs ws σ) (hd : q_D X pc .aastore 1 nx) (hk : q_kd a = (6, N)) (ha : a < n) (hkv : q_kd v = (0, 5)) (hv : v < n) (hx : x = nI i) (hi : i < N) (hN : N < 2 ^ 31) (hdj : ∀ x ∈ fs, x.1 ≠ a ∨ x.2.1 ≠ i) (k : ∀ σ', Bn n ((a, i, v) :: fs) ws σ' → q_At G X d b sb nx ls st σ' Q) : q_At G X d b sb pc ls (.ref v :: .int x :: .ref a :: st) σ Q :=
  q_aast (i0 := 5) hd (by decide) hk (fun σ' => q_ent_6 hk) rfl (by rw [hB.1]; exact ha) hkv (by rw [hB.1]; exact hv) rfl hx hi hN (k _ (hB.set ha hdj))
theorem n_callI {n' : Nat} {fs' : List (Nat × Nat × Nat)} (hB : Bn n fs ws σ) (hd : q_D X pc (.invokespecial idx) 3 nx) (hC : q_CI (m_y X).cls idx Y N) (hn : As.length = N) (hst : q_cats st ≤ 8) (h : q_Call G d b1 sb1 Y (.ref a :: As) σ (fun r σ' => r = none ∧ Bn n' fs' ws σ')) (hc : n + b1 = n') (k : ∀ σ', Bn n' fs' ws σ' → q_At G X (d + 1) b sb nx ls st σ' Q) : q_At G X (d + 1) (b1 + b) (sb1 + sb) pc ls (As.reverse ++ .ref a :: st) σ Q :=
  q_callI hd hC hn hst h (fun r σ' hr => by
    obtain ⟨rfl, h2⟩ := hr
    exact ⟨fun i e => (by cases e), fun _ => (by rw [hB.1, h2.1]; omega), k σ' h2⟩)
theorem n_inc {m : Int} {x v : Int32} (hd : q_D X pc (.iinc j m) 3 nx) (hi : ls[j]? = some (some (.int x))) (hv : x + Int32.ofInt m = v) (hn : j < m_m X) (hl : q_st1 ls j (.int v) = ls') (k : q_At G X d b sb nx ls' st σ Q) : q_At G X d b sb pc ls st σ Q := q_iinc hd hi hv hn (hl ▸ k)
theorem n_istn {j : Fin 4} {v : Int32} (hd : q_D X pc (.istore_n j) 1 nx) (hn : (j : Nat) < m_m X) (hl : q_st1 ls j (.int v) = ls') (k : q_At G X d b sb nx ls' st σ Q) : q_At G X d b sb pc ls (.int v :: st) σ Q := q_istore_n hd hn (hl ▸ k)
theorem n_end {h : Prop} {n' : Nat} {fs' : List (Nat × Nat × Nat)} (hB : Bn n' fs' ws σ) : (∀ i, (none : Option Value) ≠ some (.retAddr i)) ∧ ((none : Option Value) = none ∧ Bn n' fs' ws σ) := ⟨fun i e => (by cases e), rfl, hB⟩
end BN
