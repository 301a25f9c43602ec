-- the words of the proof: a town is a row D of numbers (as the reference keeps it: 0 houses, 1 families, 2 walls, 3 aparts, 4 besides, 8.. walls, 44.. families, 68.. likes, hates, debts, 176.. customs) and three laws P
theorem q_lit (n : Nat) : (OfNat.ofNat n : Int32) = nI n := rfl
theorem q_mul6 (a b : Nat) : nI a * 6 + nI b = nI (a * 6 + b) := by rw [q_lit, pk_mul, nI_add]
-- laws as steps on a stack
def jn (s l r : Int32) : Int32 :=
  if s = -5 then (if l = 0 then 0 else if r = 0 then 0 else 1)
  else if s = -6 then (if l = 0 then (if r = 0 then 0 else 1) else 1)
  else if s = -7 then (if l < r then 1 else 0)
  else if s = -8 then (if l = r then 1 else 0)
  else if s = -9 then l + r
  else if s = -10 then l - r
  else l * r
def pv1 (s a b c : Int32) (st : List Int32) : List Int32 :=
  if 0 ≤ s then s :: st
  else if -3 ≤ s then (if s = -1 then a else if s = -2 then b else c) :: st
  else if s = -4 then (match st with | x :: r => (if x = 0 then 1 else 0) :: r | [] => [])
  else (match st with | y :: x :: r => jn s x y :: r | r => r)
def pvl (p : List Int32) (a b c : Int32) (st : List Int32) : List Int32 := p.foldl (fun st s => pv1 s a b c st) st
def vl (P : Nat → List Int32) (w : Nat) (a b c : Int32) : Int32 := (pvl (P w) a b c []).headD 0
-- how high the stack stands; none: too low or too high
def hg1 (s : Int32) (h : Nat) : Option Nat :=
  if 0 ≤ s then (if h < 32 then some (h + 1) else none)
  else if -3 ≤ s then (if h < 32 then some (h + 1) else none)
  else if s = -4 then (if 0 < h then some h else none)
  else (if 1 < h then some (h - 1) else none)
def hgl : List Int32 → Nat → Option Nat
  | [], h => some h
  | s :: p, h => match hg1 s h with
    | some h' => hgl p h'
    | none => none
def clmp (lo hi v : Int32) : Int32 := if v < lo then lo else if hi < v then hi else v
-- what is so in a town when the families live by hm
def thk (D hm : Nat → Nat) (f e : Nat) : Nat := D (8 + (hm f * 6 + hm e))
def loud (D : Nat → Nat) (f : Nat) : Int32 := if D (44 + 4 * f) = 1 then nI (2 * D (45 + 4 * f)) else nI (D (45 + 4 * f))
def hear (D : Nat → Nat) (f : Nat) : Int32 := if D (44 + 4 * f) = 2 then 0 else nI (D (46 + 4 * f))
def fond (D : Nat → Nat) (f e : Nat) : Int32 := nI (D (68 + (f * 6 + e))) - nI (D (104 + (f * 6 + e)))
def nz (D : Nat → Nat) (P : Nat → List Int32) (f e k : Nat) : Int32 := clmp 0 99 (vl P 0 (loud D e) (hear D f) (nI k))
def felt (D hm : Nat → Nat) (P : Nat → List Int32) (f : Nat) : Int32 := bx_sum (fun e => if thk D hm f e = 0 then 0 else nz D P f e (thk D hm f e)) (D 1)
def jfond (D hm : Nat → Nat) (f : Nat) (n : Nat) : Int32 := bx_sum (fun e => if thk D hm f e = 0 then 0 else fond D f e) n
def jnear (D hm : Nat → Nat) (f : Nat) (n : Nat) : Int32 := bx_sum (fun e => if thk D hm f e = 0 then 0 else 1) n
def joyv (D hm : Nat → Nat) (P : Nat → List Int32) (f : Nat) : Int32 := clmp (-999) 999 (vl P 1 (jfond D hm f (D 1)) (felt D hm P f) (jnear D hm f (D 1)))
def bx_or (f : Nat → Int32) : Nat → Int32
  | 0 => 0
  | n + 1 => bx_or f n ||| f n
def bx_orL (f : Nat → Int64) : Nat → Int64
  | 0 => 0
  | n + 1 => bx_orL f n ||| f n
def nbits (D hm : Nat → Nat) (f : Nat) : Int32 := bx_or (fun e => if thk D hm f e = 0 then 0 else (1 : Int32) <<< (nI e &&& 31)) (D 1)
def cont (D hm : Nat → Nat) (P : Nat → List Int32) : Int32 := bx_or (fun f => if 0 ≤ joyv D hm P f then (1 : Int32) <<< (nI f &&& 31) else 0) (D 1)
-- a pair of families as a bit
def pbit (f e : Nat) : Int64 := (1 : Int64) <<< ((nI ((if e < f then e else f) * 6 + (if f < e then e else f))).toInt64 &&& 63)
def prow (D hm : Nat → Nat) (f : Nat) (lo : Nat) : Nat → Int64
  | 0 => 0
  | n + 1 => prow D hm f lo n ||| (if lo ≤ n then (if thk D hm f n = 0 then 0 else pbit f n) else 0)
def prs (D hm : Nat → Nat) : Int64 := bx_orL (fun f => prow D hm f (f + 1) (D 1)) (D 1)
def bx_orI (x : Int32) (f : Nat → Int32) : Nat → Int32
  | 0 => x
  | n + 1 => bx_orI x f n ||| f n
def brk (D hm : Nat → Nat) : Int32 := bx_orI (bx_or (fun k => if thk D hm (D (176 + 2 * k)) (D (177 + 2 * k)) = 0 then 0 else (1 : Int32) <<< (nI k &&& 31)) (D 3)) (fun k => if thk D hm (D (184 + 2 * k)) (D (185 + 2 * k)) = 0 then (1 : Int32) <<< (nI (4 + k) &&& 31) else 0) (D 4)
def hedg (D : Nat → Nat) (P : Nat → List Int32) (f e : Nat) (mine his : Int32) : Int32 := clmp (-99) 99 (vl P 2 mine his (fond D f e))
-- what a town told keeps
def WfD (D : Nat → Nat) : Prop := D 1 ≤ D 0 ∧ D 0 ≤ 6 ∧ D 3 ≤ 4 ∧ D 4 ≤ 4 ∧ (∀ a, a < 6 → D (8 + (a * 6 + a)) = 0) ∧ (∀ a b, a < 6 → b < 6 → D (8 + (a * 6 + b)) = D (8 + (b * 6 + a))) ∧ (∀ i, i < 36 → D (8 + i) ≤ 9) ∧ (∀ f, f < 6 → D (44 + 4 * f) ≤ 3 ∧ D (45 + 4 * f) ≤ 9 ∧ D (46 + 4 * f) ≤ 9 ∧ D (47 + 4 * f) ≤ 999) ∧ (∀ i, i < 36 → D (68 + i) ≤ 9 ∧ D (104 + i) ≤ 9 ∧ D (140 + i) ≤ 99) ∧
  (∀ k, k < D 3 → D (176 + 2 * k) < D 1 ∧ D (177 + 2 * k) < D 1 ∧ D (176 + 2 * k) ≠ D (177 + 2 * k)) ∧ (∀ k, k < D 4 → D (184 + 2 * k) < D 1 ∧ D (185 + 2 * k) < D 1 ∧ D (184 + 2 * k) ≠ D (185 + 2 * k))
def WfP (P : Nat → List Int32) : Prop := ∀ w, w < 3 → hgl (P w) 0 = some 1
-- the class's town at the cell t; what it is before 'listen' (heard is wanting)
def CT0 (σ : q_S) (t : Nat) (D : Nat → Nat) (P : Nat → List Int32) : Prop :=
  (q_I σ t 13 = nI (D 0) ∧ q_I σ t 14 = nI (D 1) ∧ q_I σ t 15 = nI (D 2) ∧ q_I σ t 16 = nI (D 3) ∧ q_I σ t 17 = nI (D 4)) ∧ (∀ i, i < 36 → q_I σ (t + 7) i = nI (D (8 + i))) ∧ (∀ f, f < D 1 → q_I σ (t + 3) f = nI (D (44 + 4 * f)) ∧ q_I σ (t + 4) f = nI (D (45 + 4 * f)) ∧ q_I σ (t + 5) f = nI (D (46 + 4 * f)) ∧ q_I σ (t + 6) f = nI (D (47 + 4 * f))) ∧
  (∀ i, i < 36 → q_I σ (t + 8) i = nI (D (68 + i)) ∧ q_I σ (t + 9) i = nI (D (104 + i)) ∧ q_I σ (t + 10) i = nI (D (140 + i))) ∧ (∀ k, k < D 3 → q_L σ (t + 11) k = pbit (D (176 + 2 * k)) (D (177 + 2 * k))) ∧ (∀ k, k < D 4 → q_L σ (t + 11) (4 + k) = pbit (D (184 + 2 * k)) (D (185 + 2 * k))) ∧
  (∀ w, w < 3 → 0 < D 1 → ∃ lo hi : Nat, q_I σ (t + 15) w = nI lo ∧ q_I σ (t + 16) w = nI hi ∧ lo ≤ hi ∧ hi ≤ 1024 ∧ hi - lo = (P w).length ∧ ∀ i, i < hi - lo → q_I σ (t + 14) (lo + i) = (P w).getD i 0)
def CT (σ : q_S) (t : Nat) (D : Nat → Nat) (P : Nat → List Int32) : Prop := CT0 σ t D P ∧ ∀ f e k, f < D 1 → e < D 1 → 1 ≤ k → k ≤ 9 → q_I σ (t + 12) ((f * 6 + e) * 10 + k) = nz D P f e k
-- a row of homes
def HM (σ : q_S) (h : Nat) (D hm : Nat → Nat) : Prop := ∀ f, f < D 1 → q_I σ h f = nI (hm f) ∧ hm f < D 0
/-- a contract that answers a long, changes nothing -/
theorem q_cl64 {G : q_G} {d : Nat} {Y : q_M} {vs : List Value} {σ : q_S} {v : Int64} (hp : plainName (m_y Y).cls = true) (hn : (q_vin vs).length ≤ m_m Y) (h : ∀ Q : Option Value → q_S → Prop, Q (some (.long v)) σ → q_At G Y d 0 0 0 (q_init vs (m_m Y)) [] σ Q) {Q : Option Value → q_S → Prop} (hq : Q (some (.long v)) σ) : q_Call G d 0 0 Y vs σ Q := q_enter hp hn (h _ ⟨q_no_l, hq⟩)
/-- a contract that answers nothing, comes to a state of a kind -/
theorem q_cv0 {G : q_G} {d : Nat} {Y : q_M} {vs : List Value} {σ : q_S} {P : q_S → Prop} (hp : plainName (m_y Y).cls = true) (hn : (q_vin vs).length ≤ m_m Y) (h : ∀ Q : Option Value → q_S → Prop, (∀ σ', P σ' → Q none σ') → q_At G Y d 0 0 0 (q_init vs (m_m Y)) [] σ Q) {Q : Option Value → q_S → Prop} (hq : ∀ σ', P σ' → Q none σ') : q_Call G d 0 0 Y vs σ Q := q_enter hp hn (h _ (fun σ' hP => ⟨q_no_v, hq σ' hP⟩))
theorem q_nb01 {c : Prop} [Decidable c] : narrow .boolean (.int (if c then (1 : Int32) else 0)) = .int (if c then (1 : Int32) else 0) := by split <;> rfl
theorem q_nb10 {c : Prop} [Decidable c] : narrow .boolean (.int (if c then (0 : Int32) else 1)) = .int (if c then (0 : Int32) else 1) := by split <;> rfl
