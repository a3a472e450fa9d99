/-! 03: lists of members, pure -/
def tg_pk : List Nat → Nat
  | [] => 0
  | a :: r => (a + 1) + 8 * tg_pk r
theorem tg_cases {P : List Nat → Prop} (h0 : P []) (h1 : ∀ a, a < 5 → P [a]) (h2 : ∀ a, a < 5 → ∀ b, b < 5 → P [a, b]) (h3 : ∀ a, a < 5 → ∀ b, b < 5 → ∀ d, d < 5 → P [a, b, d]) {g : List Nat} (hl : g.length ≤ 3) (hm : ∀ m, m ∈ g → m < 5) : P g := by
  match g, hl, hm with
  | [], _, _ => exact h0
  | [a], _, hm => exact h1 a (hm a (by simp))
  | [a, b], _, hm => exact h2 a (hm a (by simp)) b (hm b (by simp))
  | [a, b, d], _, hm => exact h3 a (hm a (by simp)) b (hm b (by simp)) d (hm d (by simp))
  | _ :: _ :: _ :: _ :: _, hl, _ => exact absurd hl (by simp)
def tg_at (g : List Nat) (j : Nat) : Int32 := if j < g.length then nI (g.getD j 0) else -1
theorem tg_mem {g : List Nat} (hl : g.length ≤ 3) (hm : ∀ m, m ∈ g → m < 5) : ∀ j, j < 3 → ((nI (tg_pk g) >>> ((nI j * 3) &&& 31)) &&& 7) - 1 = tg_at g j :=
  tg_cases (P := fun g => ∀ j, j < 3 → ((nI (tg_pk g) >>> ((nI j * 3) &&& 31)) &&& 7) - 1 = tg_at g j) (by decide +kernel) (by decide +kernel) (by decide +kernel) (by decide +kernel) hl hm
theorem tg_app {g : List Nat} (hl : g.length ≤ 2) (hm : ∀ m, m ∈ g → m < 5) : ∀ m, m < 5 → nI (tg_pk g) ||| ((nI m + 1) <<< ((nI g.length * 3) &&& 31)) = nI (tg_pk (g ++ [m])) :=
  tg_cases (P := fun g => g.length ≤ 2 → ∀ m, m < 5 → nI (tg_pk g) ||| ((nI m + 1) <<< ((nI g.length * 3) &&& 31)) = nI (tg_pk (g ++ [m]))) (by decide +kernel) (by decide +kernel) (by decide +kernel) (fun _ _ _ _ _ _ h => absurd h (by simp)) (by omega) hm hl
theorem tg_fst {g : List Nat} (hl : g.length ≤ 3) (hm : ∀ m, m ∈ g → m < 5) : nI (tg_pk g) &&& 7 = nI (tg_pk (g.take 1)) :=
  tg_cases (P := fun g => nI (tg_pk g) &&& 7 = nI (tg_pk (g.take 1))) (by decide +kernel) (by decide +kernel) (by decide +kernel) (by decide +kernel) hl hm
theorem tg_pk_lt {g : List Nat} (hl : g.length ≤ 3) (hm : ∀ m, m ∈ g → m < 5) : tg_pk g < 512 :=
  tg_cases (P := fun g => tg_pk g < 512) (by decide +kernel) (by decide +kernel) (by decide +kernel) (by decide +kernel) hl hm
theorem tg_pk_inj : ∀ {g h : List Nat}, (∀ m, m ∈ g → m < 5) → (∀ m, m ∈ h → m < 5) → tg_pk g = tg_pk h → g = h
  | [], [], _, _, _ => rfl
  | [], b :: s, _, _, e => by simp only [tg_pk] at e; omega
  | a :: r, [], _, _, e => by simp only [tg_pk] at e; omega
  | a :: r, b :: s, hg, hh, e => by
    have ha := hg a (by simp)
    have hb := hh b (by simp)
    simp only [tg_pk] at e
    have e1 : a = b := by omega
    have e2 : tg_pk r = tg_pk s := by omega
    rw [e1, tg_pk_inj (fun m hm => hg m (List.mem_cons_of_mem _ hm)) (fun m hm => hh m (List.mem_cons_of_mem _ hm)) e2]
theorem tg_pk_0 {g : List Nat} : tg_pk g = 0 ↔ g = [] := by
  cases g with
  | nil => simp [tg_pk]
  | cons a r => simp only [tg_pk]; constructor
                · intro h; omega
                · intro h; exact absurd h (by simp)
/-- a list of live members -/
def tg_G (L : Nat) (g : List Nat) : Prop := g.length ≤ 3 ∧ ∀ m, m ∈ g → m < 5 ∧ L.testBit m = true
theorem tg_G.lt {L : Nat} {g : List Nat} (h : tg_G L g) : ∀ m, m ∈ g → m < 5 := fun m hm => (h.2 m hm).1
theorem tg_getD {g : List Nat} {j : Nat} (h : j < g.length) : g.getD j 0 ∈ g := by
  rw [List.getD_eq_getElem?_getD, List.getElem?_eq_getElem h]
  exact List.getElem_mem h
theorem tg_getD_a {a : List Nat} {m : Nat} : (a ++ [m]).getD a.length 0 = m := by
  simp [List.getD_eq_getElem?_getD]
theorem tg_getD_l {a b : List Nat} {j : Nat} (h : j < a.length) : (a ++ b).getD j 0 = a.getD j 0 := by
  rw [List.getD_eq_getElem?_getD, List.getD_eq_getElem?_getD, List.getElem?_append_left h]
/-- g without m, by its first j places -/
def tg_fl (g : List Nat) (m : Nat) : Nat → List Nat
  | 0 => []
  | j + 1 => if j < g.length ∧ g.getD j 0 ≠ m then tg_fl g m j ++ [g.getD j 0] else tg_fl g m j
theorem tg_fl_len (g : List Nat) (m j : Nat) : (tg_fl g m j).length ≤ j := by
  induction j with
  | zero => exact Nat.le_refl 0
  | succ j ih =>
    unfold tg_fl
    split
    · rw [List.length_append, List.length_singleton]; omega
    · omega
theorem tg_fl_mem (g : List Nat) (m j : Nat) : ∀ x, x ∈ tg_fl g m j → x ∈ g ∧ x ≠ m := by
  induction j with
  | zero => intro x h; simp [tg_fl] at h
  | succ j ih =>
    intro x h
    unfold tg_fl at h
    split at h
    · rename_i c
      rw [List.mem_append, List.mem_singleton] at h
      cases h with
      | inl h => exact ih x h
      | inr h => rw [h]; exact ⟨tg_getD c.1, c.2⟩
    · exact ih x h
theorem tg_fl_big {g : List Nat} {m j : Nat} (h : g.length ≤ j) (d : Nat) : tg_fl g m (j + d) = tg_fl g m j := by
  induction d with
  | zero => rfl
  | succ d ih =>
    show (if j + d < g.length ∧ g.getD (j + d) 0 ≠ m then tg_fl g m (j + d) ++ [g.getD (j + d) 0] else tg_fl g m (j + d)) = _
    rw [if_neg (fun z => by omega), ih]
/-- the set of the first j places -/
def tg_st (g : List Nat) : Nat → Int32
  | 0 => 0
  | j + 1 => if j < g.length then tg_st g j ||| ((1 : Int32) <<< (nI (g.getD j 0) &&& 31)) else tg_st g j
theorem tg_st_big {g : List Nat} {j : Nat} (h : g.length ≤ j) (d : Nat) : tg_st g (j + d) = tg_st g j := by
  induction d with
  | zero => rfl
  | succ d ih =>
    show (if j + d < g.length then _ else tg_st g (j + d)) = _
    rw [if_neg (by omega), ih]
/-- the wanted list by its first i looks -/
def tg_w (p L b : Nat) : Nat → List Nat
  | 0 => []
  | i + 1 => if L.testBit ((p + i) % 5) = true ∧ (tg_w p L b i).length ≤ b then tg_w p L b i ++ [(p + i) % 5] else tg_w p L b i
theorem tg_w_mem (p L b i : Nat) : ∀ m, m ∈ tg_w p L b i → m < 5 ∧ L.testBit m = true := by
  induction i with
  | zero => intro x h; simp [tg_w] at h
  | succ i ih =>
    intro x h
    unfold tg_w at h
    split at h
    · rename_i c
      rw [List.mem_append, List.mem_singleton] at h
      cases h with
      | inl h => exact ih x h
      | inr h => rw [h]; exact ⟨Nat.mod_lt _ (by decide), c.1⟩
    · exact ih x h
theorem tg_w_len (p L b i : Nat) : (tg_w p L b i).length ≤ b + 1 := by
  induction i with
  | zero => simp [tg_w]
  | succ i ih =>
    unfold tg_w
    split
    · rename_i c; simp; omega
    · exact ih
theorem tg_w_G {p L b : Nat} (hb : b ≤ 2) (i : Nat) : tg_G L (tg_w p L b i) := ⟨by have := tg_w_len p L b i; omega, tg_w_mem p L b i⟩
theorem tg_w_0 : ∀ p, p < 6 → ∀ L, L < 32 → ∀ b, b < 3 → (tg_w p L b 5 = [] ↔ L = 0) := by decide +kernel
/-- live sets -/
def tg_del (L m : Nat) : Nat := if L.testBit m = true then L - 2 ^ m else L
theorem tg_in : ∀ L, L < 32 → ∀ m, m < 5 → (((nI L >>> (nI m &&& 31)) &&& 1) = 1 ↔ L.testBit m = true) := by decide +kernel
theorem tg_or : ∀ L, L < 32 → ∀ m, m < 5 → nI L ||| ((1 : Int32) <<< (nI m &&& 31)) = nI (L ||| 2 ^ m) := by decide +kernel
theorem tg_orb : ∀ L, L < 32 → ∀ m, m < 5 → (L ||| 2 ^ m) < 32 ∧ (L ||| 2 ^ m) ≠ 0 ∧ ∀ j, j < 5 → (L ||| 2 ^ m).testBit j = (decide (j = m) || L.testBit j) := by decide +kernel
theorem tg_an : ∀ L, L < 32 → ∀ m, m < 5 → nI L &&& (((1 : Int32) <<< (nI m &&& 31)) ^^^ (-1)) = nI (tg_del L m) := by decide +kernel
theorem tg_anb : ∀ L, L < 32 → ∀ m, m < 5 → tg_del L m < 32 ∧ ∀ j, j < 5 → (tg_del L m).testBit j = (!decide (j = m) && L.testBit j) := by decide +kernel
theorem tg_nz : ∀ L, L < 32 → L ≠ 0 → ∃ m, m < 5 ∧ L.testBit m = true := by
  intro L hL h
  have z : ∀ L, L < 32 → L = 0 ∨ L.testBit 0 = true ∨ L.testBit 1 = true ∨ L.testBit 2 = true ∨ L.testBit 3 = true ∨ L.testBit 4 = true := by decide +kernel
  rcases z L hL with e | e | e | e | e | e
  · exact absurd e h
  · exact ⟨0, by decide, e⟩
  · exact ⟨1, by decide, e⟩
  · exact ⟨2, by decide, e⟩
  · exact ⟨3, by decide, e⟩
  · exact ⟨4, by decide, e⟩
