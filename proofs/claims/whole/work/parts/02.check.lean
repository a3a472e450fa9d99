/-! 02: the check of a draft, pure: pairs (instruction k / 5, height k % 5) -/
def tg_tk (o : Nat) : Nat := if (4 ≤ o ∧ o ≤ 14) ∨ o = 16 then 2 else if o = 15 ∨ o = 17 ∨ o = 18 ∨ o = 21 ∨ o = 23 then 1 else 0
def tg_gv (o : Nat) : Nat := if o = 15 ∨ o = 16 then 2 else if o ≤ 14 then 1 else 0
def tg_e (o d : Nat) : Nat := d - tg_tk o + tg_gv o
def tg_fit (o d : Nat) : Bool := decide (tg_tk o ≤ d) && decide (tg_e o d ≤ 4)
def tg_nx (w : Nat → Nat) (c : Nat → Int64) (i j : Nat) : Bool :=
  (decide (w i ≠ 20) && decide (w i < 22) && decide (j = i + 1)) || ((decide (w i = 20) || decide (w i = 21)) && decide (c i = lN j))
def tg_s (w : Nat → Nat) (c : Nat → Int64) (n : Nat) (R : Nat → Bool) (k : Nat) : Nat → Bool :=
  fun q => R q || (R k && tg_fit (w (k / 5)) (k % 5) && decide (q / 5 < n) && tg_nx w c (k / 5) (q / 5) && decide (q % 5 = tg_e (w (k / 5)) (k % 5)))
def tg_r (w : Nat → Nat) (c : Nat → Int64) (n : Nat) (R : Nat → Bool) : Nat → Nat → Bool
  | 0 => R
  | k + 1 => tg_s w c n (tg_r w c n R k) k
def tg_sp (w : Nat → Nat) (c : Nat → Int64) (n : Nat) : Nat → Nat → Bool
  | 0 => fun q => decide (q = 0)
  | r + 1 => tg_r w c n (tg_sp w c n r) (5 * n)
def tg_cn (R : Nat → Bool) : Nat → Nat
  | 0 => 0
  | k + 1 => tg_cn R k + (if R k = true then 1 else 0)
section CK
variable {w : Nat → Nat} {c : Nat → Int64} {n : Nat}
theorem tg_s_mono {R : Nat → Bool} {k q : Nat} (h : R q = true) : tg_s w c n R k q = true := by
  unfold tg_s; rw [h, Bool.true_or]
theorem tg_r_mono {R : Nat → Bool} {q : Nat} (h : R q = true) (k : Nat) : tg_r w c n R k q = true := by
  induction k with
  | zero => exact h
  | succ k ih => exact tg_s_mono ih
theorem tg_r_le {R : Nat → Bool} {q k : Nat} (h : tg_r w c n R k q = true) (l : Nat) : tg_r w c n R (k + l) q = true := by
  induction l with
  | zero => exact h
  | succ l ih => exact tg_s_mono ih
theorem tg_s_sup {R : Nat → Bool} (h : ∀ q, 5 * n ≤ q → R q = false) (k : Nat) : ∀ q, 5 * n ≤ q → tg_s w c n R k q = false := by
  intro q hq
  have e : decide (q / 5 < n) = false := decide_eq_false (by omega)
  unfold tg_s
  rw [h q hq, e]
  simp
theorem tg_r_sup {R : Nat → Bool} (h : ∀ q, 5 * n ≤ q → R q = false) (k : Nat) : ∀ q, 5 * n ≤ q → tg_r w c n R k q = false := by
  induction k with
  | zero => exact h
  | succ k ih => exact tg_s_sup ih k
theorem tg_sp_sup (hn : 0 < n) (r : Nat) : ∀ q, 5 * n ≤ q → tg_sp w c n r q = false := by
  induction r with
  | zero => intro q hq; exact decide_eq_false (by omega)
  | succ r ih => exact tg_r_sup ih _
theorem tg_sp_0 (r : Nat) : tg_sp w c n r 0 = true := by
  induction r with
  | zero => rfl
  | succ r ih => exact tg_r_mono ih _
theorem tg_cn_le (R : Nat → Bool) (N : Nat) : tg_cn R N ≤ N := by
  induction N with
  | zero => exact Nat.le_refl 0
  | succ N ih => unfold tg_cn; split <;> omega
theorem tg_cn_mono {R S : Nat → Bool} (h : ∀ q, R q = true → S q = true) (N : Nat) : tg_cn R N ≤ tg_cn S N := by
  induction N with
  | zero => exact Nat.le_refl 0
  | succ N ih =>
    unfold tg_cn
    by_cases e : R N = true
    · rw [if_pos e, if_pos (h N e)]; omega
    · rw [if_neg e]; omega
theorem tg_cn_eq {R S : Nat → Bool} (h : ∀ q, R q = true → S q = true) (N : Nat) (z : tg_cn S N ≤ tg_cn R N) : ∀ q, q < N → S q = R q := by
  induction N with
  | zero => intro q hq; omega
  | succ N ih =>
    intro q hq
    have m := tg_cn_mono h N
    unfold tg_cn at z
    by_cases e : R N = true
    · rw [if_pos e, if_pos (h N e)] at z
      by_cases g : q = N
      · rw [g, e, h N e]
      · exact ih (by omega) q (by omega)
    · rw [if_neg e] at z
      by_cases f : S N = true
      · rw [if_pos f] at z; omega
      · rw [if_neg f] at z
        by_cases g : q = N
        · rw [g, Bool.eq_false_iff.mpr e, Bool.eq_false_iff.mpr f]
        · exact ih (by omega) q (by omega)
/-- closed: a step of any pair adds nothing -/
def tg_Cl (w : Nat → Nat) (c : Nat → Int64) (n : Nat) (R : Nat → Bool) : Prop := ∀ k, k < 5 * n → tg_s w c n R k = R
theorem tg_Cl_r {R : Nat → Bool} (h : tg_Cl w c n R) : ∀ k, k ≤ 5 * n → tg_r w c n R k = R := by
  intro k
  induction k with
  | zero => intro _; rfl
  | succ k ih =>
    intro hk
    show tg_s w c n (tg_r w c n R k) k = R
    rw [ih (by omega)]
    exact h k (by omega)
theorem tg_r_Cl {R : Nat → Bool} (e : tg_r w c n R (5 * n) = R) : tg_Cl w c n R := by
  have a : ∀ k, k ≤ 5 * n → tg_r w c n R k = R := by
    intro k hk
    funext q
    by_cases h : R q = true
    · rw [h]; exact tg_r_mono h k
    · by_cases g : tg_r w c n R k q = true
      · have z := tg_r_le g (5 * n - k)
        rw [show k + (5 * n - k) = 5 * n from by omega, e] at z
        exact absurd z h
      · rw [Bool.eq_false_iff.mpr h, Bool.eq_false_iff.mpr g]
  intro k hk
  have b : tg_s w c n (tg_r w c n R k) k = R := a (k + 1) hk
  rw [a k (by omega)] at b
  exact b
theorem tg_sp_cl (hn : 0 < n) (r : Nat) : tg_Cl w c n (tg_sp w c n r) ∨ r + 1 ≤ tg_cn (tg_sp w c n r) (5 * n) := by
  induction r with
  | zero =>
    right
    have a : ∀ N, 0 < N → 0 + 1 ≤ tg_cn (tg_sp w c n 0) N := by
      intro N hN
      induction N with
      | zero => omega
      | succ N ih =>
        by_cases z : 0 < N
        · have := ih z
          unfold tg_cn
          omega
        · obtain rfl : N = 0 := by omega
          exact Nat.le_refl 1
    exact a _ (by omega)
  | succ r ih =>
    cases ih with
    | inl h =>
      left
      have e : tg_sp w c n (r + 1) = tg_sp w c n r := tg_Cl_r h _ (Nat.le_refl _)
      rw [e]
      exact h
    | inr h =>
      by_cases z : tg_cn (tg_sp w c n (r + 1)) (5 * n) ≤ tg_cn (tg_sp w c n r) (5 * n)
      · left
        have m : ∀ q, tg_sp w c n r q = true → tg_sp w c n (r + 1) q = true := fun q hq => tg_r_mono hq _
        have e := tg_cn_eq m _ z
        have f : tg_r w c n (tg_sp w c n r) (5 * n) = tg_sp w c n r := by
          funext q
          by_cases hq : q < 5 * n
          · exact e q hq
          · have g := tg_sp_sup (w := w) (c := c) hn (r + 1) q (by omega)
            have g' := tg_sp_sup (w := w) (c := c) hn r q (by omega)
            rw [g']; exact g
        have e2 : tg_sp w c n (r + 1) = tg_sp w c n r := f
        rw [e2]
        exact tg_r_Cl f
      · right; omega
theorem tg_sp_80 (hn : 0 < n) (h16 : n ≤ 16) : tg_Cl w c n (tg_sp w c n 80) := by
  cases tg_sp_cl (w := w) (c := c) hn 80 with
  | inl h => exact h
  | inr h =>
    have := tg_cn_le (tg_sp w c n 80) (5 * n)
    omega
end CK
/-! what is faulty -/
def tg_h (R : Nat → Bool) (i : Nat) : Nat → Nat
  | 0 => 0
  | d + 1 => tg_h R i d + (if R (5 * i + d) = true then 1 else 0)
def tg_b (w : Nat → Nat) (R : Nat → Bool) (i : Nat) : Nat → Bool
  | 0 => false
  | d + 1 => tg_b w R i d || (R (5 * i + d) && !tg_fit (w i) d)
def tg_ind (n : Nat) (x : Int64) : Bool := decide (0 ≤ x) && decide (x < lN n)
def tg_out (w : Nat → Nat) (c : Nat → Int64) (n i : Nat) : Bool :=
  ((decide (w i = 20) || decide (w i = 21)) && !tg_ind n (c i)) || (decide (w i ≠ 20) && decide (w i < 22) && decide (i + 1 = n))
def tg_f (w : Nat → Nat) (c : Nat → Int64) (n : Nat) (R : Nat → Bool) (i : Nat) : Bool :=
  tg_b w R i 5 || decide (1 < tg_h R i 5) || (decide (0 < tg_h R i 5) && tg_out w c n i)
theorem tg_ind_e {n : Nat} (hn : n < 2 ^ 31) {x : Int64} (h : tg_ind n x = true) : ∃ j, j < n ∧ x = lN j := by
  unfold tg_ind at h
  rw [Bool.and_eq_true, decide_eq_true_eq, decide_eq_true_eq] at h
  obtain ⟨j, hj, rfl⟩ := pk_lOf (Int64.not_lt.mpr h.1)
  exact ⟨j, (pk_lLT hj (by omega)).mp h.2, rfl⟩
/-- verified: a set of pairs that holds (0, 0), and which the steps keep within the stack and the program -/
def tg_Ver (w : Nat → Nat) (c : Nat → Int64) (n : Nat) : Prop := ∃ R : Nat → Bool, R 0 = true ∧ ∀ i, i < n → ∀ d, d < 5 → R (5 * i + d) = true →
  tg_tk (w i) ≤ d ∧ tg_e (w i) d ≤ 4 ∧
  (w i ≠ 20 → w i < 22 → i + 1 < n ∧ R (5 * (i + 1) + tg_e (w i) d) = true) ∧
  (w i = 20 ∨ w i = 21 → ∃ j, j < n ∧ c i = lN j ∧ R (5 * j + tg_e (w i) d) = true)
theorem tg_h_pos {R : Nat → Bool} {i d : Nat} (h : R (5 * i + d) = true) : ∀ D, d < D → 0 < tg_h R i D := by
  intro D
  induction D with
  | zero => intro z; omega
  | succ D ih =>
    intro z
    unfold tg_h
    by_cases e : d = D
    · subst e; rw [if_pos h]; omega
    · have := ih (by omega); omega
theorem tg_b_fit {w : Nat → Nat} {R : Nat → Bool} {i d : Nat} (h : R (5 * i + d) = true) : ∀ D, d < D → tg_b w R i D = false → tg_fit (w i) d = true := by
  intro D
  induction D with
  | zero => intro z; omega
  | succ D ih =>
    intro z e
    unfold tg_b at e
    rw [Bool.or_eq_false_iff] at e
    by_cases g : d = D
    · subst g
      rw [h, Bool.true_and] at e
      simpa using e.2
    · exact ih (by omega) e.1
theorem tg_ver {w : Nat → Nat} {c : Nat → Int64} {n : Nat} (hn : 0 < n) (h16 : n ≤ 16) (h : ∀ i, i < n → tg_f w c n (tg_sp w c n 80) i = false) : tg_Ver w c n := by
  refine ⟨tg_sp w c n 80, tg_sp_0 80, fun i hi d hd hR => ?_⟩
  have hf := h i hi
  unfold tg_f at hf
  rw [Bool.or_eq_false_iff, Bool.or_eq_false_iff] at hf
  obtain ⟨⟨h1, _⟩, h3⟩ := hf
  have fit := tg_b_fit hR 5 hd h1
  have hp := tg_h_pos hR 5 hd
  rw [decide_eq_true hp, Bool.true_and] at h3
  have fit2 := fit
  unfold tg_fit at fit2
  rw [Bool.and_eq_true, decide_eq_true_eq, decide_eq_true_eq] at fit2
  have cl := tg_sp_80 (w := w) (c := c) hn h16 (5 * i + d) (by omega)
  have k1 : (5 * i + d) / 5 = i := by omega
  have k2 : (5 * i + d) % 5 = d := by omega
  have go : ∀ j, j < n → tg_nx w c i j = true → tg_sp w c n 80 (5 * j + tg_e (w i) d) = true := by
    intro j hj nx
    rw [← cl]
    unfold tg_s
    have k3 : (5 * j + tg_e (w i) d) / 5 = j := by omega
    have k4 : (5 * j + tg_e (w i) d) % 5 = tg_e (w i) d := by omega
    rw [k1, k2, k3, k4, hR, fit, nx, decide_eq_true hj, decide_eq_true rfl]
    simp
  unfold tg_out at h3
  rw [Bool.or_eq_false_iff] at h3
  refine ⟨fit2.1, fit2.2, fun a b => ?_, fun a => ?_⟩
  · have z := h3.2
    rw [decide_eq_true a, decide_eq_true b, Bool.true_and, Bool.true_and, decide_eq_false_iff_not] at z
    refine ⟨by omega, go (i + 1) (by omega) ?_⟩
    unfold tg_nx
    rw [decide_eq_true a, decide_eq_true b, decide_eq_true rfl]
    simp
  · have z := h3.1
    have y : (decide (w i = 20) || decide (w i = 21)) = true := by
      cases a with
      | inl a => rw [decide_eq_true a, Bool.true_or]
      | inr a => rw [decide_eq_true a, Bool.or_true]
    rw [y, Bool.true_and] at z
    obtain ⟨j, hj, e⟩ := tg_ind_e (n := n) (by omega) (x := c i) (by simpa using z)
    refine ⟨j, hj, e, go j hj ?_⟩
    unfold tg_nx
    rw [y, decide_eq_true e]
    simp
theorem tg_Ver_c {w : Nat → Nat} {c d : Nat → Int64} {n : Nat} (e : ∀ i, i < n → c i = d i) (h : tg_Ver w c n) : tg_Ver w d n := by
  obtain ⟨R, h0, hR⟩ := h
  refine ⟨R, h0, fun i hi x hx hr => ?_⟩
  obtain ⟨a1, a2, a3, a4⟩ := hR i hi x hx hr
  refine ⟨a1, a2, a3, fun z => ?_⟩
  obtain ⟨j, b1, b2, b3⟩ := a4 z
  exact ⟨j, b1, by rw [← e i hi]; exact b2, b3⟩
