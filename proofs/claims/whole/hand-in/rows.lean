section
/-! 01: numbers (rows of kit/rows, pasted) -/
theorem pk_us {f : Nat → Int32} {k : Nat} {x : Int32} : upd f k x k = x := if_pos rfl
theorem pk_un {f : Nat → Int32} {k j : Nat} {x : Int32} (h : j ≠ k) : upd f k x j = f j := if_neg h
theorem pk_uLs {f : Nat → Int64} {k : Nat} {x : Int64} : vp_updL f k x k = x := if_pos rfl
theorem pk_uLn {f : Nat → Int64} {k j : Nat} {x : Int64} (h : j ≠ k) : vp_updL f k x j = f j := if_neg h
theorem pk_sub {a b : Nat} (h : b ≤ a) : nI a - nI b = nI (a - b) := by
  obtain ⟨c, rfl⟩ : ∃ c, a = c + b := ⟨a - b, by omega⟩
  rw [← nI_add, Int32.add_sub_cancel, Nat.add_sub_cancel]
theorem pk_m1 (n : Nat) : nI (n + 1) + (-1) = nI n := by
  rw [← nI_1, Int32.add_assoc, show (1 : Int32) + (-1) = 0 from rfl, Int32.add_zero]
theorem pk_mul (a b : Nat) : nI a * nI b = nI (a * b) := (Int32.ofNat_mul a b).symm
theorem pk_div {a d : Nat} (ha : a < 2 ^ 31) (h0 : 0 < d) (hd : d < 2 ^ 31) : nI a / nI d = nI (a / d) := by
  apply Int32.toInt_inj.mp
  rw [lg_idiv_nonneg (by rw [nI_toInt ha]; omega) (by rw [nI_toInt hd]; omega), nI_toInt ha, nI_toInt hd, nI_toInt (Nat.lt_of_le_of_lt (Nat.div_le_self a d) ha)]
  first | rfl | exact (Int.natCast_ediv _ _).symm
theorem pk_rem {a d : Nat} (ha : a < 2 ^ 31) (h0 : 0 < d) (hd : d < 2 ^ 31) : nI a - nI a / nI d * nI d = nI (a % d) := by
  rw [pk_div ha h0 hd, pk_mul, pk_sub (Nat.div_mul_le_self a d)]
  exact congrArg nI (by have := Nat.div_add_mod' a d; omega)
theorem pk_ix (x : Int32) {n : Nat} (hn : n < 2 ^ 31) : x < 0 ∨ nI n ≤ x ∨ ∃ j : Nat, j < n ∧ x = nI j := by
  by_cases h : x < 0
  · exact Or.inl h
  · obtain ⟨j, hj, rfl⟩ := nI_of h
    by_cases h2 : j < n
    · exact Or.inr (Or.inr ⟨j, h2, rfl⟩)
    · exact Or.inr (Or.inl (nI_le (by omega) hj))
theorem pk_le {x y : Int32} {A B : Prop} (a b : Nat) (f : a ≤ b → A) (g : b < a → B) (hx : x = nI a := by rfl) (hy : y = nI b := by rfl) (ha : a < 2 ^ 31 := by omega) (hb : b < 2 ^ 31 := by omega) : (x ≤ y → A) ∧ (¬ x ≤ y → B) := by
  subst hx hy
  rw [nI_leI ha hb]
  exact ⟨f, fun z => g (by omega)⟩
theorem pk_lt {x y : Int32} {A B : Prop} (a b : Nat) (f : a < b → A) (g : b ≤ a → B) (hx : x = nI a := by rfl) (hy : y = nI b := by rfl) (ha : a < 2 ^ 31 := by omega) (hb : b < 2 ^ 31 := by omega) : (x < y → A) ∧ (¬ x < y → B) := by
  subst hx hy
  rw [nI_ltI ha hb]
  exact ⟨f, fun z => g (by omega)⟩
theorem pk_eq {x y : Int32} {A B : Prop} (a b : Nat) (f : a = b → A) (g : a ≠ b → B) (hx : x = nI a := by rfl) (hy : y = nI b := by rfl) (ha : a < 2 ^ 31 := by omega) (hb : b < 2 ^ 31 := by omega) : (x = y → A) ∧ (¬ x = y → B) := by
  subst hx hy
  rw [nI_eq ha hb]
  exact ⟨f, g⟩
theorem pk_in {x : Int32} (n N : Nat) (h : n < N) (hx : x = nI n := by rfl) (hN : N < 2 ^ 31 := by omega) : vp_in x N := by
  subst hx
  exact vp_in_nI h hN
theorem pk_cl {x : Int32} (n : Nat) (hx : x = nI n := by rfl) (h : n < 2 ^ 31 := by omega) : x.toNatClampNeg = n := by
  subst hx
  exact nI_clamp h
theorem pk_tn {n : Nat} (h : n < 2 ^ 32) : (nI n).toBitVec.toNat = n := Nat.mod_eq_of_lt h
theorem pk_and (x : Int32) {m : Int32} (k : Nat) (hm : m.toBitVec.toNat = 2 ^ k - 1) : x &&& m = nI (x.toBitVec.toNat % 2 ^ k) := by
  apply Int32.toBitVec_inj.mp
  apply BitVec.eq_of_toNat_eq
  rw [Int32.toBitVec_and, BitVec.toNat_and, hm, Nat.and_two_pow_sub_one_eq_mod]
  show _ = (BitVec.ofNat 32 _).toNat
  rw [BitVec.toNat_ofNat]
  exact (Nat.mod_eq_of_lt (Nat.lt_of_le_of_lt (Nat.mod_le _ _) x.toBitVec.isLt)).symm
theorem pk_andN {n : Nat} (h : n < 2 ^ 32) {m : Int32} (k : Nat) (hm : m.toBitVec.toNat = 2 ^ k - 1) : nI n &&& m = nI (n % 2 ^ k) := by
  rw [pk_and _ k hm, pk_tn h]
theorem pk_andE (x : Int32) {m : Int32} (k : Nat) (hm : m.toBitVec.toNat = 2 ^ k - 1) : ∃ j : Nat, j < 2 ^ k ∧ x &&& m = nI j := ⟨_, Nat.mod_lt _ (Nat.two_pow_pos k), pk_and x k hm⟩
theorem pk_andIn (x : Int32) {m : Int32} (k : Nat) (hm : m.toBitVec.toNat = 2 ^ k - 1) (hk : k ≤ 30) : vp_in (x &&& m) (2 ^ k) := by
  obtain ⟨j, hj, e⟩ := pk_andE x k hm
  rw [e]
  exact vp_in_nI hj (Nat.lt_of_le_of_lt (Nat.pow_le_pow_right (by decide) hk) (by decide))
theorem pk_shl (a s : Int32) (k : Nat) (hs : (s.toBitVec.smod 32).toNat = k) : (a <<< s).toBitVec.toNat = a.toBitVec.toNat * 2 ^ k % 2 ^ 32 := by
  show (a.toBitVec <<< (s.toBitVec.smod 32).toNat).toNat = _
  rw [hs, BitVec.toNat_shiftLeft, Nat.shiftLeft_eq]
theorem pk_shlN {n : Nat} (s : Int32) (k : Nat) (hs : (s.toBitVec.smod 32).toNat = k) (h : n * 2 ^ k < 2 ^ 32) : nI n <<< s = nI (n * 2 ^ k) := by
  apply Int32.toBitVec_inj.mp
  apply BitVec.eq_of_toNat_eq
  have hn : n < 2 ^ 32 := Nat.lt_of_le_of_lt (Nat.le_mul_of_pos_right n (Nat.two_pow_pos k)) h
  rw [pk_shl _ _ k hs, pk_tn hn, pk_tn h, Nat.mod_eq_of_lt h]
theorem pk_shr (a s : Int32) (k : Nat) (hs : (s.toBitVec.smod 32).toNat = k) : (a >>> s).toInt = a.toInt >>> k := by
  show (a.toBitVec.sshiftRight (s.toBitVec.smod 32).toNat).toInt = _
  rw [hs, BitVec.toInt_sshiftRight]
  rfl
theorem pk_shrN {n : Nat} (h : n < 2 ^ 31) (s : Int32) (k : Nat) (hs : (s.toBitVec.smod 32).toNat = k) : nI n >>> s = nI (n / 2 ^ k) := by
  apply Int32.toInt_inj.mp
  have h2 : n / 2 ^ k ≤ n := Nat.div_le_self _ _
  rw [pk_shr _ _ k hs, nI_toInt h, nI_toInt (by omega), Int.shiftRight_eq_div_pow]
  rfl
theorem pk_nb (z : Int32) : narrow .byte (.int z.toInt8.toInt32) = .int z.toInt8.toInt32 := congrArg Value.int (by simp)
theorem pk_fb (r : Int32) : fits .byte (.int r.toInt8.toInt32) = true := by
  have ⟨a, b⟩ := lg_i2b_range r
  have h1 : (-128 : Int32).toInt = -128 := by decide
  have h2 : (127 : Int32).toInt = 127 := by decide
  simp only [fits, Bool.and_eq_true, decide_eq_true_eq, Int32.le_iff_toInt_le, h1, h2]
  omega
theorem pk_vb (z : Int32) : vp_nar .byte z.toInt8.toInt32 = z.toInt8.toInt32 := by rw [vp_nar_byte]; simp
theorem pk_lT {n : Nat} (h : n < 2 ^ 63) : (lN n).toInt = (n : Int) := lg_ofNat_toInt h
theorem pk_lLT {a b : Nat} (ha : a < 2 ^ 63) (hb : b < 2 ^ 63) : lN a < lN b ↔ a < b := by
  rw [Int64.lt_iff_toInt_lt, pk_lT ha, pk_lT hb]; omega
theorem pk_lLE {a b : Nat} (ha : a < 2 ^ 63) (hb : b < 2 ^ 63) : lN a ≤ lN b ↔ a ≤ b := by
  rw [Int64.le_iff_toInt_le, pk_lT ha, pk_lT hb]; omega
theorem pk_lEQ {a b : Nat} (ha : a < 2 ^ 63) (hb : b < 2 ^ 63) : lN a = lN b ↔ a = b := by
  rw [← Int64.toInt_inj, pk_lT ha, pk_lT hb]; omega
theorem pk_lOf {x : Int64} (h : ¬ x < 0) : ∃ k : Nat, k < 2 ^ 63 ∧ x = lN k := by
  rw [Int64.lt_iff_toInt_lt] at h
  have h0 : (0 : Int64).toInt = 0 := by decide
  have hx := Int64.toInt_lt x
  refine ⟨x.toInt.toNat, by omega, Int64.toInt_inj.mp ?_⟩
  rw [pk_lT (by omega)]
  omega
theorem pk_lDiv {a b : Nat} (ha : a < 2 ^ 63) (h0 : 0 < b) (hb : b < 2 ^ 63) : lN a / lN b = lN (a / b) := by
  apply Int64.toInt_inj.mp
  rw [lg_ldiv_nonneg (by rw [pk_lT ha]; omega) (by rw [pk_lT hb]; omega), pk_lT ha, pk_lT hb, pk_lT (Nat.lt_of_le_of_lt (Nat.div_le_self a b) ha)]
  rfl
theorem pk_lRem {a b : Nat} (ha : a < 2 ^ 63) (h0 : 0 < b) (hb : b < 2 ^ 63) : lN a - lN a / lN b * lN b = lN (a % b) := by
  rw [pk_lDiv ha h0 hb, lN_mul, lN_sub (Nat.div_mul_le_self a b)]
  exact congrArg lN (by have := Nat.div_add_mod' a b; omega)
theorem pk_least (P : Nat → Prop) (h : ∃ k, P k) : ∃ k, P k ∧ ∀ j, j < k → ¬ P j := by
  obtain ⟨k, hk⟩ := h
  induction k using Nat.strongRecOn with
  | ind k ih =>
    by_cases e : ∃ j, j < k ∧ P j
    · obtain ⟨j, hj, pj⟩ := e
      exact ih j hj pj
    · exact ⟨k, hk, fun j hj pj => e ⟨j, hj, pj⟩⟩
theorem ek_if {c d A B : Prop} (e : c ↔ d) (f : d → A) (g : ¬ d → B) : (c → A) ∧ (¬ c → B) :=
  ⟨fun z => f (e.mp z), fun z => g (fun y => z (e.mpr y))⟩
theorem ek_v {α : Sort _} {P : α → Prop} {a b : α} (e : a = b) (h : P b) : P a := e ▸ h
end
section
/-! 02: the check of a draft, pure: pairs (instruction k / 5, height k % 5) -/
def tg_tk (o : Nat) : Nat := if (4 ≤ o ∧ o ≤ 14) ∨ o = 16 then 2 else if o = 15 ∨ o = 17 ∨ o = 18 ∨ o = 21 ∨ o = 23 then 1 else 0
def tg_gv (o : Nat) : Nat := if o = 15 ∨ o = 16 then 2 else if o ≤ 14 then 1 else 0
def tg_e (o d : Nat) : Nat := d - tg_tk o + tg_gv o
def tg_fit (o d : Nat) : Bool := decide (tg_tk o ≤ d) && decide (tg_e o d ≤ 4)
def tg_nx (w : Nat → Nat) (c : Nat → Int64) (i j : Nat) : Bool :=
  (decide (w i ≠ 20) && decide (w i < 22) && decide (j = i + 1)) || ((decide (w i = 20) || decide (w i = 21)) && decide (c i = lN j))
def tg_s (w : Nat → Nat) (c : Nat → Int64) (n : Nat) (R : Nat → Bool) (k : Nat) : Nat → Bool :=
  fun q => R q || (R k && tg_fit (w (k / 5)) (k % 5) && decide (q / 5 < n) && tg_nx w c (k / 5) (q / 5) && decide (q % 5 = tg_e (w (k / 5)) (k % 5)))
def tg_r (w : Nat → Nat) (c : Nat → Int64) (n : Nat) (R : Nat → Bool) : Nat → Nat → Bool
  | 0 => R
  | k + 1 => tg_s w c n (tg_r w c n R k) k
def tg_sp (w : Nat → Nat) (c : Nat → Int64) (n : Nat) : Nat → Nat → Bool
  | 0 => fun q => decide (q = 0)
  | r + 1 => tg_r w c n (tg_sp w c n r) (5 * n)
def tg_cn (R : Nat → Bool) : Nat → Nat
  | 0 => 0
  | k + 1 => tg_cn R k + (if R k = true then 1 else 0)
section CK
variable {w : Nat → Nat} {c : Nat → Int64} {n : Nat}
theorem tg_s_mono {R : Nat → Bool} {k q : Nat} (h : R q = true) : tg_s w c n R k q = true := by
  unfold tg_s; rw [h, Bool.true_or]
theorem tg_r_mono {R : Nat → Bool} {q : Nat} (h : R q = true) (k : Nat) : tg_r w c n R k q = true := by
  induction k with
  | zero => exact h
  | succ k ih => exact tg_s_mono ih
theorem tg_r_le {R : Nat → Bool} {q k : Nat} (h : tg_r w c n R k q = true) (l : Nat) : tg_r w c n R (k + l) q = true := by
  induction l with
  | zero => exact h
  | succ l ih => exact tg_s_mono ih
theorem tg_s_sup {R : Nat → Bool} (h : ∀ q, 5 * n ≤ q → R q = false) (k : Nat) : ∀ q, 5 * n ≤ q → tg_s w c n R k q = false := by
  intro q hq
  have e : decide (q / 5 < n) = false := decide_eq_false (by omega)
  unfold tg_s
  rw [h q hq, e]
  simp
theorem tg_r_sup {R : Nat → Bool} (h : ∀ q, 5 * n ≤ q → R q = false) (k : Nat) : ∀ q, 5 * n ≤ q → tg_r w c n R k q = false := by
  induction k with
  | zero => exact h
  | succ k ih => exact tg_s_sup ih k
theorem tg_sp_sup (hn : 0 < n) (r : Nat) : ∀ q, 5 * n ≤ q → tg_sp w c n r q = false := by
  induction r with
  | zero => intro q hq; exact decide_eq_false (by omega)
  | succ r ih => exact tg_r_sup ih _
theorem tg_sp_0 (r : Nat) : tg_sp w c n r 0 = true := by
  induction r with
  | zero => rfl
  | succ r ih => exact tg_r_mono ih _
theorem tg_cn_le (R : Nat → Bool) (N : Nat) : tg_cn R N ≤ N := by
  induction N with
  | zero => exact Nat.le_refl 0
  | succ N ih => unfold tg_cn; split <;> omega
theorem tg_cn_mono {R S : Nat → Bool} (h : ∀ q, R q = true → S q = true) (N : Nat) : tg_cn R N ≤ tg_cn S N := by
  induction N with
  | zero => exact Nat.le_refl 0
  | succ N ih =>
    unfold tg_cn
    by_cases e : R N = true
    · rw [if_pos e, if_pos (h N e)]; omega
    · rw [if_neg e]; omega
theorem tg_cn_eq {R S : Nat → Bool} (h : ∀ q, R q = true → S q = true) (N : Nat) (z : tg_cn S N ≤ tg_cn R N) : ∀ q, q < N → S q = R q := by
  induction N with
  | zero => intro q hq; omega
  | succ N ih =>
    intro q hq
    have m := tg_cn_mono h N
    unfold tg_cn at z
    by_cases e : R N = true
    · rw [if_pos e, if_pos (h N e)] at z
      by_cases g : q = N
      · rw [g, e, h N e]
      · exact ih (by omega) q (by omega)
    · rw [if_neg e] at z
      by_cases f : S N = true
      · rw [if_pos f] at z; omega
      · rw [if_neg f] at z
        by_cases g : q = N
        · rw [g, Bool.eq_false_iff.mpr e, Bool.eq_false_iff.mpr f]
        · exact ih (by omega) q (by omega)
/-- closed: a step of any pair adds nothing -/
def tg_Cl (w : Nat → Nat) (c : Nat → Int64) (n : Nat) (R : Nat → Bool) : Prop := ∀ k, k < 5 * n → tg_s w c n R k = R
theorem tg_Cl_r {R : Nat → Bool} (h : tg_Cl w c n R) : ∀ k, k ≤ 5 * n → tg_r w c n R k = R := by
  intro k
  induction k with
  | zero => intro _; rfl
  | succ k ih =>
    intro hk
    show tg_s w c n (tg_r w c n R k) k = R
    rw [ih (by omega)]
    exact h k (by omega)
theorem tg_r_Cl {R : Nat → Bool} (e : tg_r w c n R (5 * n) = R) : tg_Cl w c n R := by
  have a : ∀ k, k ≤ 5 * n → tg_r w c n R k = R := by
    intro k hk
    funext q
    by_cases h : R q = true
    · rw [h]; exact tg_r_mono h k
    · by_cases g : tg_r w c n R k q = true
      · have z := tg_r_le g (5 * n - k)
        rw [show k + (5 * n - k) = 5 * n from by omega, e] at z
        exact absurd z h
      · rw [Bool.eq_false_iff.mpr h, Bool.eq_false_iff.mpr g]
  intro k hk
  have b : tg_s w c n (tg_r w c n R k) k = R := a (k + 1) hk
  rw [a k (by omega)] at b
  exact b
theorem tg_sp_cl (hn : 0 < n) (r : Nat) : tg_Cl w c n (tg_sp w c n r) ∨ r + 1 ≤ tg_cn (tg_sp w c n r) (5 * n) := by
  induction r with
  | zero =>
    right
    have a : ∀ N, 0 < N → 0 + 1 ≤ tg_cn (tg_sp w c n 0) N := by
      intro N hN
      induction N with
      | zero => omega
      | succ N ih =>
        by_cases z : 0 < N
        · have := ih z
          unfold tg_cn
          omega
        · obtain rfl : N = 0 := by omega
          exact Nat.le_refl 1
    exact a _ (by omega)
  | succ r ih =>
    cases ih with
    | inl h =>
      left
      have e : tg_sp w c n (r + 1) = tg_sp w c n r := tg_Cl_r h _ (Nat.le_refl _)
      rw [e]
      exact h
    | inr h =>
      by_cases z : tg_cn (tg_sp w c n (r + 1)) (5 * n) ≤ tg_cn (tg_sp w c n r) (5 * n)
      · left
        have m : ∀ q, tg_sp w c n r q = true → tg_sp w c n (r + 1) q = true := fun q hq => tg_r_mono hq _
        have e := tg_cn_eq m _ z
        have f : tg_r w c n (tg_sp w c n r) (5 * n) = tg_sp w c n r := by
          funext q
          by_cases hq : q < 5 * n
          · exact e q hq
          · have g := tg_sp_sup (w := w) (c := c) hn (r + 1) q (by omega)
            have g' := tg_sp_sup (w := w) (c := c) hn r q (by omega)
            rw [g']; exact g
        have e2 : tg_sp w c n (r + 1) = tg_sp w c n r := f
        rw [e2]
        exact tg_r_Cl f
      · right; omega
theorem tg_sp_80 (hn : 0 < n) (h16 : n ≤ 16) : tg_Cl w c n (tg_sp w c n 80) := by
  cases tg_sp_cl (w := w) (c := c) hn 80 with
  | inl h => exact h
  | inr h =>
    have := tg_cn_le (tg_sp w c n 80) (5 * n)
    omega
end CK
/-! what is faulty -/
def tg_h (R : Nat → Bool) (i : Nat) : Nat → Nat
  | 0 => 0
  | d + 1 => tg_h R i d + (if R (5 * i + d) = true then 1 else 0)
def tg_b (w : Nat → Nat) (R : Nat → Bool) (i : Nat) : Nat → Bool
  | 0 => false
  | d + 1 => tg_b w R i d || (R (5 * i + d) && !tg_fit (w i) d)
def tg_ind (n : Nat) (x : Int64) : Bool := decide (0 ≤ x) && decide (x < lN n)
def tg_out (w : Nat → Nat) (c : Nat → Int64) (n i : Nat) : Bool :=
  ((decide (w i = 20) || decide (w i = 21)) && !tg_ind n (c i)) || (decide (w i ≠ 20) && decide (w i < 22) && decide (i + 1 = n))
def tg_f (w : Nat → Nat) (c : Nat → Int64) (n : Nat) (R : Nat → Bool) (i : Nat) : Bool :=
  tg_b w R i 5 || decide (1 < tg_h R i 5) || (decide (0 < tg_h R i 5) && tg_out w c n i)
theorem tg_ind_e {n : Nat} (hn : n < 2 ^ 31) {x : Int64} (h : tg_ind n x = true) : ∃ j, j < n ∧ x = lN j := by
  unfold tg_ind at h
  rw [Bool.and_eq_true, decide_eq_true_eq, decide_eq_true_eq] at h
  obtain ⟨j, hj, rfl⟩ := pk_lOf (Int64.not_lt.mpr h.1)
  exact ⟨j, (pk_lLT hj (by omega)).mp h.2, rfl⟩
/-- verified: a set of pairs that holds (0, 0), and which the steps keep within the stack and the program -/
def tg_Ver (w : Nat → Nat) (c : Nat → Int64) (n : Nat) : Prop := ∃ R : Nat → Bool, R 0 = true ∧ ∀ i, i < n → ∀ d, d < 5 → R (5 * i + d) = true →
  tg_tk (w i) ≤ d ∧ tg_e (w i) d ≤ 4 ∧
  (w i ≠ 20 → w i < 22 → i + 1 < n ∧ R (5 * (i + 1) + tg_e (w i) d) = true) ∧
  (w i = 20 ∨ w i = 21 → ∃ j, j < n ∧ c i = lN j ∧ R (5 * j + tg_e (w i) d) = true)
theorem tg_h_pos {R : Nat → Bool} {i d : Nat} (h : R (5 * i + d) = true) : ∀ D, d < D → 0 < tg_h R i D := by
  intro D
  induction D with
  | zero => intro z; omega
  | succ D ih =>
    intro z
    unfold tg_h
    by_cases e : d = D
    · subst e; rw [if_pos h]; omega
    · have := ih (by omega); omega
theorem tg_b_fit {w : Nat → Nat} {R : Nat → Bool} {i d : Nat} (h : R (5 * i + d) = true) : ∀ D, d < D → tg_b w R i D = false → tg_fit (w i) d = true := by
  intro D
  induction D with
  | zero => intro z; omega
  | succ D ih =>
    intro z e
    unfold tg_b at e
    rw [Bool.or_eq_false_iff] at e
    by_cases g : d = D
    · subst g
      rw [h, Bool.true_and] at e
      simpa using e.2
    · exact ih (by omega) e.1
theorem tg_ver {w : Nat → Nat} {c : Nat → Int64} {n : Nat} (hn : 0 < n) (h16 : n ≤ 16) (h : ∀ i, i < n → tg_f w c n (tg_sp w c n 80) i = false) : tg_Ver w c n := by
  refine ⟨tg_sp w c n 80, tg_sp_0 80, fun i hi d hd hR => ?_⟩
  have hf := h i hi
  unfold tg_f at hf
  rw [Bool.or_eq_false_iff, Bool.or_eq_false_iff] at hf
  obtain ⟨⟨h1, _⟩, h3⟩ := hf
  have fit := tg_b_fit hR 5 hd h1
  have hp := tg_h_pos hR 5 hd
  rw [decide_eq_true hp, Bool.true_and] at h3
  have fit2 := fit
  unfold tg_fit at fit2
  rw [Bool.and_eq_true, decide_eq_true_eq, decide_eq_true_eq] at fit2
  have cl := tg_sp_80 (w := w) (c := c) hn h16 (5 * i + d) (by omega)
  have k1 : (5 * i + d) / 5 = i := by omega
  have k2 : (5 * i + d) % 5 = d := by omega
  have go : ∀ j, j < n → tg_nx w c i j = true → tg_sp w c n 80 (5 * j + tg_e (w i) d) = true := by
    intro j hj nx
    rw [← cl]
    unfold tg_s
    have k3 : (5 * j + tg_e (w i) d) / 5 = j := by omega
    have k4 : (5 * j + tg_e (w i) d) % 5 = tg_e (w i) d := by omega
    rw [k1, k2, k3, k4, hR, fit, nx, decide_eq_true hj, decide_eq_true rfl]
    simp
  unfold tg_out at h3
  rw [Bool.or_eq_false_iff] at h3
  refine ⟨fit2.1, fit2.2, fun a b => ?_, fun a => ?_⟩
  · have z := h3.2
    rw [decide_eq_true a, decide_eq_true b, Bool.true_and, Bool.true_and, decide_eq_false_iff_not] at z
    refine ⟨by omega, go (i + 1) (by omega) ?_⟩
    unfold tg_nx
    rw [decide_eq_true a, decide_eq_true b, decide_eq_true rfl]
    simp
  · have z := h3.1
    have y : (decide (w i = 20) || decide (w i = 21)) = true := by
      cases a with
      | inl a => rw [decide_eq_true a, Bool.true_or]
      | inr a => rw [decide_eq_true a, Bool.or_true]
    rw [y, Bool.true_and] at z
    obtain ⟨j, hj, e⟩ := tg_ind_e (n := n) (by omega) (x := c i) (by simpa using z)
    refine ⟨j, hj, e, go j hj ?_⟩
    unfold tg_nx
    rw [y, decide_eq_true e]
    simp
theorem tg_Ver_c {w : Nat → Nat} {c d : Nat → Int64} {n : Nat} (e : ∀ i, i < n → c i = d i) (h : tg_Ver w c n) : tg_Ver w d n := by
  obtain ⟨R, h0, hR⟩ := h
  refine ⟨R, h0, fun i hi x hx hr => ?_⟩
  obtain ⟨a1, a2, a3, a4⟩ := hR i hi x hx hr
  refine ⟨a1, a2, a3, fun z => ?_⟩
  obtain ⟨j, b1, b2, b3⟩ := a4 z
  exact ⟨j, b1, by rw [← e i hi]; exact b2, b3⟩
end
section
/-! 03: lists of members, pure -/
def tg_pk : List Nat → Nat
  | [] => 0
  | a :: r => (a + 1) + 8 * tg_pk r
theorem tg_cases {P : List Nat → Prop} (h0 : P []) (h1 : ∀ a, a < 5 → P [a]) (h2 : ∀ a, a < 5 → ∀ b, b < 5 → P [a, b]) (h3 : ∀ a, a < 5 → ∀ b, b < 5 → ∀ d, d < 5 → P [a, b, d]) {g : List Nat} (hl : g.length ≤ 3) (hm : ∀ m, m ∈ g → m < 5) : P g := by
  match g, hl, hm with
  | [], _, _ => exact h0
  | [a], _, hm => exact h1 a (hm a (by simp))
  | [a, b], _, hm => exact h2 a (hm a (by simp)) b (hm b (by simp))
  | [a, b, d], _, hm => exact h3 a (hm a (by simp)) b (hm b (by simp)) d (hm d (by simp))
  | _ :: _ :: _ :: _ :: _, hl, _ => exact absurd hl (by simp)
def tg_at (g : List Nat) (j : Nat) : Int32 := if j < g.length then nI (g.getD j 0) else -1
theorem tg_mem {g : List Nat} (hl : g.length ≤ 3) (hm : ∀ m, m ∈ g → m < 5) : ∀ j, j < 3 → ((nI (tg_pk g) >>> ((nI j * 3) &&& 31)) &&& 7) - 1 = tg_at g j :=
  tg_cases (P := fun g => ∀ j, j < 3 → ((nI (tg_pk g) >>> ((nI j * 3) &&& 31)) &&& 7) - 1 = tg_at g j) (by decide +kernel) (by decide +kernel) (by decide +kernel) (by decide +kernel) hl hm
theorem tg_app {g : List Nat} (hl : g.length ≤ 2) (hm : ∀ m, m ∈ g → m < 5) : ∀ m, m < 5 → nI (tg_pk g) ||| ((nI m + 1) <<< ((nI g.length * 3) &&& 31)) = nI (tg_pk (g ++ [m])) :=
  tg_cases (P := fun g => g.length ≤ 2 → ∀ m, m < 5 → nI (tg_pk g) ||| ((nI m + 1) <<< ((nI g.length * 3) &&& 31)) = nI (tg_pk (g ++ [m]))) (by decide +kernel) (by decide +kernel) (by decide +kernel) (fun _ _ _ _ _ _ h => absurd h (by simp)) (by omega) hm hl
theorem tg_fst {g : List Nat} (hl : g.length ≤ 3) (hm : ∀ m, m ∈ g → m < 5) : nI (tg_pk g) &&& 7 = nI (tg_pk (g.take 1)) :=
  tg_cases (P := fun g => nI (tg_pk g) &&& 7 = nI (tg_pk (g.take 1))) (by decide +kernel) (by decide +kernel) (by decide +kernel) (by decide +kernel) hl hm
theorem tg_pk_lt {g : List Nat} (hl : g.length ≤ 3) (hm : ∀ m, m ∈ g → m < 5) : tg_pk g < 512 :=
  tg_cases (P := fun g => tg_pk g < 512) (by decide +kernel) (by decide +kernel) (by decide +kernel) (by decide +kernel) hl hm
theorem tg_pk_inj : ∀ {g h : List Nat}, (∀ m, m ∈ g → m < 5) → (∀ m, m ∈ h → m < 5) → tg_pk g = tg_pk h → g = h
  | [], [], _, _, _ => rfl
  | [], b :: s, _, _, e => by simp only [tg_pk] at e; omega
  | a :: r, [], _, _, e => by simp only [tg_pk] at e; omega
  | a :: r, b :: s, hg, hh, e => by
    have ha := hg a (by simp)
    have hb := hh b (by simp)
    simp only [tg_pk] at e
    have e1 : a = b := by omega
    have e2 : tg_pk r = tg_pk s := by omega
    rw [e1, tg_pk_inj (fun m hm => hg m (List.mem_cons_of_mem _ hm)) (fun m hm => hh m (List.mem_cons_of_mem _ hm)) e2]
theorem tg_pk_0 {g : List Nat} : tg_pk g = 0 ↔ g = [] := by
  cases g with
  | nil => simp [tg_pk]
  | cons a r => simp only [tg_pk]; constructor
                · intro h; omega
                · intro h; exact absurd h (by simp)
/-- a list of live members -/
def tg_G (L : Nat) (g : List Nat) : Prop := g.length ≤ 3 ∧ ∀ m, m ∈ g → m < 5 ∧ L.testBit m = true
theorem tg_G.lt {L : Nat} {g : List Nat} (h : tg_G L g) : ∀ m, m ∈ g → m < 5 := fun m hm => (h.2 m hm).1
theorem tg_getD {g : List Nat} {j : Nat} (h : j < g.length) : g.getD j 0 ∈ g := by
  rw [List.getD_eq_getElem?_getD, List.getElem?_eq_getElem h]
  exact List.getElem_mem h
theorem tg_getD_a {a : List Nat} {m : Nat} : (a ++ [m]).getD a.length 0 = m := by
  simp [List.getD_eq_getElem?_getD]
theorem tg_getD_l {a b : List Nat} {j : Nat} (h : j < a.length) : (a ++ b).getD j 0 = a.getD j 0 := by
  rw [List.getD_eq_getElem?_getD, List.getD_eq_getElem?_getD, List.getElem?_append_left h]
/-- g without m, by its first j places -/
def tg_fl (g : List Nat) (m : Nat) : Nat → List Nat
  | 0 => []
  | j + 1 => if j < g.length ∧ g.getD j 0 ≠ m then tg_fl g m j ++ [g.getD j 0] else tg_fl g m j
theorem tg_fl_len (g : List Nat) (m j : Nat) : (tg_fl g m j).length ≤ j := by
  induction j with
  | zero => exact Nat.le_refl 0
  | succ j ih =>
    unfold tg_fl
    split
    · rw [List.length_append, List.length_singleton]; omega
    · omega
theorem tg_fl_mem (g : List Nat) (m j : Nat) : ∀ x, x ∈ tg_fl g m j → x ∈ g ∧ x ≠ m := by
  induction j with
  | zero => intro x h; simp [tg_fl] at h
  | succ j ih =>
    intro x h
    unfold tg_fl at h
    split at h
    · rename_i c
      rw [List.mem_append, List.mem_singleton] at h
      cases h with
      | inl h => exact ih x h
      | inr h => rw [h]; exact ⟨tg_getD c.1, c.2⟩
    · exact ih x h
theorem tg_fl_big {g : List Nat} {m j : Nat} (h : g.length ≤ j) (d : Nat) : tg_fl g m (j + d) = tg_fl g m j := by
  induction d with
  | zero => rfl
  | succ d ih =>
    show (if j + d < g.length ∧ g.getD (j + d) 0 ≠ m then tg_fl g m (j + d) ++ [g.getD (j + d) 0] else tg_fl g m (j + d)) = _
    rw [if_neg (fun z => by omega), ih]
/-- the set of the first j places -/
def tg_st (g : List Nat) : Nat → Int32
  | 0 => 0
  | j + 1 => if j < g.length then tg_st g j ||| ((1 : Int32) <<< (nI (g.getD j 0) &&& 31)) else tg_st g j
theorem tg_st_big {g : List Nat} {j : Nat} (h : g.length ≤ j) (d : Nat) : tg_st g (j + d) = tg_st g j := by
  induction d with
  | zero => rfl
  | succ d ih =>
    show (if j + d < g.length then _ else tg_st g (j + d)) = _
    rw [if_neg (by omega), ih]
/-- the wanted list by its first i looks -/
def tg_w (p L b : Nat) : Nat → List Nat
  | 0 => []
  | i + 1 => if L.testBit ((p + i) % 5) = true ∧ (tg_w p L b i).length ≤ b then tg_w p L b i ++ [(p + i) % 5] else tg_w p L b i
theorem tg_w_mem (p L b i : Nat) : ∀ m, m ∈ tg_w p L b i → m < 5 ∧ L.testBit m = true := by
  induction i with
  | zero => intro x h; simp [tg_w] at h
  | succ i ih =>
    intro x h
    unfold tg_w at h
    split at h
    · rename_i c
      rw [List.mem_append, List.mem_singleton] at h
      cases h with
      | inl h => exact ih x h
      | inr h => rw [h]; exact ⟨Nat.mod_lt _ (by decide), c.1⟩
    · exact ih x h
theorem tg_w_len (p L b i : Nat) : (tg_w p L b i).length ≤ b + 1 := by
  induction i with
  | zero => simp [tg_w]
  | succ i ih =>
    unfold tg_w
    split
    · rename_i c; simp; omega
    · exact ih
theorem tg_w_G {p L b : Nat} (hb : b ≤ 2) (i : Nat) : tg_G L (tg_w p L b i) := ⟨by have := tg_w_len p L b i; omega, tg_w_mem p L b i⟩
theorem tg_w_0 : ∀ p, p < 6 → ∀ L, L < 32 → ∀ b, b < 3 → (tg_w p L b 5 = [] ↔ L = 0) := by decide +kernel
/-- live sets -/
def tg_del (L m : Nat) : Nat := if L.testBit m = true then L - 2 ^ m else L
theorem tg_in : ∀ L, L < 32 → ∀ m, m < 5 → (((nI L >>> (nI m &&& 31)) &&& 1) = 1 ↔ L.testBit m = true) := by decide +kernel
theorem tg_or : ∀ L, L < 32 → ∀ m, m < 5 → nI L ||| ((1 : Int32) <<< (nI m &&& 31)) = nI (L ||| 2 ^ m) := by decide +kernel
theorem tg_orb : ∀ L, L < 32 → ∀ m, m < 5 → (L ||| 2 ^ m) < 32 ∧ (L ||| 2 ^ m) ≠ 0 ∧ ∀ j, j < 5 → (L ||| 2 ^ m).testBit j = (decide (j = m) || L.testBit j) := by decide +kernel
theorem tg_an : ∀ L, L < 32 → ∀ m, m < 5 → nI L &&& (((1 : Int32) <<< (nI m &&& 31)) ^^^ (-1)) = nI (tg_del L m) := by decide +kernel
theorem tg_anb : ∀ L, L < 32 → ∀ m, m < 5 → tg_del L m < 32 ∧ ∀ j, j < 5 → (tg_del L m).testBit j = (!decide (j = m) && L.testBit j) := by decide +kernel
theorem tg_nz : ∀ L, L < 32 → L ≠ 0 → ∃ m, m < 5 ∧ L.testBit m = true := by
  intro L hL h
  have z : ∀ L, L < 32 → L = 0 ∨ L.testBit 0 = true ∨ L.testBit 1 = true ∨ L.testBit 2 = true ∨ L.testBit 3 = true ∨ L.testBit 4 = true := by decide +kernel
  rcases z L hL with e | e | e | e | e | e
  · exact absurd e h
  · exact ⟨0, by decide, e⟩
  · exact ⟨1, by decide, e⟩
  · exact ⟨2, by decide, e⟩
  · exact ⟨3, by decide, e⟩
  · exact ⟨4, by decide, e⟩
end
section
/-! 04: small walks, lists of members -/
section SM
variable {bk : Int32} {lv : Int32} {ds : Int32} {fk : Int32} {lo : Int32} {ex : Int32} {ht : Int32} {vt : Int32} {vv : Int64} {rc : Int32} {rr : Int64} {ls : Nat → Int32} {eT : Nat → Int32} {eV : Nat → Int64} {rN : Nat → Int32} {rC : Nat → Int32} {rR : Nat → Int64} {dO : Nat → Int32} {dC : Nat → Int64} {tS : Nat → Int32} {tO : Nat → Int32} {tC : Nat → Int64} {re : Nat → Int32} {qN : Nat → Int32} {qT : Nat → Int32} {qK : Nat → Int32} {qA : Nat → Int32} {an : Nat → Int32} {cR : Nat → Int64} {sk : Nat → Int64} {vh : Int32} {vw : Int64} {oc : Int64} {li : Nat → Int32} {ll : Nat → Int32} {sz : Nat → Int32} {va : Nat → Int64} {yo : Nat → Int32} {yg : Nat → Int64} {le : Nat → Int32} {pa : Nat → Int32} {st : Nat → Int64} {on : Nat → Int32} {wa : Nat → Int32}
theorem tx_isM1 {post : Int32 → Prop} {m : Nat} (hm : m < 5) (h : post 1) : wpX_isMember post (nI m) :=
  br_f (nI_pos (by omega)) (br_f (nI_ge (b := 5) hm (by decide)) h)
theorem tx_isM0 {post : Int32 → Prop} {x : Int32} (hx : x < 0 ∨ nI 5 ≤ x) (h : post 0) : wpX_isMember post x := by
  by_cases z : x < 0
  · exact br_t z h
  · exact br_f z (br_t (hx.resolve_left z) h)
theorem tx_isP1 {post : Int32 → Prop} {m : Nat} (hm : m < 6) (h : post 1) : wpX_isPartition post (nI m) :=
  br_f (nI_pos (by omega)) (br_f (nI_ge (b := 6) hm (by decide)) h)
theorem tx_isP0 {post : Int32 → Prop} {x : Int32} (hx : x < 0 ∨ nI 6 ≤ x) (h : post 0) : wpX_isPartition post x := by
  by_cases z : x < 0
  · exact br_t z h
  · exact br_f z (br_t (hx.resolve_left z) h)
theorem tx_isC1 {post : Int32 → Prop} {m : Nat} (hm : m < 3) (h : post 1) : wpX_isClient post (nI m) :=
  br_f (nI_pos (by omega)) (br_f (nI_ge (b := 3) hm (by decide)) h)
theorem tx_isC0 {post : Int32 → Prop} {x : Int32} (hx : x < 0 ∨ nI 3 ≤ x) (h : post 0) : wpX_isClient post x := by
  by_cases z : x < 0
  · exact br_t z h
  · exact br_f z (br_t (hx.resolve_left z) h)
theorem tx_isK1 {post : Int32 → Prop} {m : Nat} (hm : m < 18) (h : post 1) : wpX_isKey post (nI m) :=
  br_f (nI_pos (by omega)) (br_f (nI_ge (b := 18) hm (by decide)) h)
theorem tx_isK0 {post : Int32 → Prop} {x : Int32} (hx : x < 0 ∨ nI 18 ≤ x) (h : post 0) : wpX_isKey post x := by
  by_cases z : x < 0
  · exact br_t z h
  · exact br_f z (br_t (hx.resolve_left z) h)
theorem tx_in1 {post : Int32 → Prop} {L m : Nat} (hL : L < 32) (hm : m < 5) (ht : L.testBit m = true) (h : post 1) : wpX_isIn post (nI L) (nI m) :=
  br_t ((tg_in L hL m hm).mpr ht) h
theorem tx_in0 {post : Int32 → Prop} {L m : Nat} (hL : L < 32) (hm : m < 5) (ht : L.testBit m = false) (h : post 0) : wpX_isIn post (nI L) (nI m) :=
  br_f (fun z => by rw [(tg_in L hL m hm).mp z] at ht; exact absurd ht (by decide)) h
theorem tg_d1 : ¬ (1 : Int32) = 0 := by decide
theorem tg_d5 : ¬ (5 : Int32) = 0 := by decide
theorem tg_d6 : ¬ (6 : Int32) = 0 := by decide
theorem tg_vb0 : vp_nar .boolean 0 = 0 := by decide
theorem tg_vb1 : vp_nar .boolean 1 = 1 := by decide
theorem tg_nm1 : (-1 : Int32) < 0 := by decide
theorem tg_i8 : ∀ n, n < 128 → (nI n).toInt8.toInt32 = nI n := by decide +kernel
theorem tg_vB {n : Nat} (h : n < 128) : vp_nar .byte (nI n) = nI n := by rw [vp_nar_byte, tg_i8 n h]
theorem tg_vB2 {n : Nat} (h : n < 128) : vp_nar .byte (nI n).toInt8.toInt32 = nI n := by rw [tg_i8 n h, tg_vB h]
theorem tx_mem1 {post : Int32 → Prop} {g : List Nat} (hl : g.length ≤ 3) (hm : ∀ m, m ∈ g → m < 5) {j : Nat} (hj : j < g.length) (h : post (nI (g.getD j 0))) : wpX_memberAt post (nI (tg_pk g)) (nI j) := by
  have e := tg_mem hl hm j (by omega)
  unfold wpX_memberAt
  rw [e, show tg_at g j = nI (g.getD j 0) from if_pos hj]
  exact h
theorem tx_mem0 {post : Int32 → Prop} {g : List Nat} (hl : g.length ≤ 3) (hm : ∀ m, m ∈ g → m < 5) {j : Nat} (h3 : j < 3) (hj : ¬ j < g.length) (h : post (-1)) : wpX_memberAt post (nI (tg_pk g)) (nI j) := by
  have e := tg_mem hl hm j h3
  unfold wpX_memberAt
  rw [e, show tg_at g j = -1 from if_neg hj]
  exact h
theorem tx_wm {post : Int32 → Prop} {g : List Nat} (hl : g.length ≤ 2) (hm : ∀ m, m ∈ g → m < 5) {m : Nat} (h5 : m < 5) (h : post (nI (tg_pk (g ++ [m])))) : wpX_withMemberAt post (nI (tg_pk g)) (nI g.length) (nI m) := by
  unfold wpX_withMemberAt
  rw [tg_app hl hm m h5]
  exact h
theorem tx_fa {post : Int32 → Prop} {g : List Nat} (hl : g.length ≤ 3) (hm : ∀ m, m ∈ g → m < 5) (h : post (nI (tg_pk (g.take 1)))) : wpX_firstAlone post (nI (tg_pk g)) := by
  unfold wpX_firstAlone
  rw [tg_fst hl hm]
  exact h
theorem tg_fl_y {g : List Nat} {m j : Nat} (h : j < g.length ∧ g.getD j 0 ≠ m) : tg_fl g m (j + 1) = tg_fl g m j ++ [g.getD j 0] := if_pos h
theorem tg_fl_n {g : List Nat} {m j : Nat} (h : ¬ (j < g.length ∧ g.getD j 0 ≠ m)) : tg_fl g m (j + 1) = tg_fl g m j := if_neg h
theorem tx_lw_l {post : Int32 → Prop} {g : List Nat} (hl : g.length ≤ 3) (hm : ∀ m, m ∈ g → m < 5) {m : Nat} (h5 : m < 5) (h : post (nI (tg_pk (tg_fl g m 3)))) : ∀ d j n, j + d = 3 → d < n → wX_listWithout_7 post (nI (tg_pk g)) (nI m) n (nI (tg_pk (tg_fl g m j))) (nI (tg_fl g m j).length) (nI j) := by
  intro d
  induction d with
  | zero =>
    intro j n hj hn
    obtain ⟨n, rfl⟩ : ∃ k, n = k + 1 := ⟨n - 1, by omega⟩
    obtain rfl : j = 3 := by omega
    exact br_t (nI_le (a := 3) (b := 3) (by omega) (by decide)) h
  | succ d ih =>
    intro j n hj hn
    obtain ⟨n, rfl⟩ : ∃ k, n = k + 1 := ⟨n - 1, by omega⟩
    refine br_f (nI_ge (b := 3) (by omega) (by decide)) ?_
    have I := ih (j + 1) n (by omega) (by omega)
    by_cases c : j < g.length
    · have a5 := hm _ (tg_getD c)
      refine tx_mem1 hl hm c (br_f (nI_pos (by omega)) ?_)
      by_cases e : g.getD j 0 = m
      · rw [tg_fl_n (by omega)] at I
        exact br_t (by rw [e]) (nm_r (nI_1 _) I)
      · rw [tg_fl_y ⟨c, e⟩, List.length_append, List.length_singleton] at I
        have hlen := tg_fl_len g m j
        refine br_f (fun z => e ((nI_eq (by omega) (by omega)).mp z)) (tx_wm (by omega) (fun x hx => hm x (tg_fl_mem g m j x hx).1) a5 ?_)
        exact nm_r (nI_1 _) (nm_r (nI_1 _) I)
    · rw [tg_fl_n (by omega)] at I
      exact tx_mem0 hl hm (by omega) c (br_t tg_nm1 (nm_r (nI_1 _) I))
theorem tx_lw {post : Int32 → Prop} {g : List Nat} (hl : g.length ≤ 3) (hm : ∀ m, m ∈ g → m < 5) {m : Nat} (h5 : m < 5) (h : post (nI (tg_pk (tg_fl g m 3)))) : wpX_listWithout post (nI (tg_pk g)) (nI m) :=
  ⟨4, tx_lw_l hl hm h5 h 3 0 4 (by omega) (by omega)⟩
/-! the wanted list, X -/
theorem tg_w_y {p L b i : Nat} (h : L.testBit ((p + i) % 5) = true ∧ (tg_w p L b i).length ≤ b) : tg_w p L b (i + 1) = tg_w p L b i ++ [(p + i) % 5] := if_pos h
theorem tg_w_n {p L b i : Nat} (h : ¬ (L.testBit ((p + i) % 5) = true ∧ (tg_w p L b i).length ≤ b)) : tg_w p L b (i + 1) = tg_w p L b i := if_neg h
theorem tg_nf {x : Bool} (h : ¬ x = true) : x = false := by cases x with | true => exact absurd rfl h | false => rfl
theorem tx_wl_l {post : Int32 → Prop} {p L b : Nat} (hp : p < 6) (hL : L < 32) (hb : b ≤ 2) (h : post (nI (tg_pk (tg_w p L b 5)))) : ∀ d j n, j + d = 5 → d < n → wX_wantedList_8 post (nI p) (nI L) (nI b) lv ds fk lo ex ht vt vv rc rr ls eT eV rN rC rR dO dC tS tO tC re qN qT qK qA an cR sk n (nI (tg_pk (tg_w p L b j))) (nI (tg_w p L b j).length) (nI j) := by
  intro d
  induction d with
  | zero =>
    intro j n hj hn
    obtain ⟨n, rfl⟩ : ∃ k, n = k + 1 := ⟨n - 1, by omega⟩
    obtain rfl : j = 5 := by omega
    exact br_t (nI_le (a := 5) (b := 5) (by omega) (by decide)) h
  | succ d ih =>
    intro j n hj hn
    obtain ⟨n, rfl⟩ : ∃ k, n = k + 1 := ⟨n - 1, by omega⟩
    have I := ih (j + 1) n (by omega) (by omega)
    have e : (nI p + nI j) - (nI p + nI j) / 5 * 5 = nI ((p + j) % 5) := by
      rw [nI_add]; exact pk_rem (d := 5) (by omega) (by decide) (by decide)
    refine br_f (nI_ge (b := 5) (by omega) (by decide)) ⟨tg_d5, nm_r e ?_⟩
    have m5 : (p + j) % 5 < 5 := Nat.mod_lt _ (by decide)
    have hlen := tg_w_len p L b j
    by_cases c : L.testBit ((p + j) % 5) = true
    · refine tx_in1 hL m5 c (br_f tg_d1 ?_)
      by_cases s : (tg_w p L b j).length ≤ b
      · rw [tg_w_y ⟨c, s⟩, List.length_append, List.length_singleton] at I
        refine br_f (nI_nlt (by omega) (by omega)) (tx_wm (by omega) (fun x hx => (tg_w_mem p L b j x hx).1) m5 ?_)
        exact nm_r (nI_1 _) (nm_r (nI_1 _) I)
      · rw [tg_w_n (fun z => s z.2)] at I
        exact br_t (nI_lt (by omega) (by omega)) (nm_r (nI_1 _) I)
    · rw [tg_w_n (fun z => c z.1)] at I
      exact tx_in0 hL m5 (tg_nf c) (br_t rfl (nm_r (nI_1 _) I))
theorem tx_wl {post : Int32 → Prop} {p L b : Nat} (hp : p < 6) (hL : L < 32) (hb : b ≤ 2) (h : post (nI (tg_pk (tg_w p L b 5)))) : wpX_wantedList post ((nI b), lv, ds, fk, lo, ex, ht, vt, vv, rc, rr, ls, eT, eV, rN, rC, rR, dO, dC, tS, tO, tC, re, qN, qT, qK, qA, an, cR, sk) (nI p) (nI L) :=
  ⟨6, tx_wl_l hp hL hb h 5 0 6 (by omega) (by omega)⟩
/-! the set of a list, X -/
theorem tg_st_y {g : List Nat} {j : Nat} (h : j < g.length) : tg_st g (j + 1) = tg_st g j ||| ((1 : Int32) <<< (nI (g.getD j 0) &&& 31)) := if_pos h
theorem tg_st_n {g : List Nat} {j : Nat} (h : ¬ j < g.length) : tg_st g (j + 1) = tg_st g j := if_neg h
theorem tx_so_l {post : Int32 → Prop} {g : List Nat} (hl : g.length ≤ 3) (hm : ∀ m, m ∈ g → m < 5) (h : post (tg_st g 3)) : ∀ d j n, j + d = 3 → d < n → wX_setOf_4 post (nI (tg_pk g)) n (tg_st g j) (nI j) := by
  intro d
  induction d with
  | zero =>
    intro j n hj hn
    obtain ⟨n, rfl⟩ : ∃ k, n = k + 1 := ⟨n - 1, by omega⟩
    obtain rfl : j = 3 := by omega
    exact br_t (nI_le (a := 3) (b := 3) (by omega) (by decide)) h
  | succ d ih =>
    intro j n hj hn
    obtain ⟨n, rfl⟩ : ∃ k, n = k + 1 := ⟨n - 1, by omega⟩
    refine br_f (nI_ge (b := 3) (by omega) (by decide)) ?_
    have I := ih (j + 1) n (by omega) (by omega)
    by_cases c : j < g.length
    · have a5 := hm _ (tg_getD c)
      rw [tg_st_y c] at I
      exact tx_mem1 hl hm c (br_f (nI_pos (by omega)) (nm_e (nm_r (nI_1 _) I)))
    · rw [tg_st_n c] at I
      exact tx_mem0 hl hm (by omega) c (br_t tg_nm1 (nm_r (nI_1 _) I))
theorem tx_so {post : Int32 → Prop} {g : List Nat} (hl : g.length ≤ 3) (hm : ∀ m, m ∈ g → m < 5) (h : post (tg_st g 3)) : wpX_setOf post (nI (tg_pk g)) :=
  ⟨4, tx_so_l hl hm h 3 0 4 (by omega) (by omega)⟩
end SM
end
section
/-! 05: X: partitions lost, members that go -/
def tg_e3 (a : Nat → Int32) (p : Nat) : Nat → Int32 := upd (upd (upd a p 0) (p + 6) 0) (p + 12) 0
def tg_v3 (a : Nat → Int64) (p : Nat) : Nat → Int64 := vp_updL (vp_updL (vp_updL a p 0) (p + 6) 0) (p + 12) 0
def tg_n3 (a : Nat → Int32) (p : Nat) : Nat → Int32 := upd (upd (upd a (3 * p) 0) (3 * p + 1) 0) (3 * p + 2) 0
theorem tg_u {f : Nat → Int32} {x v w : Int32} {n : Nat} (e : x = nI n) (hn : n < 2 ^ 31) (ev : v = w) : upd f x.toNatClampNeg v = upd f n w := by
  rw [e, nI_clamp hn, ev]
theorem tg_uL {f : Nat → Int64} {x : Int32} {v w : Int64} {n : Nat} (e : x = nI n) (hn : n < 2 ^ 31) (ev : v = w) : vp_updL f x.toNatClampNeg v = vp_updL f n w := by
  rw [e, nI_clamp hn, ev]
theorem tg_vi {x : Int32} {n N : Nat} (e : x = nI n) (h : n < N) (hN : N < 2 ^ 31) : vp_in x N := by
  rw [e]; exact vp_in_nI h hN
theorem tg_rd {f : Nat → Int32} {x : Int32} {n : Nat} (e : x = nI n) (hn : n < 2 ^ 31) : f x.toNatClampNeg = f n := by
  rw [e, nI_clamp hn]
theorem tg_rdL {f : Nat → Int64} {x : Int32} {n : Nat} (e : x = nI n) (hn : n < 2 ^ 31) : f x.toNatClampNeg = f n := by
  rw [e, nI_clamp hn]
theorem tg_i3 (p j : Nat) : nI p * 3 + nI j = nI (3 * p + j) := by
  have e : nI p * 3 = nI (p * 3) := pk_mul p 3
  rw [e, nI_add, Nat.mul_comm]
theorem tg_3i (p j : Nat) : 3 * nI p + nI j = nI (3 * p + j) := by
  have e : 3 * nI p = nI (3 * p) := pk_mul 3 p
  rw [e, nI_add]
theorem tg_5i (p j : Nat) : 5 * nI p + nI j = nI (5 * p + j) := by
  have e : 5 * nI p = nI (5 * p) := pk_mul 5 p
  rw [e, nI_add]
theorem tg_5p (p : Nat) : 5 * nI p = nI (5 * p) := pk_mul 5 p
theorem tg_p6 (p : Nat) : nI p + 6 = nI (p + 6) := nI_add p 6
section XC
variable {bk : Int32} {lv : Int32} {ds : Int32} {fk : Int32} {lo : Int32} {ex : Int32} {ht : Int32} {vt : Int32} {vv : Int64} {rc : Int32} {rr : Int64} {ls : Nat → Int32} {eT : Nat → Int32} {eV : Nat → Int64} {rN : Nat → Int32} {rC : Nat → Int32} {rR : Nat → Int64} {dO : Nat → Int32} {dC : Nat → Int64} {tS : Nat → Int32} {tO : Nat → Int32} {tC : Nat → Int64} {re : Nat → Int32} {qN : Nat → Int32} {qT : Nat → Int32} {qK : Nat → Int32} {qA : Nat → Int32} {an : Nat → Int32} {cR : Nat → Int64} {sk : Nat → Int64} {vh : Int32} {vw : Int64} {oc : Int64} {li : Nat → Int32} {ll : Nat → Int32} {sz : Nat → Int32} {va : Nat → Int64} {yo : Nat → Int32} {yg : Nat → Int64} {le : Nat → Int32} {pa : Nat → Int32} {st : Nat → Int64} {on : Nat → Int32} {wa : Nat → Int32}
theorem tx_lose {post : SX → Prop} {p L b : Nat} (hp : p < 6) (hL : L < 32) (hb : b ≤ 2)
    (h : post ((nI b), (nI L), ds, fk, (lo + 1), ex, ht, vt, vv, rc, rr, (upd ls p (nI (tg_pk ((tg_w p L b 5).take 1)))), (tg_e3 eT p), (tg_v3 eV p), (tg_n3 rN p), rC, rR, dO, dC, tS, tO, tC, re, qN, qT, qK, qA, an, cR, sk)) :
    wpX_losePartition post ((nI b), (nI L), ds, fk, lo, ex, ht, vt, vv, rc, rr, ls, eT, eV, rN, rC, rR, dO, dC, tS, tO, tC, re, qN, qT, qK, qA, an, cR, sk) (nI p) := by
  have G := tg_w_G (p := p) (L := L) hb 5
  refine nm_e ⟨4, ?_⟩
  refine br_f (nI_ge (b := 18) (by omega) (by decide)) ⟨tg_vi rfl (by omega) (by decide), nm_r (tg_u rfl (by omega) tg_vb0) ⟨tg_vi rfl (by omega) (by decide), nm_r (tg_uL rfl (by omega) rfl) (nm_r (tg_p6 _) ?_)⟩⟩
  refine br_f (nI_ge (b := 18) (by omega) (by decide)) ⟨tg_vi rfl (by omega) (by decide), nm_r (tg_u rfl (by omega) tg_vb0) ⟨tg_vi rfl (by omega) (by decide), nm_r (tg_uL rfl (by omega) rfl) (nm_r (tg_p6 _) ?_)⟩⟩
  refine br_f (nI_ge (b := 18) (by omega) (by decide)) ⟨tg_vi rfl (by omega) (by decide), nm_r (tg_u rfl (by omega) tg_vb0) ⟨tg_vi rfl (by omega) (by decide), nm_r (tg_uL rfl (by omega) rfl) (nm_r (tg_p6 _) ?_)⟩⟩
  refine br_t (nI_le (a := 18) (by omega) (by omega)) ⟨4, ?_⟩
  refine br_f (by decide) ⟨tg_vi (tg_i3 p 0) (by omega) (by decide), nm_r (tg_u (tg_i3 p 0) (by omega) rfl) (nm_r (nI_1 0) ?_)⟩
  refine br_f (by decide) ⟨tg_vi (tg_i3 p 1) (by omega) (by decide), nm_r (tg_u (tg_i3 p 1) (by omega) rfl) (nm_r (nI_1 1) ?_)⟩
  refine br_f (by decide) ⟨tg_vi (tg_i3 p 2) (by omega) (by decide), nm_r (tg_u (tg_i3 p 2) (by omega) rfl) (nm_r (nI_1 2) ?_)⟩
  refine br_t (by decide) (tx_wl hp hL hb (tx_fa G.1 G.lt ⟨vp_in_nI hp (by decide), nm_r (tg_u rfl (by omega) rfl) ?_⟩))
  exact h
/-- what a member's going does, pure -/
def tg_lz (g : Nat → List Nat) (m : Nat) (p : Nat) : Bool := (tg_fl (g p) m 3).isEmpty
def tg_g' (g : Nat → List Nat) (m L b : Nat) (p : Nat) : List Nat := if tg_lz g m p = true then (tg_w p L b 5).take 1 else tg_fl (g p) m 3
def tg_dE (z : Nat → Bool) (a : Nat → Int32) : Nat → Nat → Int32
  | 0 => a
  | p + 1 => if z p = true then tg_e3 (tg_dE z a p) p else tg_dE z a p
def tg_dV (z : Nat → Bool) (a : Nat → Int64) : Nat → Nat → Int64
  | 0 => a
  | p + 1 => if z p = true then tg_v3 (tg_dV z a p) p else tg_dV z a p
def tg_dN (z : Nat → Bool) (a : Nat → Int32) : Nat → Nat → Int32
  | 0 => a
  | p + 1 => if z p = true then tg_n3 (tg_dN z a p) p else tg_dN z a p
def tg_dL (z : Nat → Bool) (a : Int32) : Nat → Int32
  | 0 => a
  | p + 1 => if z p = true then tg_dL z a p + 1 else tg_dL z a p
def tg_LX (g : Nat → List Nat) (ls : Nat → Int32) : Prop := ∀ p, p < 6 → ls p = nI (tg_pk (g p))
def tg_LY (g : Nat → List Nat) (ll sz : Nat → Int32) : Prop := ∀ p, p < 6 → sz p = nI (g p).length ∧ ∀ j, j < (g p).length → ll (5 * p + j) = nI ((g p).getD j 0)
def tg_LI (L : Nat) (li : Nat → Int32) : Prop := ∀ m, m < 5 → li m = if L.testBit m = true then 1 else 0
def tg_mix (p : Nat) (g' g : Nat → List Nat) (q : Nat) : List Nat := if q < p then g' q else g q
theorem tg_mix_lt {p q : Nat} {g' g : Nat → List Nat} (h : q < p) : tg_mix p g' g q = g' q := if_pos h
theorem tg_mix_ge {p q : Nat} {g' g : Nat → List Nat} (h : ¬ q < p) : tg_mix p g' g q = g q := if_neg h
theorem tg_lx_s {p : Nat} {g' g : Nat → List Nat} {ls : Nat → Int32} {v : Int32} (h : tg_LX (tg_mix p g' g) ls) (hv : v = nI (tg_pk (g' p))) : tg_LX (tg_mix (p + 1) g' g) (upd ls p v) := by
  intro q hq
  by_cases e : q = p
  · subst e
    rw [pk_us, tg_mix_lt (by omega)]
    exact hv
  · rw [pk_un e, h q hq]
    by_cases z : q < p
    · rw [tg_mix_lt z, tg_mix_lt (by omega)]
    · rw [tg_mix_ge z, tg_mix_ge (by omega)]
theorem tg_uu {f : Nat → Int32} {k : Nat} {x y : Int32} : upd (upd f k x) k y = upd f k y := by
  funext j
  unfold upd
  by_cases e : j = k
  · rw [if_pos e, if_pos e]
  · rw [if_neg e, if_neg e, if_neg e]
theorem tg_lz_t {g : Nat → List Nat} {m p : Nat} (h : tg_fl (g p) m 3 = []) : tg_lz g m p = true := by unfold tg_lz; rw [h]; rfl
theorem tg_lz_f {g : Nat → List Nat} {m p : Nat} (h : ¬ tg_fl (g p) m 3 = []) : ¬ tg_lz g m p = true := by
  intro z; unfold tg_lz at z; exact h (List.isEmpty_iff.mp z)
theorem tx_dr_l {post : SX → Prop} {m L b : Nat} {g : Nat → List Nat} (hm : m < 5) (hL : L < 32) (hb : b ≤ 2)
    (hg : ∀ p, p < 6 → (g p).length ≤ 3 ∧ ∀ x, x ∈ g p → x < 5)
    (h : ∀ ls, tg_LX (tg_g' g m L b) ls → post ((nI b), (nI L), ds, fk, (tg_dL (tg_lz g m) lo 6), ex, ht, vt, vv, rc, rr, ls, (tg_dE (tg_lz g m) eT 6), (tg_dV (tg_lz g m) eV 6), (tg_dN (tg_lz g m) rN 6), rC, rR, dO, dC, tS, tO, tC, re, qN, qT, qK, qA, an, cR, sk)) :
    ∀ d p n ls, p + d = 6 → d < n → tg_LX (tg_mix p (tg_g' g m L b) g) ls → wX_dropOut_16 post (nI m) n (nI p) (nI b) (nI L) ds fk (tg_dL (tg_lz g m) lo p) ex ht vt vv rc rr ls (tg_dE (tg_lz g m) eT p) (tg_dV (tg_lz g m) eV p) (tg_dN (tg_lz g m) rN p) rC rR dO dC tS tO tC re qN qT qK qA an cR sk := by
  intro d
  induction d with
  | zero =>
    intro p n ls hp hn hls
    obtain ⟨n, rfl⟩ : ∃ k, n = k + 1 := ⟨n - 1, by omega⟩
    obtain rfl : p = 6 := by omega
    refine br_t (nI_le (a := 6) (b := 6) (by omega) (by decide)) (h ls ?_)
    intro q hq
    rw [hls q hq, tg_mix_lt hq]
  | succ d ih =>
    intro p n ls hp hn hls
    obtain ⟨n, rfl⟩ : ∃ k, n = k + 1 := ⟨n - 1, by omega⟩
    have p6 : p < 6 := by omega
    have cl : (nI p).toNatClampNeg = p := nI_clamp (by omega)
    have hp0 := hls p p6
    rw [tg_mix_ge (by omega)] at hp0
    refine br_f (nI_ge (b := 6) (by omega) (by decide)) ⟨vp_in_nI p6 (by decide), ?_⟩
    rw [cl, hp0]
    refine tx_lw (hg p p6).1 (hg p p6).2 hm ⟨vp_in_nI p6 (by decide), nm_e ⟨vp_in_nI p6 (by decide), ?_⟩⟩
    rw [pk_us]
    have hm5 : ∀ x, x ∈ tg_fl (g p) m 3 → x < 5 := fun x hx => (hg p p6).2 x (tg_fl_mem _ _ _ x hx).1
    have pl := tg_pk_lt (tg_fl_len (g p) m 3) hm5
    by_cases c : tg_fl (g p) m 3 = []
    · have z := tg_lz_t (g := g) c
      have I := ih (p + 1) n (upd ls p (nI (tg_pk ((tg_w p L b 5).take 1)))) (by omega) (by omega) (tg_lx_s hls (by unfold tg_g'; rw [if_pos z]))
      unfold tg_dL tg_dE tg_dV tg_dN at I
      rw [if_pos z, if_pos z, if_pos z, if_pos z] at I
      refine br_t (by rw [c]; rfl) (tx_lose p6 hL hb (nm_r (nI_1 p) ?_))
      rw [tg_uu]
      exact I
    · have z := tg_lz_f (g := g) c
      have I := ih (p + 1) n (upd ls p (nI (tg_pk (tg_fl (g p) m 3)))) (by omega) (by omega) (tg_lx_s hls (by unfold tg_g'; rw [if_neg z]))
      unfold tg_dL tg_dE tg_dV tg_dN at I
      rw [if_neg z, if_neg z, if_neg z, if_neg z] at I
      refine br_f (fun e => c (tg_pk_0.mp ((nI_eq (b := 0) (by omega) (by decide)).mp e))) (nm_r (nI_1 p) I)
theorem tx_dr {post : SX → Prop} {m L b : Nat} {g : Nat → List Nat} (hm : m < 5) (hL : L < 32) (hb : b ≤ 2)
    (hg : ∀ p, p < 6 → (g p).length ≤ 3 ∧ ∀ x, x ∈ g p → x < 5) (hls : tg_LX g ls)
    (h : ∀ ls, tg_LX (tg_g' g m (tg_del L m) b) ls → post ((nI b), (nI (tg_del L m)), ds, fk, (tg_dL (tg_lz g m) lo 6), ex, ht, vt, vv, rc, rr, ls, (tg_dE (tg_lz g m) eT 6), (tg_dV (tg_lz g m) eV 6), (tg_dN (tg_lz g m) rN 6), rC, rR, dO, dC, tS, tO, tC, re, qN, qT, qK, qA, an, cR, sk)) :
    wpX_dropOut post ((nI b), (nI L), ds, fk, lo, ex, ht, vt, vv, rc, rr, ls, eT, eV, rN, rC, rR, dO, dC, tS, tO, tC, re, qN, qT, qK, qA, an, cR, sk) (nI m) := by
  refine nm_r (tg_an L hL m hm) ⟨7, ?_⟩
  exact tx_dr_l hm (tg_anb L hL m hm).1 hb hg h 6 0 7 ls (by omega) (by omega) (fun q hq => by rw [tg_mix_ge (by omega)]; exact hls q hq)
end XC
end
section
/-! 06: Y: wanted lists, partitions lost, members that go -/
section YC
variable {bk : Int32} {lv : Int32} {ds : Int32} {fk : Int32} {lo : Int32} {ex : Int32} {ht : Int32} {vt : Int32} {vv : Int64} {rc : Int32} {rr : Int64} {ls : Nat → Int32} {eT : Nat → Int32} {eV : Nat → Int64} {rN : Nat → Int32} {rC : Nat → Int32} {rR : Nat → Int64} {dO : Nat → Int32} {dC : Nat → Int64} {tS : Nat → Int32} {tO : Nat → Int32} {tC : Nat → Int64} {re : Nat → Int32} {qN : Nat → Int32} {qT : Nat → Int32} {qK : Nat → Int32} {qA : Nat → Int32} {an : Nat → Int32} {cR : Nat → Int64} {sk : Nat → Int64} {vh : Int32} {vw : Int64} {oc : Int64} {li : Nat → Int32} {ll : Nat → Int32} {sz : Nat → Int32} {va : Nat → Int64} {yo : Nat → Int32} {yg : Nat → Int64} {le : Nat → Int32} {pa : Nat → Int32} {st : Nat → Int64} {on : Nat → Int32} {wa : Nat → Int32}
def tg_WA (w : List Nat) (wa : Nat → Int32) : Prop := ∀ j, j < w.length → wa j = nI (w.getD j 0)
theorem tg_WA_s {w : List Nat} {wa : Nat → Int32} {m : Nat} {v : Int32} (h : tg_WA w wa) (hv : v = nI m) : tg_WA (w ++ [m]) (upd wa w.length v) := by
  intro j hj
  rw [List.length_append, List.length_singleton] at hj
  by_cases e : j = w.length
  · subst e
    rw [pk_us, tg_getD_a, hv]
  · rw [pk_un e, tg_getD_l (by omega)]
    exact h j (by omega)
theorem ty_wt_l {post : Int32 → SY → Prop} {p L b : Nat} {x2 : Int32} (hp : p < 6) (hb : b ≤ 2)
    (hq : ∀ m, m < 5 → (L.testBit m = true ↔ (¬ li m = 0 ∧ ¬ nI m = x2)))
    (h : ∀ wa, tg_WA (tg_w p L b 5) wa → post (nI (tg_w p L b 5).length) ((nI b), fk, lo, ex, vh, vw, oc, li, ll, sz, eT, va, rN, rC, rR, yo, yg, le, pa, st, qN, qT, qK, qA, on, cR, wa)) :
    ∀ d j n wa, j + d = 5 → d < n → tg_WA (tg_w p L b j) wa → wY_want_5 post (nI p) x2 (nI b) fk lo ex vh vw oc n (nI (tg_w p L b j).length) (nI j) li ll sz eT va rN rC rR yo yg le pa st qN qT qK qA on cR wa := by
  intro d
  induction d with
  | zero =>
    intro j n wa hj hn hw
    obtain ⟨n, rfl⟩ : ∃ k, n = k + 1 := ⟨n - 1, by omega⟩
    obtain rfl : j = 5 := by omega
    exact br_t (nI_le (a := 5) (b := 5) (by omega) (by decide)) (h wa hw)
  | succ d ih =>
    intro j n wa hj hn hw
    obtain ⟨n, rfl⟩ : ∃ k, n = k + 1 := ⟨n - 1, by omega⟩
    have e : (nI p + nI j) - (nI p + nI j) / 5 * 5 = nI ((p + j) % 5) := by
      rw [nI_add]; exact pk_rem (d := 5) (by omega) (by decide) (by decide)
    have m5 : (p + j) % 5 < 5 := Nat.mod_lt _ (by decide)
    have cl : (nI ((p + j) % 5)).toNatClampNeg = (p + j) % 5 := nI_clamp (by omega)
    have hlen := tg_w_len p L b j
    refine br_f (nI_ge (b := 5) (by omega) (by decide)) ⟨tg_d5, nm_r e ⟨vp_in_nI m5 (by decide), ?_⟩⟩
    rw [cl]
    by_cases c : L.testBit ((p + j) % 5) = true
    · have c2 := (hq _ m5).mp c
      refine br_f c2.1 (br_f c2.2 ?_)
      by_cases s : (tg_w p L b j).length ≤ b
      · have I := ih (j + 1) n (upd wa (tg_w p L b j).length (nI ((p + j) % 5))) (by omega) (by omega) (by rw [tg_w_y ⟨c, s⟩]; exact tg_WA_s hw rfl)
        rw [tg_w_y ⟨c, s⟩, List.length_append, List.length_singleton] at I
        exact br_f (nI_nlt (by omega) (by omega)) (nm_r (nI_1 _) ⟨vp_in_nI (by omega) (by decide), nm_r (tg_u rfl (by omega) (tg_vB2 (by omega))) (nm_r (nI_1 _) I)⟩)
      · have I := ih (j + 1) n wa (by omega) (by omega) (by rw [tg_w_n (fun z => s z.2)]; exact hw)
        rw [tg_w_n (fun z => s z.2)] at I
        exact br_t (nI_lt (by omega) (by omega)) (nm_r (nI_1 _) I)
    · have I := ih (j + 1) n wa (by omega) (by omega) (by rw [tg_w_n (fun z => c z.1)]; exact hw)
      rw [tg_w_n (fun z => c z.1)] at I
      by_cases y : li ((p + j) % 5) = 0
      · exact br_t y (nm_r (nI_1 _) I)
      · by_cases y2 : nI ((p + j) % 5) = x2
        · exact br_f y (br_t y2 (nm_r (nI_1 _) I))
        · exact absurd ((hq _ m5).mpr ⟨y, y2⟩) c
theorem ty_wt {post : Int32 → SY → Prop} {p L b : Nat} {x2 : Int32} (hp : p < 6) (hb : b ≤ 2)
    (hq : ∀ m, m < 5 → (L.testBit m = true ↔ (¬ li m = 0 ∧ ¬ nI m = x2)))
    (h : ∀ wa, tg_WA (tg_w p L b 5) wa → post (nI (tg_w p L b 5).length) ((nI b), fk, lo, ex, vh, vw, oc, li, ll, sz, eT, va, rN, rC, rR, yo, yg, le, pa, st, qN, qT, qK, qA, on, cR, wa)) :
    wpY_want post ((nI b), fk, lo, ex, vh, vw, oc, li, ll, sz, eT, va, rN, rC, rR, yo, yg, le, pa, st, qN, qT, qK, qA, on, cR, wa) (nI p) x2 :=
  ⟨6, ty_wt_l hp hb hq h 5 0 6 wa (by omega) (by omega) (fun j hj => absurd hj (by simp [tg_w]))⟩
theorem tg_ne1 {m : Nat} (h : m < 5) : ¬ nI m = -1 := by
  intro e
  have := nI_pos (n := m) (by omega)
  rw [e] at this
  exact this tg_nm1
theorem tg_LI_q {L : Nat} {li : Nat → Int32} (h : tg_LI L li) : ∀ m, m < 5 → (L.testBit m = true ↔ (¬ li m = 0 ∧ ¬ nI m = -1)) := by
  intro m hm
  rw [h m hm]
  by_cases c : L.testBit m = true
  · rw [if_pos c]; exact ⟨fun _ => ⟨tg_d1, tg_ne1 hm⟩, fun _ => c⟩
  · rw [if_neg c]; exact ⟨fun z => absurd z c, fun z => absurd rfl z.1⟩
theorem tg_LI_d {L m0 : Nat} {li : Nat → Int32} (hL : L < 32) (h0 : m0 < 5) (h : tg_LI L li) : ∀ m, m < 5 → ((tg_del L m0).testBit m = true ↔ (¬ li m = 0 ∧ ¬ nI m = nI m0)) := by
  intro m hm
  rw [h m hm, (tg_anb L hL m0 h0).2 m hm, nI_eq (by omega) (by omega)]
  by_cases c : L.testBit m = true
  · rw [if_pos c, c]
    by_cases e : m = m0
    · simp [e]
    · simp [e]
  · rw [if_neg c, tg_nf c]; simp
theorem tg_LI_u {L m0 : Nat} {li : Nat → Int32} (hL : L < 32) (h0 : m0 < 5) (h : tg_LI L li) : tg_LI (tg_del L m0) (upd li m0 0) := by
  intro m hm
  rw [(tg_anb L hL m0 h0).2 m hm]
  by_cases e : m = m0
  · subst e; rw [pk_us]; simp
  · rw [pk_un e, h m hm]; simp [e]
theorem tg_LI_o {L m0 : Nat} {li : Nat → Int32} (hL : L < 32) (h0 : m0 < 5) (h : tg_LI L li) : tg_LI (L ||| 2 ^ m0) (upd li m0 1) := by
  intro m hm
  rw [(tg_orb L hL m0 h0).2.2 m hm]
  by_cases e : m = m0
  · subst e; rw [pk_us]; simp
  · rw [pk_un e, h m hm]; simp [e]
/-- Y's new list of a lost partition -/
def tg_n1 (w : List Nat) (p : Nat) (wa ll : Nat → Int32) : Nat → Int32 := if w = [] then ll else upd ll (5 * p) (wa 0)
def tg_s1 (w : List Nat) (p : Nat) (sz : Nat → Int32) : Nat → Int32 := if w = [] then sz else upd sz p 1
theorem tg_len0 {w : List Nat} (h : ¬ w = []) : 0 < w.length := List.length_pos_iff.mpr h
theorem ty_lose {post : SY → Prop} {p L b : Nat} (hp : p < 6) (hL : L < 32) (hb : b ≤ 2) (hli : tg_LI L li)
    (h : ∀ wa, tg_WA (tg_w p L b 5) wa → post ((nI b), fk, (lo + 1), ex, vh, vw, oc, li, (tg_n1 (tg_w p L b 5) p wa ll), (tg_s1 (tg_w p L b 5) p sz), (tg_e3 eT p), va, (tg_n3 rN p), rC, rR, yo, yg, le, pa, st, qN, qT, qK, qA, on, cR, wa)) :
    wpY_lose post ((nI b), fk, lo, ex, vh, vw, oc, li, ll, sz, eT, va, rN, rC, rR, yo, yg, le, pa, st, qN, qT, qK, qA, on, cR, wa) (nI p) := by
  have G := tg_w_G (p := p) (L := L) hb 5
  refine nm_e ⟨4, ?_⟩
  refine br_f (nI_ge (b := 18) (by omega) (by decide)) ⟨tg_vi rfl (by omega) (by decide), nm_r (tg_u rfl (by omega) tg_vb0) (nm_r (tg_p6 _) ?_)⟩
  refine br_f (nI_ge (b := 18) (by omega) (by decide)) ⟨tg_vi rfl (by omega) (by decide), nm_r (tg_u rfl (by omega) tg_vb0) (nm_r (tg_p6 _) ?_)⟩
  refine br_f (nI_ge (b := 18) (by omega) (by decide)) ⟨tg_vi rfl (by omega) (by decide), nm_r (tg_u rfl (by omega) tg_vb0) (nm_r (tg_p6 _) ?_)⟩
  refine br_t (nI_le (a := 18) (by omega) (by omega)) ⟨4, ?_⟩
  refine br_f (by decide) ⟨tg_vi (tg_3i p 0) (by omega) (by decide), nm_r (tg_u (tg_3i p 0) (by omega) rfl) (nm_r (nI_1 0) ?_)⟩
  refine br_f (by decide) ⟨tg_vi (tg_3i p 1) (by omega) (by decide), nm_r (tg_u (tg_3i p 1) (by omega) rfl) (nm_r (nI_1 1) ?_)⟩
  refine br_f (by decide) ⟨tg_vi (tg_3i p 2) (by omega) (by decide), nm_r (tg_u (tg_3i p 2) (by omega) rfl) (nm_r (nI_1 2) ?_)⟩
  refine br_t (by decide) (ty_wt hp hb (tg_LI_q hli) (fun wa hw => ?_))
  have H := h wa hw
  by_cases c : tg_w p L b 5 = []
  · unfold tg_n1 tg_s1 at H
    rw [if_pos c, if_pos c] at H
    exact br_t (by rw [c]; rfl) H
  · unfold tg_n1 tg_s1 at H
    rw [if_neg c, if_neg c] at H
    have l0 := tg_len0 c
    have gl := G.1
    have w0 := hw 0 l0
    have m0 := G.lt _ (tg_getD l0)
    refine br_f (fun z => ?_) ⟨tg_vi (tg_5p p) (by omega) (by decide), nm_r (tg_u (w := wa 0) (tg_5p p) (by omega) (by rw [w0]; exact tg_vB (by omega))) ⟨vp_in_nI hp (by decide), nm_r (tg_u rfl (by omega) (tg_vB (n := 1) (by decide))) ?_⟩⟩
    · have := (nI_eq (a := (tg_w p L b 5).length) (b := 0) (by omega) (by decide)).mp z
      omega
    · exact H
/-- one partition's list without m, in place -/
def tg_IP (g : List Nat) (m p k : Nat) (l0 ll : Nat → Int32) : Prop :=
  (∀ j, j < (tg_fl g m k).length → ll (5 * p + j) = nI ((tg_fl g m k).getD j 0)) ∧ (∀ j, k ≤ j → j < g.length → ll (5 * p + j) = nI (g.getD j 0)) ∧ ∀ q, q < 5 * p ∨ 5 * p + 5 ≤ q → ll q = l0 q
theorem ty_cp_l {post : SY → Prop} {J : Int32 → Int32 → Int32 → Int32 → Int32 → Int32 → Int64 → Int64 → (Nat → Int32) → (Nat → Int32) → (Nat → Int32) → (Nat → Int32) → (Nat → Int64) → (Nat → Int32) → (Nat → Int32) → (Nat → Int64) → (Nat → Int32) → (Nat → Int64) → (Nat → Int32) → (Nat → Int32) → (Nat → Int64) → (Nat → Int32) → (Nat → Int32) → (Nat → Int32) → (Nat → Int32) → (Nat → Int32) → (Nat → Int64) → (Nat → Int32) → Prop} {g : List Nat} {m p : Nat} {l0 : Nat → Int32} (hp : p < 6) (hm : m < 5) (hl : g.length ≤ 3) (h5 : ∀ x, x ∈ g → x < 5) (hsz : sz p = nI g.length)
    (h : ∀ ll n, tg_IP g m p 3 l0 ll → wY_dropOut_20 post J (nI m) (nI p) bk fk lo ex vh vw oc (n + 1) (nI (tg_fl g m 3).length) (nI g.length) li ll sz eT va rN rC rR yo yg le pa st qN qT qK qA on cR wa) :
    ∀ d k n ll, k + d = g.length → d < n → tg_IP g m p k l0 ll → wY_dropOut_20 post J (nI m) (nI p) bk fk lo ex vh vw oc n (nI (tg_fl g m k).length) (nI k) li ll sz eT va rN rC rR yo yg le pa st qN qT qK qA on cR wa := by
  intro d
  induction d with
  | zero =>
    intro k n ll hk hn hI
    obtain ⟨n, rfl⟩ : ∃ k, n = k + 1 := ⟨n - 1, by omega⟩
    obtain rfl : k = g.length := by omega
    have e : tg_fl g m 3 = tg_fl g m g.length := by
      have := tg_fl_big (m := m) (Nat.le_refl g.length) (3 - g.length)
      rwa [show g.length + (3 - g.length) = 3 from by omega] at this
    have H := h ll n ⟨by rw [e]; exact hI.1, fun j h1 h2 => by omega, hI.2.2⟩
    rw [e] at H
    exact H
  | succ d ih =>
    intro k n ll hk hn hI
    obtain ⟨n, rfl⟩ : ∃ k, n = k + 1 := ⟨n - 1, by omega⟩
    have cl : (nI p).toNatClampNeg = p := nI_clamp (by omega)
    have ck : (5 * nI p + nI k).toNatClampNeg = 5 * p + k := by rw [tg_5i, nI_clamp (by omega)]
    have hk2 : k < g.length := by omega
    have lk := hI.2.1 k (Nat.le_refl k) hk2
    have a5 := h5 _ (tg_getD hk2)
    have hlen := tg_fl_len g m k
    refine ⟨vp_in_nI hp (by decide), br_f ?_ ⟨tg_vi (tg_5i p k) (by omega) (by decide), ?_⟩⟩
    · rw [cl, hsz]; exact nI_ge hk2 (by omega)
    rw [ck, lk]
    by_cases e : g.getD k 0 = m
    · have I := ih (k + 1) n ll (by omega) (by omega) ⟨by rw [tg_fl_n (by omega)]; exact hI.1, fun j h1 h2 => hI.2.1 j (by omega) h2, hI.2.2⟩
      rw [tg_fl_n (by omega)] at I
      exact br_t (by rw [e]) (nm_r (nI_1 _) I)
    · have y := tg_fl_y (m := m) (j := k) ⟨hk2, e⟩
      have I := ih (k + 1) n (upd ll (5 * p + (tg_fl g m k).length) (nI (g.getD k 0))) (by omega) (by omega) (by
        refine ⟨?_, ?_, ?_⟩
        · rw [y]
          intro j hj
          rw [List.length_append, List.length_singleton] at hj
          by_cases z : j = (tg_fl g m k).length
          · rw [z, pk_us, tg_getD_a]
          · rw [pk_un (by omega), tg_getD_l (by omega)]
            exact hI.1 j (by omega)
        · intro j h1 h2
          rw [pk_un (by omega)]
          exact hI.2.1 j (by omega) h2
        · intro q hq
          rw [pk_un (by omega)]
          exact hI.2.2 q hq)
      rw [y, List.length_append, List.length_singleton] at I
      refine br_f (fun z => e ((nI_eq (by omega) (by omega)).mp z)) (nm_r (nI_1 _) ⟨tg_vi (tg_5i p k) (by omega) (by decide), tg_vi (tg_5i p _) (by omega) (by decide), nm_r (tg_u (tg_5i p _) (by omega) (tg_vB (by omega))) (nm_r (nI_1 _) I)⟩)
theorem tg_ly_s {p : Nat} {g' g : Nat → List Nat} {ll sz ll2 sz2 : Nat → Int32} (h : tg_LY (tg_mix p g' g) ll sz) (hs : ∀ q, q ≠ p → sz2 q = sz q) (hl : ∀ q, q < 5 * p ∨ 5 * p + 5 ≤ q → ll2 q = ll q) (h3 : ∀ q, q < 6 → (g' q).length ≤ 3 ∧ (g q).length ≤ 3)
    (hn : sz2 p = nI (g' p).length ∧ ∀ j, j < (g' p).length → ll2 (5 * p + j) = nI ((g' p).getD j 0)) : tg_LY (tg_mix (p + 1) g' g) ll2 sz2 := by
  intro q hq
  by_cases e : q = p
  · subst e
    rw [tg_mix_lt (by omega)]
    exact hn
  · have z := h q hq
    have hh : tg_mix (p + 1) g' g q = tg_mix p g' g q := by
      by_cases z : q < p
      · rw [tg_mix_lt z, tg_mix_lt (by omega)]
      · rw [tg_mix_ge z, tg_mix_ge (by omega)]
    have h5 : (tg_mix p g' g q).length ≤ 3 := by
      unfold tg_mix
      split
      · exact (h3 q hq).1
      · exact (h3 q hq).2
    rw [hh, hs q e]
    exact ⟨z.1, fun j hj => by rw [hl _ (by omega)]; exact z.2 j hj⟩
end YC
end
section
/-! 07: Y: a member goes -/
section YD
variable {bk : Int32} {lv : Int32} {ds : Int32} {fk : Int32} {lo : Int32} {ex : Int32} {ht : Int32} {vt : Int32} {vv : Int64} {rc : Int32} {rr : Int64} {ls : Nat → Int32} {eT : Nat → Int32} {eV : Nat → Int64} {rN : Nat → Int32} {rC : Nat → Int32} {rR : Nat → Int64} {dO : Nat → Int32} {dC : Nat → Int64} {tS : Nat → Int32} {tO : Nat → Int32} {tC : Nat → Int64} {re : Nat → Int32} {qN : Nat → Int32} {qT : Nat → Int32} {qK : Nat → Int32} {qA : Nat → Int32} {an : Nat → Int32} {cR : Nat → Int64} {sk : Nat → Int64} {vh : Int32} {vw : Int64} {oc : Int64} {li : Nat → Int32} {ll : Nat → Int32} {sz : Nat → Int32} {va : Nat → Int64} {yo : Nat → Int32} {yg : Nat → Int64} {le : Nat → Int32} {pa : Nat → Int32} {st : Nat → Int64} {on : Nat → Int32} {wa : Nat → Int32}
theorem tg_take1 {w : List Nat} (h : ¬ w = []) : (w.take 1).length = 1 ∧ (w.take 1).getD 0 0 = w.getD 0 0 := by
  cases w with
  | nil => exact absurd rfl h
  | cons a r => exact ⟨rfl, rfl⟩
theorem tg_g'_len {g : Nat → List Nat} {m L b : Nat} (p : Nat) : (tg_g' g m L b p).length ≤ 3 := by
  unfold tg_g'
  split
  · rw [List.length_take]; omega
  · exact tg_fl_len _ _ _
theorem tg_new {w : List Nat} {p : Nat} {wa ll sz : Nat → Int32} (hw : tg_WA w wa) (hs : sz p = nI 0) : tg_s1 w p sz p = nI (w.take 1).length ∧ ∀ j, j < (w.take 1).length → tg_n1 w p wa ll (5 * p + j) = nI ((w.take 1).getD j 0) := by
  unfold tg_s1 tg_n1
  by_cases c : w = []
  · rw [if_pos c, if_pos c]
    subst c
    exact ⟨hs, fun j hj => absurd hj (by simp)⟩
  · rw [if_neg c, if_neg c, (tg_take1 c).1, pk_us]
    refine ⟨rfl, fun j hj => ?_⟩
    obtain rfl : j = 0 := by omega
    rw [(tg_take1 c).2]
    show upd ll (5 * p) (wa 0) (5 * p) = _
    rw [pk_us]
    exact hw 0 (tg_len0 c)
theorem tg_s1_ne {w : List Nat} {p q : Nat} {sz : Nat → Int32} (h : q ≠ p) : tg_s1 w p sz q = sz q := by
  unfold tg_s1
  split
  · rfl
  · exact pk_un h
theorem tg_n1_ne {w : List Nat} {p q : Nat} {wa ll : Nat → Int32} (h : q ≠ 5 * p) : tg_n1 w p wa ll q = ll q := by
  unfold tg_n1
  split
  · rfl
  · exact pk_un h
theorem ty_dr_l {post : SY → Prop} {m L b : Nat} {g : Nat → List Nat} (hm : m < 5) (hL : L < 32) (hb : b ≤ 2) (hli : tg_LI L li)
    (hg : ∀ p, p < 6 → (g p).length ≤ 3 ∧ ∀ x, x ∈ g p → x < 5)
    (h : ∀ ll sz wa, tg_LY (tg_g' g m L b) ll sz → post ((nI b), fk, (tg_dL (tg_lz g m) lo 6), ex, vh, vw, oc, li, ll, sz, (tg_dE (tg_lz g m) eT 6), va, (tg_dN (tg_lz g m) rN 6), rC, rR, yo, yg, le, pa, st, qN, qT, qK, qA, on, cR, wa)) :
    ∀ d p n ll sz wa, p + d = 6 → d < n → tg_LY (tg_mix p (tg_g' g m L b) g) ll sz → wY_dropOut_9 post (nI m) n (nI p) (nI b) fk (tg_dL (tg_lz g m) lo p) ex vh vw oc li ll sz (tg_dE (tg_lz g m) eT p) va (tg_dN (tg_lz g m) rN p) rC rR yo yg le pa st qN qT qK qA on cR wa := by
  intro d
  induction d with
  | zero =>
    intro p n ll sz wa hp hn hls
    obtain ⟨n, rfl⟩ : ∃ k, n = k + 1 := ⟨n - 1, by omega⟩
    obtain rfl : p = 6 := by omega
    refine br_t (nI_le (a := 6) (b := 6) (by omega) (by decide)) (h ll sz wa ?_)
    intro q hq
    have z := hls q hq
    rw [tg_mix_lt hq] at z
    exact z
  | succ d ih =>
    intro p n ll sz wa hp hn hls
    obtain ⟨n, rfl⟩ : ∃ k, n = k + 1 := ⟨n - 1, by omega⟩
    have p6 : p < 6 := by omega
    have cl : (nI p).toNatClampNeg = p := nI_clamp (by omega)
    have hp0 := hls p p6
    rw [tg_mix_ge (by omega)] at hp0
    have gl := (hg p p6).1
    have fl := tg_fl_len (g p) m 3
    have h3 : ∀ q, q < 6 → (tg_g' g m L b q).length ≤ 3 ∧ (g q).length ≤ 3 := fun q hq => ⟨tg_g'_len q, (hg q hq).1⟩
    refine br_f (nI_ge (b := 6) (by omega) (by decide)) ⟨(g p).length + 1, ?_⟩
    refine ty_cp_l (g := g p) (l0 := ll) p6 hm gl (hg p p6).2 hp0.1 (fun ll2 n2 hI => ?_) (g p).length 0 _ ll (by omega) (by omega) ⟨fun j hj => absurd hj (by simp [tg_fl]), fun j _ hj => hp0.2 j hj, fun q _ => rfl⟩
    refine ⟨vp_in_nI p6 (by decide), br_t (by rw [cl, hp0.1]; exact nI_le (Nat.le_refl _) (by omega)) ⟨vp_in_nI p6 (by decide), nm_r (tg_u rfl (by omega) (tg_vB2 (by omega))) ?_⟩⟩
    by_cases c : tg_fl (g p) m 3 = []
    · have z := tg_lz_t (g := g) c
      have gp : tg_g' g m L b p = (tg_w p L b 5).take 1 := if_pos z
      refine br_t (by rw [c]; rfl) (ty_lose p6 hL hb hli (fun wa2 hw => nm_r (nI_1 p) ?_))
      have I := ih (p + 1) n (tg_n1 (tg_w p L b 5) p wa2 ll2) (tg_s1 (tg_w p L b 5) p (upd sz p (nI (tg_fl (g p) m 3).length))) wa2 (by omega) (by omega)
        (tg_ly_s hls (fun q hq => by rw [tg_s1_ne hq, pk_un hq]) (fun q hq => by rw [tg_n1_ne (by omega)]; exact hI.2.2 q hq) h3 (by rw [gp]; exact tg_new hw (by rw [pk_us, c]; rfl)))
      unfold tg_dL tg_dE tg_dN at I
      rw [if_pos z, if_pos z, if_pos z] at I
      exact I
    · have z := tg_lz_f (g := g) c
      have gp : tg_g' g m L b p = tg_fl (g p) m 3 := if_neg z
      have l0 := tg_len0 c
      have I := ih (p + 1) n ll2 (upd sz p (nI (tg_fl (g p) m 3).length)) wa (by omega) (by omega)
        (tg_ly_s hls (fun q hq => pk_un hq) hI.2.2 h3 (by rw [gp]; exact ⟨pk_us, hI.1⟩))
      unfold tg_dL tg_dE tg_dN at I
      rw [if_neg z, if_neg z, if_neg z] at I
      exact br_f (fun e => by have := (nI_eq (a := (tg_fl (g p) m 3).length) (b := 0) (by omega) (by decide)).mp e; omega) (nm_r (nI_1 p) I)
theorem ty_dr {post : SY → Prop} {m L b : Nat} {g : Nat → List Nat} (hm : m < 5) (hL : L < 32) (hb : b ≤ 2) (hli : tg_LI L li)
    (hg : ∀ p, p < 6 → (g p).length ≤ 3 ∧ ∀ x, x ∈ g p → x < 5) (hly : tg_LY g ll sz)
    (h : ∀ li ll sz wa, tg_LI (tg_del L m) li → tg_LY (tg_g' g m (tg_del L m) b) ll sz → post ((nI b), fk, (tg_dL (tg_lz g m) lo 6), ex, vh, vw, oc, li, ll, sz, (tg_dE (tg_lz g m) eT 6), va, (tg_dN (tg_lz g m) rN 6), rC, rR, yo, yg, le, pa, st, qN, qT, qK, qA, on, cR, wa)) :
    wpY_dropOut post ((nI b), fk, lo, ex, vh, vw, oc, li, ll, sz, eT, va, rN, rC, rR, yo, yg, le, pa, st, qN, qT, qK, qA, on, cR, wa) (nI m) := by
  refine ⟨vp_in_nI hm (by decide), nm_r (tg_u rfl (by omega) tg_vb0) ⟨7, ?_⟩⟩
  have hl2 := tg_LI_u hL hm hli
  exact ty_dr_l hm (tg_anb L hL m hm).1 hb hl2 hg (fun ll sz wa hy => h _ ll sz wa hl2 hy) 6 0 7 ll sz wa (by omega) (by omega) (fun q hq => by rw [tg_mix_ge (by omega)]; exact hly q hq)
end YD
end
section
/-! 08: the relation -/
def tg_C (bk lv : Int32) (ls li ll sz : Nat → Int32) : Prop := ∃ (b L : Nat) (g : Nat → List Nat), b ≤ 2 ∧ L < 32 ∧ bk = nI b ∧ lv = nI L ∧ tg_LI L li ∧ (∀ p, p < 6 → tg_G L (g p) ∧ (g p = [] ↔ L = 0)) ∧ tg_LX g ls ∧ tg_LY g ll sz
def tg_D (eT : Nat → Int32) (eV va : Nat → Int64) : Prop := ∀ k, k < 18 → (eT k = 0 ∧ eV k = 0) ∨ (eT k = 1 ∧ eV k = va k)
def tg_T (z t : Nat) (tO yo : Nat → Int32) (tC yg : Nat → Int64) : Prop :=
  (∀ i, i < z → tO (16 * t + i) = yo (16 * t + i) ∧ tC (16 * t + i) = yg (16 * t + i)) ∧ (z ≠ 0 → ∃ w : Nat → Nat, (∀ i, i < z → w i < 24 ∧ yo (16 * t + i) = nI (w i)) ∧ tg_Ver w (fun i => yg (16 * t + i)) z)
def tg_Pr (ds : Int32) (dO : Nat → Int32) (dC : Nat → Int64) (tS tO : Nat → Int32) (tC : Nat → Int64) (yo : Nat → Int32) (yg : Nat → Int64) (le : Nat → Int32) : Prop :=
  (∃ n, n ≤ 16 ∧ ds = nI n ∧ le 4 = nI n ∧ ∀ i, i < n → ∃ w, w < 24 ∧ dO i = nI w ∧ yo (64 + i) = nI w ∧ yg (64 + i) = dC i) ∧
  ∀ t, t < 4 → ∃ z, z ≤ 16 ∧ tS t = nI z ∧ le t = nI z ∧ tg_T z t tO yo tC yg
def tg_Q (k : Nat) (qN qK an on : Nat → Int32) : Prop := ∀ c, c < 3 → ∃ j q, j ≤ k ∧ qN c = nI j ∧ q < 18 ∧ qK c = nI q ∧ ((on c = 1 ∧ j ≠ 0 ∧ an c = 0) ∨ (on c = 0 ∧ (j = 0 ∨ an c = 1)))
def tg_F (fk : Int32) : Prop := ∃ f, f ≤ 4 ∧ fk = nI f
def tg_R (k : Nat) (bk lv fk ds : Int32) (ls li ll sz eT : Nat → Int32) (eV va : Nat → Int64) (dO : Nat → Int32) (dC : Nat → Int64) (tS tO : Nat → Int32) (tC : Nat → Int64) (yo : Nat → Int32) (yg : Nat → Int64) (le qN qK an on : Nat → Int32) : Prop :=
  tg_C bk lv ls li ll sz ∧ tg_D eT eV va ∧ tg_Pr ds dO dC tS tO tC yo yg le ∧ tg_Q k qN qK an on ∧ tg_F fk
def i_Rel (k : Nat) (u : SX) (v : SY) : Prop := ∃ (bk : Int32) (lv : Int32) (ds : Int32) (fk : Int32) (lo : Int32) (ex : Int32) (ht : Int32) (vt : Int32) (vv : Int64) (rc : Int32) (rr : Int64) (ls : Nat → Int32) (eT : Nat → Int32) (eV : Nat → Int64) (rN : Nat → Int32) (rC : Nat → Int32) (rR : Nat → Int64) (dO : Nat → Int32) (dC : Nat → Int64) (tS : Nat → Int32) (tO : Nat → Int32) (tC : Nat → Int64) (re : Nat → Int32) (qN : Nat → Int32) (qT : Nat → Int32) (qK : Nat → Int32) (qA : Nat → Int32) (an : Nat → Int32) (cR : Nat → Int64) (sk : Nat → Int64) (vh : Int32) (vw : Int64) (oc : Int64) (li : Nat → Int32) (ll : Nat → Int32) (sz : Nat → Int32) (va : Nat → Int64) (yo : Nat → Int32) (yg : Nat → Int64) (le : Nat → Int32) (pa : Nat → Int32) (st : Nat → Int64) (on : Nat → Int32) (wa : Nat → Int32), u = (bk, lv, ds, fk, lo, ex, ht, vt, vv, rc, rr, ls, eT, eV, rN, rC, rR, dO, dC, tS, tO, tC, re, qN, qT, qK, qA, an, cR, sk) ∧ v = (bk, fk, lo, ex, vh, vw, oc, li, ll, sz, eT, va, rN, rC, rR, yo, yg, le, pa, st, qN, qT, qK, qA, on, cR, wa) ∧ tg_R k bk lv fk ds ls li ll sz eT eV va dO dC tS tO tC yo yg le qN qK an on
section RL
variable {bk : Int32} {lv : Int32} {ds : Int32} {fk : Int32} {lo : Int32} {ex : Int32} {ht : Int32} {vt : Int32} {vv : Int64} {rc : Int32} {rr : Int64} {ls : Nat → Int32} {eT : Nat → Int32} {eV : Nat → Int64} {rN : Nat → Int32} {rC : Nat → Int32} {rR : Nat → Int64} {dO : Nat → Int32} {dC : Nat → Int64} {tS : Nat → Int32} {tO : Nat → Int32} {tC : Nat → Int64} {re : Nat → Int32} {qN : Nat → Int32} {qT : Nat → Int32} {qK : Nat → Int32} {qA : Nat → Int32} {an : Nat → Int32} {cR : Nat → Int64} {sk : Nat → Int64} {vh : Int32} {vw : Int64} {oc : Int64} {li : Nat → Int32} {ll : Nat → Int32} {sz : Nat → Int32} {va : Nat → Int64} {yo : Nat → Int32} {yg : Nat → Int64} {le : Nat → Int32} {pa : Nat → Int32} {st : Nat → Int64} {on : Nat → Int32} {wa : Nat → Int32}
theorem i_mk {k : Nat} (hC : tg_C bk lv ls li ll sz) (hD : tg_D eT eV va) (hP : tg_Pr ds dO dC tS tO tC yo yg le) (hQ : tg_Q k qN qK an on) (hF : tg_F fk) : i_Rel k (bk, lv, ds, fk, lo, ex, ht, vt, vv, rc, rr, ls, eT, eV, rN, rC, rR, dO, dC, tS, tO, tC, re, qN, qT, qK, qA, an, cR, sk) (bk, fk, lo, ex, vh, vw, oc, li, ll, sz, eT, va, rN, rC, rR, yo, yg, le, pa, st, qN, qT, qK, qA, on, cR, wa) :=
  ⟨bk, lv, ds, fk, lo, ex, ht, vt, vv, rc, rr, ls, eT, eV, rN, rC, rR, dO, dC, tS, tO, tC, re, qN, qT, qK, qA, an, cR, sk, vh, vw, oc, li, ll, sz, va, yo, yg, le, pa, st, on, wa, rfl, rfl, hC, hD, hP, hQ, hF⟩
theorem tg_Q_up {k d : Nat} (h : tg_Q k qN qK an on) : tg_Q (k + d) qN qK an on := by
  intro c hc
  obtain ⟨j, q, h1, h2⟩ := h c hc
  exact ⟨j, q, by omega, h2⟩
theorem i_up {k : Nat} {u : SX} {v : SY} (h : i_Rel k u v) : i_Rel (k + 5) u v := by
  obtain ⟨bk, lv, ds, fk, lo, ex, ht, vt, vv, rc, rr, ls, eT, eV, rN, rC, rR, dO, dC, tS, tO, tC, re, qN, qT, qK, qA, an, cR, sk, vh, vw, oc, li, ll, sz, va, yo, yg, le, pa, st, on, wa, rfl, rfl, hC, hD, hP, hQ, hF⟩ := h
  exact i_mk hC hD hP (tg_Q_up hQ) hF
theorem tg_big {x : Int32} {n : Nat} (h : nI n ≤ x) (hn : n < 2 ^ 31) : ¬ x < 0 ∧ ∀ k, k < n → ¬ x ≤ nI k ∧ nI k < x := by
  rw [Int32.le_iff_toInt_le, nI_toInt hn] at h
  refine ⟨?_, fun k hk => ?_⟩
  · rw [Int32.lt_iff_toInt_lt, show (0 : Int32).toInt = 0 from by decide]; omega
  · rw [Int32.le_iff_toInt_le, Int32.lt_iff_toInt_lt, nI_toInt (by omega)]; omega
theorem i_vc0 (k0 : Int32) : wpX_init (fun u => wpY_init (fun v => i_Rel 1 u v) k0) k0 := by
  have hC : ∀ b, b ≤ 2 → tg_C (nI b) 0 (fun _ => 0) (fun _ => 0) (fun _ => 0) (fun _ => 0) := fun b hb =>
    ⟨b, 0, fun _ => [], hb, by decide, rfl, rfl, fun m _ => by rw [Nat.zero_testBit]; rfl, fun p _ => ⟨⟨by simp, fun m hm => absurd hm (by simp)⟩, by simp⟩, fun p _ => rfl, fun p _ => ⟨rfl, fun j hj => absurd hj (by simp)⟩⟩
  have hD : tg_D (fun _ => 0) (fun _ => 0) (fun _ => 0) := fun k _ => Or.inl ⟨rfl, rfl⟩
  have hP : tg_Pr 0 (fun _ => 0) (fun _ => 0) (fun _ => 0) (fun _ => 0) (fun _ => 0) (fun _ => 0) (fun _ => 0) (fun _ => 0) :=
    ⟨⟨0, by decide, rfl, rfl, fun i hi => absurd hi (by omega)⟩, fun t _ => ⟨0, by decide, rfl, rfl, fun i hi => absurd hi (by omega), fun z => absurd rfl z⟩⟩
  have hQ : tg_Q 1 (fun _ => 0) (fun _ => 0) (fun _ => 0) (fun _ => 0) := fun c _ => ⟨0, 0, by decide, rfl, by decide, rfl, Or.inr ⟨rfl, Or.inl rfl⟩⟩
  have hF : tg_F 0 := ⟨0, by decide, rfl⟩
  by_cases h0 : 0 ≤ k0
  · by_cases h2 : k0 ≤ 2
    · obtain ⟨b, hb, rfl⟩ := nI_of2 (x := k0) (M := 2) (n := 2) (by decide) (Int32.not_lt.mpr h0) h2
      exact br_t h0 (br_t h2 (br_t h0 (br_t h2 (i_mk (hC b hb) hD hP hQ hF))))
    · exact br_t h0 (br_f h2 (br_t h0 (br_f h2 (i_mk (hC 2 (by decide)) hD hP hQ hF))))
  · exact br_f h0 (br_f h0 (i_mk (hC 0 (by decide)) hD hP hQ hF))
end RL
theorem i_vc_lost {k : Nat} {u : SX} {v : SY} (I : i_Rel k u v) (hk : k + 5 ≤ 2561) : wpX_lost (fun r => wpY_lost (fun r' => r' = r ∧ i_Rel (k + 5) u v) v) u := by
  have J := i_up I
  obtain ⟨bk, lv, ds, fk, lo, ex, ht, vt, vv, rc, rr, ls, eT, eV, rN, rC, rR, dO, dC, tS, tO, tC, re, qN, qT, qK, qA, an, cR, sk, vh, vw, oc, li, ll, sz, va, yo, yg, le, pa, st, on, wa, rfl, rfl, hC, hD, hP, hQ, hF⟩ := I
  exact ⟨rfl, J⟩
theorem i_vc_executed {k : Nat} {u : SX} {v : SY} (I : i_Rel k u v) (hk : k + 5 ≤ 2561) : wpX_executed (fun r => wpY_executed (fun r' => r' = r ∧ i_Rel (k + 5) u v) v) u := by
  have J := i_up I
  obtain ⟨bk, lv, ds, fk, lo, ex, ht, vt, vv, rc, rr, ls, eT, eV, rN, rC, rR, dO, dC, tS, tO, tC, re, qN, qT, qK, qA, an, cR, sk, vh, vw, oc, li, ll, sz, va, yo, yg, le, pa, st, on, wa, rfl, rfl, hC, hD, hP, hQ, hF⟩ := I
  exact ⟨rfl, J⟩
theorem i_vc_fault {k : Nat} {u : SX} {v : SY} (I : i_Rel k u v) (hk : k + 5 ≤ 2561) (v1 : Int32) : wpX_fault (fun r u' => wpY_fault (fun r' v' => r' = r ∧ i_Rel (k + 5) u' v') v v1) u v1 := by
  have J := i_up I
  obtain ⟨bk, lv, ds, fk, lo, ex, ht, vt, vv, rc, rr, ls, eT, eV, rN, rC, rR, dO, dC, tS, tO, tC, re, qN, qT, qK, qA, an, cR, sk, vh, vw, oc, li, ll, sz, va, yo, yg, le, pa, st, on, wa, rfl, rfl, hC, hD, hP, hQ, hF⟩ := I
  by_cases h0 : v1 < 0
  · exact br_t h0 (br_t h0 ⟨rfl, J⟩)
  · by_cases h4 : v1 ≤ 4
    · obtain ⟨f, hf, rfl⟩ := nI_of2 (x := v1) (M := 4) (n := 4) (by decide) h0 h4
      exact br_f h0 (br_t h4 (br_f h0 (br_t h4 ⟨rfl, i_mk hC hD hP (tg_Q_up hQ) ⟨f, hf, rfl⟩⟩)))
    · exact br_f h0 (br_f h4 (br_f h0 (br_f h4 ⟨rfl, J⟩)))
theorem i_vc_result {k : Nat} {u : SX} {v : SY} (I : i_Rel k u v) (hk : k + 5 ≤ 2561) (v1 : Int32) : wpX_result (fun r => wpY_result (fun r' => r' = r ∧ i_Rel (k + 5) u v) v v1) u v1 := by
  have J := i_up I
  obtain ⟨bk, lv, ds, fk, lo, ex, ht, vt, vv, rc, rr, ls, eT, eV, rN, rC, rR, dO, dC, tS, tO, tC, re, qN, qT, qK, qA, an, cR, sk, vh, vw, oc, li, ll, sz, va, yo, yg, le, pa, st, on, wa, rfl, rfl, hC, hD, hP, hQ, hF⟩ := I
  unfold wpX_result
  rcases pk_ix v1 (n := 3) (by decide) with h | h | ⟨j, hj, rfl⟩
  · exact tx_isC0 (Or.inl h) (br_t rfl (br_t h ⟨rfl, J⟩))
  · have B := tg_big h (by decide)
    exact tx_isC0 (Or.inr h) (br_t rfl (br_f B.1 (br_f (B.2 2 (by decide)).1 ⟨rfl, J⟩)))
  · have i3 : vp_in (nI j) 3 := vp_in_nI hj (by decide)
    exact tx_isC1 hj (br_f tg_d1 ⟨i3, br_f (nI_pos (by omega)) (br_t (nI_le (b := 2) (by omega) (by decide)) ⟨i3, rfl, J⟩)⟩)
theorem i_vc_owner {k : Nat} {u : SX} {v : SY} (I : i_Rel k u v) (hk : k + 5 ≤ 2561) (v1 : Int32) : wpX_owner (fun r => wpY_owner (fun r' => r' = r ∧ i_Rel (k + 5) u v) v v1) u v1 := by
  have J := i_up I
  obtain ⟨bk, lv, ds, fk, lo, ex, ht, vt, vv, rc, rr, ls, eT, eV, rN, rC, rR, dO, dC, tS, tO, tC, re, qN, qT, qK, qA, an, cR, sk, vh, vw, oc, li, ll, sz, va, yo, yg, le, pa, st, on, wa, rfl, rfl, hC, hD, hP, hQ, hF⟩ := I
  unfold wpX_owner
  obtain ⟨b, L, g, hb, hL, rfl, rfl, hli, hg, hx, hy⟩ := hC
  rcases pk_ix v1 (n := 6) (by decide) with h | h | ⟨j, hj, rfl⟩
  · exact tx_isP0 (Or.inl h) (br_t rfl (br_t h ⟨rfl, J⟩))
  · have B := tg_big h (by decide)
    exact tx_isP0 (Or.inr h) (br_t rfl (br_f B.1 (br_t (B.2 5 (by decide)).2 ⟨rfl, J⟩)))
  · have i6 : vp_in (nI j) 6 := vp_in_nI hj (by decide)
    have cl : (nI j).toNatClampNeg = j := nI_clamp (by omega)
    have G := (hg j hj).1
    have gl := G.1
    refine tx_isP1 hj (br_f tg_d1 ⟨i6, ?_⟩)
    rw [cl, hx j hj]
    have y1 : ¬ nI j < 0 := nI_pos (by omega)
    have y2 : ¬ (5 : Int32) < nI j := nI_nlt (b := j) (a := 5) (by omega) (by decide)
    by_cases c : g j = []
    · refine tx_mem0 (j := 0) G.1 G.lt (by decide) (by rw [c]; simp) (br_f y1 (br_f y2 ⟨i6, br_t ?_ ⟨rfl, J⟩⟩))
      rw [cl, (hy j hj).1, c]; rfl
    · have l0 := tg_len0 c
      refine tx_mem1 (j := 0) G.1 G.lt l0 (br_f y1 (br_f y2 ⟨i6, br_f ?_ ⟨tg_vi (tg_5p j) (by omega) (by decide), ?_, J⟩⟩))
      · rw [cl, (hy j hj).1]; exact nI_ne0 l0 (by omega)
      · rw [tg_5p, nI_clamp (by omega)]; exact (hy j hj).2 0 l0
section RQ
variable {bk : Int32} {lv : Int32} {ds : Int32} {fk : Int32} {lo : Int32} {ex : Int32} {ht : Int32} {vt : Int32} {vv : Int64} {rc : Int32} {rr : Int64} {ls : Nat → Int32} {eT : Nat → Int32} {eV : Nat → Int64} {rN : Nat → Int32} {rC : Nat → Int32} {rR : Nat → Int64} {dO : Nat → Int32} {dC : Nat → Int64} {tS : Nat → Int32} {tO : Nat → Int32} {tC : Nat → Int64} {re : Nat → Int32} {qN : Nat → Int32} {qT : Nat → Int32} {qK : Nat → Int32} {qA : Nat → Int32} {an : Nat → Int32} {cR : Nat → Int64} {sk : Nat → Int64} {vh : Int32} {vw : Int64} {oc : Int64} {li : Nat → Int32} {ll : Nat → Int32} {sz : Nat → Int32} {va : Nat → Int64} {yo : Nat → Int32} {yg : Nat → Int64} {le : Nat → Int32} {pa : Nat → Int32} {st : Nat → Int64} {on : Nat → Int32} {wa : Nat → Int32}
theorem ty_co_l {post : Int32 → Prop} {g : List Nat} {p : Nat} (hp : p < 6) (hl : g.length ≤ 3) (hs : sz p = nI g.length) (hll : ∀ j, j < g.length → ll (5 * p + j) = nI (g.getD j 0)) (h : post (tg_st g 3)) : ∀ d j n, j + d = g.length → d < n → wY_copies_14 post (nI p) bk fk lo ex vh vw oc li ll sz eT va rN rC rR yo yg le pa st qN qT qK qA on cR wa n (tg_st g j) (nI j) := by
  have cl : (nI p).toNatClampNeg = p := nI_clamp (by omega)
  intro d
  induction d with
  | zero =>
    intro j n hj hn
    obtain ⟨n, rfl⟩ : ∃ k, n = k + 1 := ⟨n - 1, by omega⟩
    obtain rfl : j = g.length := by omega
    have e := tg_st_big (Nat.le_refl g.length) (3 - g.length)
    rw [show g.length + (3 - g.length) = 3 from by omega] at e
    refine ⟨vp_in_nI hp (by decide), br_t ?_ (by rw [← e]; exact h)⟩
    rw [cl, hs]; exact nI_le (Nat.le_refl _) (by omega)
  | succ d ih =>
    intro j n hj hn
    obtain ⟨n, rfl⟩ : ∃ k, n = k + 1 := ⟨n - 1, by omega⟩
    have I := ih (j + 1) n (by omega) (by omega)
    rw [tg_st_y (by omega)] at I
    refine ⟨vp_in_nI hp (by decide), br_f ?_ ⟨tg_vi (tg_5i p j) (by omega) (by decide), nm_r ?_ (nm_r (nI_1 _) I)⟩⟩
    · rw [cl, hs]; exact nI_ge (by omega) (by omega)
    · rw [tg_5i, nI_clamp (by omega), hll j (by omega)]
theorem ty_co {post : Int32 → Prop} {g : List Nat} {p : Nat} (hp : p < 6) (hl : g.length ≤ 3) (hs : sz p = nI g.length) (hll : ∀ j, j < g.length → ll (5 * p + j) = nI (g.getD j 0)) (h : post (tg_st g 3)) : wpY_copies post (bk, fk, lo, ex, vh, vw, oc, li, ll, sz, eT, va, rN, rC, rR, yo, yg, le, pa, st, qN, qT, qK, qA, on, cR, wa) (nI p) :=
  br_f (nI_pos (by omega)) (br_f (nI_ge (b := 6) (by omega) (by decide)) ⟨g.length + 1, ty_co_l hp hl hs hll h g.length 0 _ (by omega) (by omega)⟩)
theorem tg_01 (x : Int32) : x &&& 1 = 0 ∨ x &&& 1 = 1 := by
  obtain ⟨j, hj, e⟩ := pk_andE x (m := 1) 1 (by decide)
  rw [e]
  have : j = 0 ∨ j = 1 := by omega
  rcases this with rfl | rfl
  · exact Or.inl rfl
  · exact Or.inr rfl
theorem tg_hold (hC : tg_C bk lv ls li ll sz) (hD : tg_D eT eV va) (v1 v2 : Int32) : ∃ r : Int32, (r = 0 ∨ (r = 1 ∧ ∃ q, q < 18 ∧ v2 = nI q ∧ eT q = 1)) ∧
    (∀ post : Int32 → Prop, post r → wpX_holdsEntry post (bk, lv, ds, fk, lo, ex, ht, vt, vv, rc, rr, ls, eT, eV, rN, rC, rR, dO, dC, tS, tO, tC, re, qN, qT, qK, qA, an, cR, sk) v1 v2) ∧ (∀ post : Int32 → Prop, post r → wpY_present post (bk, fk, lo, ex, vh, vw, oc, li, ll, sz, eT, va, rN, rC, rR, yo, yg, le, pa, st, qN, qT, qK, qA, on, cR, wa) v1 v2) := by
  obtain ⟨b, L, g, hb, hL, rfl, rfl, hli, hg, hx, hy⟩ := hC
  rcases pk_ix v2 (n := 18) (by decide) with h | h | ⟨q, hq, rfl⟩
  · refine ⟨0, Or.inl rfl, fun post hp => ?_, fun post hp => br_t h hp⟩
    unfold wpX_holdsEntry
    rcases pk_ix v1 (n := 5) (by decide) with h1 | h1 | ⟨m, hm, rfl⟩
    · exact tx_isM0 (Or.inl h1) (br_t rfl hp)
    · exact tx_isM0 (Or.inr h1) (br_t rfl hp)
    · exact tx_isM1 hm (br_f tg_d1 (tx_isK0 (Or.inl h) (br_t rfl hp)))
  · refine ⟨0, Or.inl rfl, fun post hp => ?_, fun post hp => br_f (tg_big h (by decide)).1 (br_t h hp)⟩
    unfold wpX_holdsEntry
    rcases pk_ix v1 (n := 5) (by decide) with h1 | h1 | ⟨m, hm, rfl⟩
    · exact tx_isM0 (Or.inl h1) (br_t rfl hp)
    · exact tx_isM0 (Or.inr h1) (br_t rfl hp)
    · exact tx_isM1 hm (br_f tg_d1 (tx_isK0 (Or.inr h) (br_t rfl hp)))
  · have i18 : vp_in (nI q) 18 := vp_in_nI hq (by decide)
    have y1 : ¬ nI q < 0 := nI_pos (by omega)
    have y2 : ¬ (18 : Int32) ≤ nI q := nI_ge (b := 18) hq (by decide)
    have cl : (nI q).toNatClampNeg = q := nI_clamp (by omega)
    have e6 : nI q - nI q / 6 * 6 = nI (q % 6) := pk_rem (d := 6) (by omega) (by decide) (by decide)
    have q6 : q % 6 < 6 := Nat.mod_lt _ (by decide)
    have G := (hg _ q6).1
    have LYq := hy _ q6
    by_cases hz : eT q = 0
    · refine ⟨0, Or.inl rfl, fun post hp => ?_, fun post hp => br_f y1 (br_f y2 ⟨i18, br_t (by rw [cl]; exact hz) hp⟩)⟩
      unfold wpX_holdsEntry
      rcases pk_ix v1 (n := 5) (by decide) with h1 | h1 | ⟨m, hm, rfl⟩
      · exact tx_isM0 (Or.inl h1) (br_t rfl hp)
      · exact tx_isM0 (Or.inr h1) (br_t rfl hp)
      · refine tx_isM1 hm (br_f tg_d1 (tx_isK1 hq (br_f tg_d1 ⟨tg_d6, tg_vi e6 q6 (by decide), ?_⟩)))
        rw [e6, nI_clamp (n := q % 6) (by omega), hx _ q6]
        refine tx_so G.1 G.lt ?_
        by_cases y : ((tg_st (g (q % 6)) 3 >>> (nI m &&& 31)) &&& 1) = 1
        · exact br_t y (br_f tg_d1 ⟨i18, br_t (by rw [cl]; exact hz) hp⟩)
        · exact br_f y (br_t rfl hp)
    · have h1q : eT q = 1 := by
        rcases hD q hq with z | z
        · exact absurd z.1 hz
        · exact z.1
      rcases pk_ix v1 (n := 5) (by decide) with h1 | h1 | ⟨m, hm, rfl⟩
      · exact ⟨0, Or.inl rfl, fun post hp => by unfold wpX_holdsEntry; exact tx_isM0 (Or.inl h1) (br_t rfl hp), fun post hp => br_f y1 (br_f y2 ⟨i18, br_f (by rw [cl]; exact hz) (br_t h1 hp)⟩)⟩
      · exact ⟨0, Or.inl rfl, fun post hp => by unfold wpX_holdsEntry; exact tx_isM0 (Or.inr h1) (br_t rfl hp), fun post hp => br_f y1 (br_f y2 ⟨i18, br_f (by rw [cl]; exact hz) (br_f (tg_big h1 (by decide)).1 (br_t h1 hp))⟩)⟩
      · have z1 : ¬ nI m < 0 := nI_pos (by omega)
        have z2 : ¬ (5 : Int32) ≤ nI m := nI_ge (b := 5) hm (by decide)
        by_cases y : ((tg_st (g (q % 6)) 3 >>> (nI m &&& 31)) &&& 1) = 1
        · refine ⟨1, Or.inr ⟨rfl, q, hq, rfl, h1q⟩, fun post hp => ?_, fun post hp => ?_⟩
          · unfold wpX_holdsEntry
            refine tx_isM1 hm (br_f tg_d1 (tx_isK1 hq (br_f tg_d1 ⟨tg_d6, tg_vi e6 q6 (by decide), ?_⟩)))
            rw [e6, nI_clamp (n := q % 6) (by omega), hx _ q6]
            exact tx_so G.1 G.lt (br_t y (br_f tg_d1 ⟨i18, br_f (by rw [cl]; exact hz) hp⟩))
          · refine br_f y1 (br_f y2 ⟨i18, br_f (by rw [cl]; exact hz) (br_f z1 (br_f z2 ⟨tg_d6, ?_⟩))⟩)
            rw [e6]
            exact ty_co q6 G.1 LYq.1 LYq.2 (br_f (by rw [y]; exact tg_d1) hp)
        · have y0 := (tg_01 (tg_st (g (q % 6)) 3 >>> (nI m &&& 31))).resolve_right y
          refine ⟨0, Or.inl rfl, fun post hp => ?_, fun post hp => ?_⟩
          · unfold wpX_holdsEntry
            refine tx_isM1 hm (br_f tg_d1 (tx_isK1 hq (br_f tg_d1 ⟨tg_d6, tg_vi e6 q6 (by decide), ?_⟩)))
            rw [e6, nI_clamp (n := q % 6) (by omega), hx _ q6]
            exact tx_so G.1 G.lt (br_f y (br_t rfl hp))
          · refine br_f y1 (br_f y2 ⟨i18, br_f (by rw [cl]; exact hz) (br_f z1 (br_f z2 ⟨tg_d6, ?_⟩))⟩)
            rw [e6]
            exact ty_co q6 G.1 LYq.1 LYq.2 (br_t y0 hp)
end RQ
theorem i_vc_copies {k : Nat} {u : SX} {v : SY} (I : i_Rel k u v) (hk : k + 5 ≤ 2561) (v1 : Int32) : wpX_copies (fun r => wpY_copies (fun r' => r' = r ∧ i_Rel (k + 5) u v) v v1) u v1 := by
  have J := i_up I
  obtain ⟨bk, lv, ds, fk, lo, ex, ht, vt, vv, rc, rr, ls, eT, eV, rN, rC, rR, dO, dC, tS, tO, tC, re, qN, qT, qK, qA, an, cR, sk, vh, vw, oc, li, ll, sz, va, yo, yg, le, pa, st, on, wa, rfl, rfl, hC, hD, hP, hQ, hF⟩ := I
  unfold wpX_copies
  obtain ⟨b, L, g, hb, hL, rfl, rfl, hli, hg, hx, hy⟩ := hC
  rcases pk_ix v1 (n := 6) (by decide) with h | h | ⟨j, hj, rfl⟩
  · exact tx_isP0 (Or.inl h) (br_t rfl (br_t h ⟨rfl, J⟩))
  · exact tx_isP0 (Or.inr h) (br_t rfl (br_f (tg_big h (by decide)).1 (br_t h ⟨rfl, J⟩)))
  · have i6 : vp_in (nI j) 6 := vp_in_nI hj (by decide)
    have cl : (nI j).toNatClampNeg = j := nI_clamp (by omega)
    have G := (hg j hj).1
    refine tx_isP1 hj (br_f tg_d1 ⟨i6, ?_⟩)
    rw [cl, hx j hj]
    exact tx_so G.1 G.lt (ty_co hj G.1 (hy j hj).1 (hy j hj).2 ⟨rfl, J⟩)
theorem i_vc_present {k : Nat} {u : SX} {v : SY} (I : i_Rel k u v) (hk : k + 5 ≤ 2561) (v1 : Int32) (v2 : Int32) : wpX_present (fun r => wpY_present (fun r' => r' = r ∧ i_Rel (k + 5) u v) v v1 v2) u v1 v2 := by
  have J := i_up I
  obtain ⟨bk, lv, ds, fk, lo, ex, ht, vt, vv, rc, rr, ls, eT, eV, rN, rC, rR, dO, dC, tS, tO, tC, re, qN, qT, qK, qA, an, cR, sk, vh, vw, oc, li, ll, sz, va, yo, yg, le, pa, st, on, wa, rfl, rfl, hC, hD, hP, hQ, hF⟩ := I
  obtain ⟨r, hr, hX, hY⟩ := tg_hold hC hD v1 v2
  unfold wpX_present
  refine hX _ ⟨?_, hY _ ⟨rfl, J⟩⟩
  rcases hr with rfl | ⟨rfl, -⟩
  · rfl
  · rfl
theorem i_vc_value {k : Nat} {u : SX} {v : SY} (I : i_Rel k u v) (hk : k + 5 ≤ 2561) (v1 : Int32) (v2 : Int32) : wpX_value (fun r => wpY_value (fun r' => r' = r ∧ i_Rel (k + 5) u v) v v1 v2) u v1 v2 := by
  have J := i_up I
  obtain ⟨bk, lv, ds, fk, lo, ex, ht, vt, vv, rc, rr, ls, eT, eV, rN, rC, rR, dO, dC, tS, tO, tC, re, qN, qT, qK, qA, an, cR, sk, vh, vw, oc, li, ll, sz, va, yo, yg, le, pa, st, on, wa, rfl, rfl, hC, hD, hP, hQ, hF⟩ := I
  obtain ⟨r, hr, hX, hY⟩ := tg_hold hC hD v1 v2
  unfold wpX_value
  refine hX _ ?_
  rcases hr with rfl | ⟨rfl, q, hq, rfl, he⟩
  · refine br_t rfl ?_
    unfold wpY_value
    exact hY _ (br_t rfl ⟨rfl, J⟩)
  · have i18 : vp_in (nI q) 18 := vp_in_nI hq (by decide)
    have cl : (nI q).toNatClampNeg = q := nI_clamp (by omega)
    refine br_f tg_d1 ⟨i18, ?_⟩
    unfold wpY_value
    refine hY _ (br_f tg_d1 ⟨i18, ?_, J⟩)
    rw [cl]
    rcases hD q hq with z | z
    · rw [z.1] at he; exact absurd he (by decide)
    · exact z.2.symm
end
section
/-! 09: code, join, crash, leave, migrate -/
theorem tg_e3_D {eT : Nat → Int32} {eV va : Nat → Int64} {p : Nat} (h : tg_D eT eV va) : tg_D (tg_e3 eT p) (tg_v3 eV p) va := by
  intro k hk
  unfold tg_e3 tg_v3
  by_cases e1 : k = p + 12
  · subst e1; rw [pk_us, pk_uLs]; exact Or.inl ⟨rfl, rfl⟩
  · rw [pk_un e1, pk_uLn e1]
    by_cases e2 : k = p + 6
    · subst e2; rw [pk_us, pk_uLs]; exact Or.inl ⟨rfl, rfl⟩
    · rw [pk_un e2, pk_uLn e2]
      by_cases e3 : k = p
      · subst e3; rw [pk_us, pk_uLs]; exact Or.inl ⟨rfl, rfl⟩
      · rw [pk_un e3, pk_uLn e3]; exact h k hk
theorem tg_dE_D {z : Nat → Bool} {eT : Nat → Int32} {eV va : Nat → Int64} (h : tg_D eT eV va) (p : Nat) : tg_D (tg_dE z eT p) (tg_dV z eV p) va := by
  induction p with
  | zero => exact h
  | succ p ih =>
    unfold tg_dE tg_dV
    by_cases c : z p = true
    · rw [if_pos c, if_pos c]; exact tg_e3_D ih
    · rw [if_neg c, if_neg c]; exact ih
theorem tg_take_mem {w : List Nat} {x : Nat} (h : x ∈ w.take 1) : x ∈ w := List.mem_of_mem_take h
theorem tg_C_dr {b L m : Nat} {g : Nat → List Nat} (hb : b ≤ 2) (hL : L < 32) (hm : m < 5) (hg : ∀ p, p < 6 → tg_G L (g p)) :
    ∀ p, p < 6 → tg_G (tg_del L m) (tg_g' g m (tg_del L m) b p) ∧ (tg_g' g m (tg_del L m) b p = [] ↔ tg_del L m = 0) := by
  intro p hp
  have A := tg_anb L hL m hm
  by_cases c : tg_fl (g p) m 3 = []
  · have z := tg_lz_t (g := g) c
    have gp : tg_g' g m (tg_del L m) b p = (tg_w p (tg_del L m) b 5).take 1 := if_pos z
    have W := tg_w_0 p hp _ A.1 b (by omega)
    rw [gp]
    refine ⟨⟨by rw [List.length_take]; omega, fun x hx => tg_w_mem _ _ _ _ x (tg_take_mem hx)⟩, ?_⟩
    rw [← W]
    constructor
    · intro e
      by_cases y : tg_w p (tg_del L m) b 5 = []
      · exact y
      · have := (tg_take1 y).1
        rw [e] at this
        exact absurd this (by simp)
    · intro e; rw [e]; rfl
  · have z := tg_lz_f (g := g) c
    have gp : tg_g' g m (tg_del L m) b p = tg_fl (g p) m 3 := if_neg z
    rw [gp]
    have mm : ∀ x, x ∈ tg_fl (g p) m 3 → x < 5 ∧ (tg_del L m).testBit x = true := by
      intro x hx
      obtain ⟨h1, h2⟩ := tg_fl_mem _ _ _ x hx
      have h3 := (hg p hp).2 x h1
      refine ⟨h3.1, ?_⟩
      rw [A.2 x h3.1, h3.2]
      simp [h2]
    refine ⟨⟨tg_fl_len _ _ _, mm⟩, fun e => absurd e c, fun e => ?_⟩
    have := (mm _ (tg_getD (tg_len0 c))).2
    rw [e, Nat.zero_testBit] at this
    exact absurd this (by decide)
theorem tg_hg {L : Nat} {g : Nat → List Nat} (hg : ∀ p, p < 6 → tg_G L (g p)) : ∀ p, p < 6 → (g p).length ≤ 3 ∧ ∀ x, x ∈ g p → x < 5 := fun p hp => ⟨(hg p hp).1, (hg p hp).lt⟩
theorem tg_LI_t {L m : Nat} {li : Nat → Int32} (h : tg_LI L li) (hm : m < 5) (c : L.testBit m = true) : ¬ li (nI m).toNatClampNeg = 0 := by
  rw [nI_clamp (by omega), h m hm, if_pos c]; exact tg_d1
theorem tg_LI_f {L m : Nat} {li : Nat → Int32} (h : tg_LI L li) (hm : m < 5) (c : L.testBit m = false) : li (nI m).toNatClampNeg = 0 := by
  rw [nI_clamp (by omega), h m hm, c]; rfl
theorem tg_n4 {m : Nat} (h : m < 5) : ¬ (4 : Int32) < nI m := nI_nlt (a := 4) (b := m) (by omega) (by decide)
theorem i_vc_crash {k : Nat} {u : SX} {v : SY} (I : i_Rel k u v) (hk : k + 5 ≤ 2561) (v1 : Int32) : wpX_crash (fun r u' => wpY_crash (fun r' v' => r' = r ∧ i_Rel (k + 5) u' v') v v1) u v1 := by
  have J := i_up I
  obtain ⟨bk, lv, ds, fk, lo, ex, ht, vt, vv, rc, rr, ls, eT, eV, rN, rC, rR, dO, dC, tS, tO, tC, re, qN, qT, qK, qA, an, cR, sk, vh, vw, oc, li, ll, sz, va, yo, yg, le, pa, st, on, wa, rfl, rfl, hC, hD, hP, hQ, hF⟩ := I
  obtain ⟨b, L, g, hb, hL, rfl, rfl, hli, hg, hx, hy⟩ := hC
  have hg1 : ∀ p, p < 6 → tg_G L (g p) := fun p hp => (hg p hp).1
  unfold wpX_crash
  rcases pk_ix v1 (n := 5) (by decide) with h | h | ⟨m, hm, rfl⟩
  · exact tx_isM0 (Or.inl h) (br_t rfl (br_t h ⟨rfl, J⟩))
  · have B := tg_big h (by decide)
    exact tx_isM0 (Or.inr h) (br_t rfl (br_f B.1 (br_t (B.2 4 (by decide)).2 ⟨rfl, J⟩)))
  · have y1 : ¬ nI m < 0 := nI_pos (by omega)
    have i5 : vp_in (nI m) 5 := vp_in_nI hm (by decide)
    refine tx_isM1 hm (br_f tg_d1 ?_)
    by_cases c : L.testBit m = true
    · refine tx_in1 hL hm c (br_f tg_d1 (tx_dr hm hL hb (tg_hg hg1) hx (fun ls2 hx2 => br_f y1 (br_f (tg_n4 hm) ⟨i5, br_f (tg_LI_t hli hm c) (ty_dr hm hL hb hli (tg_hg hg1) hy (fun li2 ll2 sz2 wa2 hli2 hy2 => ?_))⟩))))
      exact ⟨rfl, i_mk ⟨b, tg_del L m, tg_g' g m (tg_del L m) b, hb, (tg_anb L hL m hm).1, rfl, rfl, hli2, tg_C_dr hb hL hm hg1, hx2, hy2⟩ (tg_dE_D hD 6) hP (tg_Q_up hQ) hF⟩
    · exact tx_in0 hL hm (tg_nf c) (br_t rfl (br_f y1 (br_f (tg_n4 hm) ⟨i5, br_t (tg_LI_f hli hm (tg_nf c)) ⟨rfl, J⟩⟩)))
/-! join -/
def tg_jg (g : Nat → List Nat) (m p : Nat) : List Nat := if g p = [] then [m] else g p
section JN
variable {bk : Int32} {lv : Int32} {ds : Int32} {fk : Int32} {lo : Int32} {ex : Int32} {ht : Int32} {vt : Int32} {vv : Int64} {rc : Int32} {rr : Int64} {ls : Nat → Int32} {eT : Nat → Int32} {eV : Nat → Int64} {rN : Nat → Int32} {rC : Nat → Int32} {rR : Nat → Int64} {dO : Nat → Int32} {dC : Nat → Int64} {tS : Nat → Int32} {tO : Nat → Int32} {tC : Nat → Int64} {re : Nat → Int32} {qN : Nat → Int32} {qT : Nat → Int32} {qK : Nat → Int32} {qA : Nat → Int32} {an : Nat → Int32} {cR : Nat → Int64} {sk : Nat → Int64} {vh : Int32} {vw : Int64} {oc : Int64} {li : Nat → Int32} {ll : Nat → Int32} {sz : Nat → Int32} {va : Nat → Int64} {yo : Nat → Int32} {yg : Nat → Int64} {le : Nat → Int32} {pa : Nat → Int32} {st : Nat → Int64} {on : Nat → Int32} {wa : Nat → Int32}
theorem tg_pk1 (m : Nat) : nI m + 1 = nI (tg_pk [m]) := by rw [nI_1]; rfl
theorem tx_jn_l {post : Int32 → SX → Prop} {m : Nat} {g : Nat → List Nat} (hm : m < 5)
    (hg : ∀ p, p < 6 → (g p).length ≤ 3 ∧ ∀ x, x ∈ g p → x < 5)
    (h : ∀ ls, tg_LX (tg_jg g m) ls → post 1 (bk, lv, ds, fk, lo, ex, ht, vt, vv, rc, rr, ls, eT, eV, rN, rC, rR, dO, dC, tS, tO, tC, re, qN, qT, qK, qA, an, cR, sk)) :
    ∀ d p n ls, p + d = 6 → d < n → tg_LX (tg_mix p (tg_jg g m) g) ls → wX_join_34 post (nI m) bk lv ds fk lo ex ht vt vv rc rr n (nI p) ls eT eV rN rC rR dO dC tS tO tC re qN qT qK qA an cR sk := by
  intro d
  induction d with
  | zero =>
    intro p n ls hp hn hls
    obtain ⟨n, rfl⟩ : ∃ k, n = k + 1 := ⟨n - 1, by omega⟩
    obtain rfl : p = 6 := by omega
    refine br_t (nI_le (a := 6) (b := 6) (by omega) (by decide)) (h ls ?_)
    intro q hq
    rw [hls q hq, tg_mix_lt hq]
  | succ d ih =>
    intro p n ls hp hn hls
    obtain ⟨n, rfl⟩ : ∃ k, n = k + 1 := ⟨n - 1, by omega⟩
    have p6 : p < 6 := by omega
    have cl : (nI p).toNatClampNeg = p := nI_clamp (by omega)
    have hp0 := hls p p6
    rw [tg_mix_ge (by omega)] at hp0
    have pl := tg_pk_lt (hg p p6).1 (hg p p6).2
    refine br_f (nI_ge (b := 6) (by omega) (by decide)) ⟨vp_in_nI p6 (by decide), ?_⟩
    by_cases c : g p = []
    · have I := ih (p + 1) n (upd ls p (nI m + 1)) (by omega) (by omega) (tg_lx_s hls (by unfold tg_jg; rw [if_pos c]; exact tg_pk1 m))
      refine br_t (by rw [cl, hp0, c]; rfl) ?_
      unfold wpX_aloneList
      exact ⟨vp_in_nI p6 (by decide), nm_r (tg_u rfl (by omega) rfl) (nm_r (nI_1 p) I)⟩
    · have I := ih (p + 1) n ls (by omega) (by omega) (by
        have z := tg_lx_s (v := ls p) hls (by unfold tg_jg; rw [if_neg c]; exact hp0)
        have e : upd ls p (ls p) = ls := by
          funext q
          unfold upd
          split
          · rename_i e; rw [e]
          · rfl
        rw [e] at z
        exact z)
      exact br_f (by rw [cl, hp0]; exact fun e => c (tg_pk_0.mp ((nI_eq (b := 0) (by omega) (by decide)).mp e))) (nm_r (nI_1 p) I)
theorem ty_jn_l {post : Int32 → SY → Prop} {m : Nat} {g : Nat → List Nat} (hm : m < 5)
    (hg : ∀ p, p < 6 → (g p).length ≤ 3 ∧ ∀ x, x ∈ g p → x < 5)
    (h : ∀ ll sz, tg_LY (tg_jg g m) ll sz → post 1 (bk, fk, lo, ex, vh, vw, oc, li, ll, sz, eT, va, rN, rC, rR, yo, yg, le, pa, st, qN, qT, qK, qA, on, cR, wa)) :
    ∀ d p n ll sz, p + d = 6 → d < n → tg_LY (tg_mix p (tg_jg g m) g) ll sz → wY_join_29 post (nI m) bk fk lo ex vh vw oc n (nI p) li ll sz eT va rN rC rR yo yg le pa st qN qT qK qA on cR wa := by
  have h3 : ∀ q, q < 6 → (tg_jg g m q).length ≤ 3 ∧ (g q).length ≤ 3 := by
    intro q hq
    refine ⟨?_, (hg q hq).1⟩
    unfold tg_jg
    split
    · simp
    · exact (hg q hq).1
  intro d
  induction d with
  | zero =>
    intro p n ll sz hp hn hls
    obtain ⟨n, rfl⟩ : ∃ k, n = k + 1 := ⟨n - 1, by omega⟩
    obtain rfl : p = 6 := by omega
    refine br_t (nI_le (a := 6) (b := 6) (by omega) (by decide)) (h ll sz ?_)
    intro q hq
    have z := hls q hq
    rw [tg_mix_lt hq] at z
    exact z
  | succ d ih =>
    intro p n ll sz hp hn hls
    obtain ⟨n, rfl⟩ : ∃ k, n = k + 1 := ⟨n - 1, by omega⟩
    have p6 : p < 6 := by omega
    have cl : (nI p).toNatClampNeg = p := nI_clamp (by omega)
    have hp0 := hls p p6
    rw [tg_mix_ge (by omega)] at hp0
    have gl := (hg p p6).1
    refine br_f (nI_ge (b := 6) (by omega) (by decide)) ⟨vp_in_nI p6 (by decide), ?_⟩
    by_cases c : g p = []
    · have I := ih (p + 1) n (upd ll (5 * p) (nI m)) (upd sz p 1) (by omega) (by omega) (tg_ly_s hls (fun q hq => pk_un hq) (fun q hq => pk_un (by omega)) h3 (by
        unfold tg_jg
        rw [if_pos c, pk_us]
        refine ⟨rfl, fun j hj => ?_⟩
        simp at hj
        subst hj
        exact pk_us))
      exact br_t (by rw [cl, hp0.1, c]; decide) ⟨tg_vi (tg_5p p) (by omega) (by decide), nm_r (tg_u (tg_5p p) (by omega) (tg_vB2 (by omega))) ⟨vp_in_nI p6 (by decide), nm_r (tg_u rfl (by omega) (tg_vB (n := 1) (by decide))) (nm_r (nI_1 p) I)⟩⟩
    · have l0 := tg_len0 c
      have I := ih (p + 1) n ll sz (by omega) (by omega) (tg_ly_s hls (fun q hq => rfl) (fun q hq => rfl) h3 (by
        unfold tg_jg
        rw [if_neg c]
        exact hp0))
      exact br_f (by rw [cl, hp0.1]; exact nI_nle l0 (by omega)) (nm_r (nI_1 p) I)
end JN
theorem i_vc_join {k : Nat} {u : SX} {v : SY} (I : i_Rel k u v) (hk : k + 5 ≤ 2561) (v1 : Int32) : wpX_join (fun r u' => wpY_join (fun r' v' => r' = r ∧ i_Rel (k + 5) u' v') v v1) u v1 := by
  have J := i_up I
  obtain ⟨bk, lv, ds, fk, lo, ex, ht, vt, vv, rc, rr, ls, eT, eV, rN, rC, rR, dO, dC, tS, tO, tC, re, qN, qT, qK, qA, an, cR, sk, vh, vw, oc, li, ll, sz, va, yo, yg, le, pa, st, on, wa, rfl, rfl, hC, hD, hP, hQ, hF⟩ := I
  obtain ⟨b, L, g, hb, hL, rfl, rfl, hli, hg, hx, hy⟩ := hC
  have hg1 : ∀ p, p < 6 → tg_G L (g p) := fun p hp => (hg p hp).1
  unfold wpX_join
  rcases pk_ix v1 (n := 5) (by decide) with h | h | ⟨m, hm, rfl⟩
  · exact tx_isM0 (Or.inl h) (br_t rfl (br_t h ⟨rfl, J⟩))
  · have B := tg_big h (by decide)
    exact tx_isM0 (Or.inr h) (br_t rfl (br_f B.1 (br_t (B.2 4 (by decide)).2 ⟨rfl, J⟩)))
  · have y1 : ¬ nI m < 0 := nI_pos (by omega)
    have i5 : vp_in (nI m) 5 := vp_in_nI hm (by decide)
    refine tx_isM1 hm (br_f tg_d1 ?_)
    by_cases c : L.testBit m = true
    · exact tx_in1 hL hm c (br_f tg_d1 (br_f y1 (br_f (tg_n4 hm) ⟨i5, br_f (tg_LI_t hli hm c) ⟨rfl, J⟩⟩)))
    · have O := tg_orb L hL m hm
      refine tx_in0 hL hm (tg_nf c) (br_t rfl (nm_r (tg_or L hL m hm) ⟨7, tx_jn_l hm (tg_hg hg1) (fun ls2 hx2 => ?_) 6 0 7 ls (by omega) (by omega) (fun q hq => by rw [tg_mix_ge (by omega)]; exact hx q hq)⟩))
      refine br_f y1 (br_f (tg_n4 hm) ⟨i5, br_t (tg_LI_f hli hm (tg_nf c)) ⟨i5, nm_r (tg_u rfl (by omega) tg_vb1) ⟨7, ty_jn_l hm (tg_hg hg1) (fun ll2 sz2 hy2 => ?_) 6 0 7 ll sz (by omega) (by omega) (fun q hq => by rw [tg_mix_ge (by omega)]; exact hy q hq)⟩⟩⟩)
      refine ⟨rfl, i_mk ⟨b, L ||| 2 ^ m, tg_jg g m, hb, O.1, rfl, rfl, tg_LI_o hL hm hli, fun p hp => ?_, hx2, hy2⟩ hD hP (tg_Q_up hQ) hF⟩
      unfold tg_jg
      by_cases e : g p = []
      · rw [if_pos e]
        refine ⟨⟨by simp, fun x hx => ?_⟩, by simp [O.2.1]⟩
        rw [List.mem_singleton] at hx
        subst hx
        exact ⟨hm, by rw [O.2.2 x hm]; simp⟩
      · rw [if_neg e]
        refine ⟨⟨(hg1 p hp).1, fun x hx => ?_⟩, fun z => absurd z e, fun z => absurd z O.2.1⟩
        have := (hg1 p hp).2 x hx
        exact ⟨this.1, by rw [O.2.2 x this.1, this.2]; simp⟩
theorem i_vc_code {k : Nat} {u : SX} {v : SY} (I : i_Rel k u v) (hk : k + 5 ≤ 2561) (v1 : Int32) (a1 : Int64) : wpX_code (fun r u' => wpY_code (fun r' v' => r' = r ∧ i_Rel (k + 5) u' v') v v1 a1) u v1 a1 := by
  have J := i_up I
  obtain ⟨bk, lv, ds, fk, lo, ex, ht, vt, vv, rc, rr, ls, eT, eV, rN, rC, rR, dO, dC, tS, tO, tC, re, qN, qT, qK, qA, an, cR, sk, vh, vw, oc, li, ll, sz, va, yo, yg, le, pa, st, on, wa, rfl, rfl, hC, hD, hP, hQ, hF⟩ := I
  by_cases h0 : v1 < 0
  · exact br_t h0 (br_t h0 ⟨rfl, J⟩)
  · by_cases h23 : 23 < v1
    · exact br_f h0 (br_t h23 (br_f h0 (br_t h23 ⟨rfl, J⟩)))
    · obtain ⟨w, hw, rfl⟩ := nI_of2 (x := v1) (M := 23) (n := 23) (by decide) h0 (Int32.not_lt.mp h23)
      obtain ⟨⟨n, hn, rfl, hl, hd⟩, ht⟩ := hP
      by_cases c : n < 16
      · have e16 : ¬ le 4 = 16 := by rw [hl]; exact fun z => by have := (nI_eq (a := n) (b := 16) (by omega) (by decide)).mp z; omega
        have e64 : 64 + le 4 = nI (64 + n) := by rw [hl]; exact nI_add 64 n
        refine br_f h0 (br_f h23 (br_t (nI_lt (b := 16) c (by decide)) ⟨vp_in_nI c (by decide), nm_r (tg_u rfl (by omega) rfl) ⟨vp_in_nI c (by decide), nm_r (tg_uL rfl (by omega) rfl) (nm_r (nI_1 n) ?_)⟩⟩))
        refine br_f h0 (br_f h23 (br_f e16 ⟨tg_vi e64 (by omega) (by decide), nm_r (tg_u e64 (by omega) (tg_vB2 (by omega))) (nm_r (e' := upd le 4 (nI (n + 1))) ?_ ⟨tg_vi e64 (by omega) (by decide), nm_r (tg_uL e64 (by omega) rfl) ⟨rfl, i_mk hC hD ?_ (tg_Q_up hQ) hF⟩⟩)⟩))
        · rw [hl, nI_1, tg_vB2 (by omega)]
        · refine ⟨⟨n + 1, by omega, rfl, pk_us, fun i hi => ?_⟩, fun t h4 => ?_⟩
          · by_cases e : i = n
            · subst e
              exact ⟨w, by omega, pk_us, pk_us, by rw [pk_uLs, pk_uLs]⟩
            · obtain ⟨w2, a, b2, c2, d2⟩ := hd i (by omega)
              exact ⟨w2, a, by rw [pk_un e]; exact b2, by rw [pk_un (by omega)]; exact c2, by rw [pk_uLn (by omega), pk_uLn e]; exact d2⟩
          · obtain ⟨z, hz, e1, e2, e3, e4⟩ := ht t h4
            have oe : ∀ i, i < z → upd yo (64 + n) (nI w) (16 * t + i) = yo (16 * t + i) := fun i hi => pk_un (by omega)
            have ge : ∀ i, i < z → vp_updL yg (64 + n) a1 (16 * t + i) = yg (16 * t + i) := fun i hi => pk_uLn (by omega)
            refine ⟨z, hz, e1, by rw [pk_un (by omega)]; exact e2, fun i hi => by rw [oe i hi, ge i hi]; exact e3 i hi, fun hz0 => ?_⟩
            obtain ⟨w2, f1, f2⟩ := e4 hz0
            exact ⟨w2, fun i hi => by rw [oe i hi]; exact f1 i hi, tg_Ver_c (fun i hi => (ge i hi).symm) f2⟩
      · obtain rfl : n = 16 := by omega
        exact br_f h0 (br_f h23 (br_f (by decide) (br_f h0 (br_f h23 (br_t hl ⟨rfl, J⟩)))))
end
section
/-! 10: leave -/
def tg_ho (g : Nat → List Nat) (m L b p : Nat) : List Nat := if g p = [m] ∧ L ≠ 0 then (tg_w p L b 5).take 1 else g p
section LV
variable {bk : Int32} {lv : Int32} {ds : Int32} {fk : Int32} {lo : Int32} {ex : Int32} {ht : Int32} {vt : Int32} {vv : Int64} {rc : Int32} {rr : Int64} {ls : Nat → Int32} {eT : Nat → Int32} {eV : Nat → Int64} {rN : Nat → Int32} {rC : Nat → Int32} {rR : Nat → Int64} {dO : Nat → Int32} {dC : Nat → Int64} {tS : Nat → Int32} {tO : Nat → Int32} {tC : Nat → Int64} {re : Nat → Int32} {qN : Nat → Int32} {qT : Nat → Int32} {qK : Nat → Int32} {qA : Nat → Int32} {an : Nat → Int32} {cR : Nat → Int64} {sk : Nat → Int64} {vh : Int32} {vw : Int64} {oc : Int64} {li : Nat → Int32} {ll : Nat → Int32} {sz : Nat → Int32} {va : Nat → Int64} {yo : Nat → Int32} {yg : Nat → Int64} {le : Nat → Int32} {pa : Nat → Int32} {st : Nat → Int64} {on : Nat → Int32} {wa : Nat → Int32}
theorem tg_upd_id {f : Nat → Int32} {p : Nat} : upd f p (f p) = f := by
  funext q
  unfold upd
  split
  · rename_i e; rw [e]
  · rfl
theorem tg_lx_k {p : Nat} {g' g : Nat → List Nat} {ls : Nat → Int32} (h : tg_LX (tg_mix p g' g) ls) (hp : p < 6) (e : g' p = g p) : tg_LX (tg_mix (p + 1) g' g) ls := by
  have z := tg_lx_s (v := ls p) h (by have := h p hp; rw [tg_mix_ge (by omega)] at this; rw [e]; exact this)
  rw [tg_upd_id] at z
  exact z
theorem tg_ly_k {p : Nat} {g' g : Nat → List Nat} {ll sz : Nat → Int32} (h : tg_LY (tg_mix p g' g) ll sz) (hp : p < 6) (e : g' p = g p) (h3 : ∀ q, q < 6 → (g' q).length ≤ 3 ∧ (g q).length ≤ 3) : tg_LY (tg_mix (p + 1) g' g) ll sz :=
  tg_ly_s h (fun q _ => rfl) (fun q _ => rfl) h3 (by have := h p hp; rw [tg_mix_ge (by omega)] at this; rw [e]; exact this)
theorem tx_ho_l {post : SX → Prop} {m L b : Nat} {g : Nat → List Nat} (hm : m < 5) (hL : L < 32) (hL0 : L ≠ 0) (hb : b ≤ 2)
    (hg : ∀ p, p < 6 → (g p).length ≤ 3 ∧ ∀ x, x ∈ g p → x < 5)
    (h : ∀ ls, tg_LX (tg_ho g m L b) ls → post ((nI b), lv, ds, fk, lo, ex, ht, vt, vv, rc, rr, ls, eT, eV, rN, rC, rR, dO, dC, tS, tO, tC, re, qN, qT, qK, qA, an, cR, sk)) :
    ∀ d p n ls, p + d = 6 → d < n → tg_LX (tg_mix p (tg_ho g m L b) g) ls → wX_handOver_8 post (nI L) (nI m + 1) (nI b) lv ds fk lo ex ht vt vv rc rr n (nI p) ls eT eV rN rC rR dO dC tS tO tC re qN qT qK qA an cR sk := by
  intro d
  induction d with
  | zero =>
    intro p n ls hp hn hls
    obtain ⟨n, rfl⟩ : ∃ k, n = k + 1 := ⟨n - 1, by omega⟩
    obtain rfl : p = 6 := by omega
    refine br_t (nI_le (a := 6) (b := 6) (by omega) (by decide)) (h ls ?_)
    intro q hq
    rw [hls q hq, tg_mix_lt hq]
  | succ d ih =>
    intro p n ls hp hn hls
    obtain ⟨n, rfl⟩ : ∃ k, n = k + 1 := ⟨n - 1, by omega⟩
    have p6 : p < 6 := by omega
    have cl : (nI p).toNatClampNeg = p := nI_clamp (by omega)
    have hp0 := hls p p6
    rw [tg_mix_ge (by omega)] at hp0
    have pl := tg_pk_lt (hg p p6).1 (hg p p6).2
    have G := tg_w_G (p := p) (L := L) hb 5
    refine br_f (nI_ge (b := 6) (by omega) (by decide)) ⟨vp_in_nI p6 (by decide), ?_⟩
    by_cases c : g p = [m]
    · have I := ih (p + 1) n (upd ls p (nI (tg_pk ((tg_w p L b 5).take 1)))) (by omega) (by omega) (tg_lx_s hls (by unfold tg_ho; rw [if_pos ⟨c, hL0⟩]))
      exact br_t (by rw [cl, hp0, c]; exact (tg_pk1 m).symm) (tx_wl p6 hL hb (tx_fa G.1 G.lt ⟨vp_in_nI p6 (by decide), nm_r (tg_u rfl (by omega) rfl) (nm_r (nI_1 p) I)⟩))
    · have I := ih (p + 1) n ls (by omega) (by omega) (tg_lx_k hls p6 (if_neg (fun z => c z.1)))
      refine br_f ?_ (nm_r (nI_1 p) I)
      rw [cl, hp0, tg_pk1]
      intro e
      have z := (nI_eq (by omega) (by simp [tg_pk]; omega)).mp e
      exact c (tg_pk_inj (hg p p6).2 (fun x hx => by rw [List.mem_singleton] at hx; omega) z)
theorem tg_one {g : List Nat} {m : Nat} : g = [m] ↔ g.length = 1 ∧ g.getD 0 0 = m := by
  match g with
  | [] => simp
  | [a] => simp
  | a :: b :: r => simp
theorem ty_lv_l {post : Int32 → SY → Prop} {m L b : Nat} {g : Nat → List Nat} (hm : m < 5) (hL : L < 32) (hb : b ≤ 2) (hli : ∀ x, x < 5 → (L.testBit x = true ↔ (¬ li x = 0 ∧ ¬ nI x = nI m)))
    (hg : ∀ p, p < 6 → (g p).length ≤ 3 ∧ ∀ x, x ∈ g p → x < 5)
    (h : ∀ ll wa, tg_LY (tg_ho g m L b) ll sz → wpY_dropOut (fun u => post 1 u) ((nI b), fk, lo, ex, vh, vw, oc, li, ll, sz, eT, va, rN, rC, rR, yo, yg, le, pa, st, qN, qT, qK, qA, on, cR, wa) (nI m)) :
    ∀ d p n ll wa, p + d = 6 → d < n → tg_LY (tg_mix p (tg_ho g m L b) g) ll sz → wY_leave_22 post (nI m) n (nI p) (nI b) fk lo ex vh vw oc li ll sz eT va rN rC rR yo yg le pa st qN qT qK qA on cR wa := by
  have h3 : ∀ q, q < 6 → (tg_ho g m L b q).length ≤ 3 ∧ (g q).length ≤ 3 := by
    intro q hq
    refine ⟨?_, (hg q hq).1⟩
    unfold tg_ho
    split
    · rw [List.length_take]; omega
    · exact (hg q hq).1
  intro d
  induction d with
  | zero =>
    intro p n ll wa hp hn hls
    obtain ⟨n, rfl⟩ : ∃ k, n = k + 1 := ⟨n - 1, by omega⟩
    obtain rfl : p = 6 := by omega
    refine br_t (nI_le (a := 6) (b := 6) (by omega) (by decide)) (h ll wa ?_)
    intro q hq
    have z := hls q hq
    rw [tg_mix_lt hq] at z
    exact z
  | succ d ih =>
    intro p n ll wa hp hn hls
    obtain ⟨n, rfl⟩ : ∃ k, n = k + 1 := ⟨n - 1, by omega⟩
    have p6 : p < 6 := by omega
    have i6 : vp_in (nI p) 6 := vp_in_nI p6 (by decide)
    have cl : (nI p).toNatClampNeg = p := nI_clamp (by omega)
    have c5 : (5 * nI p).toNatClampNeg = 5 * p := by rw [tg_5p, nI_clamp (by omega)]
    have hp0 := hls p p6
    rw [tg_mix_ge (by omega)] at hp0
    have gl := (hg p p6).1
    refine br_f (nI_ge (b := 6) (by omega) (by decide)) ?_
    by_cases c1 : (g p).length = 1
    · have c1' : sz (nI p).toNatClampNeg = 1 := by rw [cl, hp0.1, c1]; rfl
      have l0 := hp0.2 0 (by omega)
      have a5 := (hg p p6).2 _ (tg_getD (g := g p) (j := 0) (by omega))
      unfold wpY_alone
      by_cases c2 : (g p).getD 0 0 = m
      · have c : g p = [m] := tg_one.mpr ⟨c1, c2⟩
        refine ⟨i6, br_t c1' ⟨tg_vi (tg_5p p) (by omega) (by decide), br_t (by rw [c5]; rw [← c2]; exact l0) (br_f tg_d1 (ty_wt p6 hb hli (fun wa2 hw => ?_)))⟩⟩
        have W := tg_w_0 p p6 L hL b (by omega)
        have wl := tg_w_len p L b 5
        by_cases e : tg_w p L b 5 = []
        · have I := ih (p + 1) n ll wa2 (by omega) (by omega) (tg_ly_k hls p6 (if_neg (fun z => z.2 (W.mp e))) h3)
          exact br_t (by rw [e]; decide) (nm_r (nI_1 p) I)
        · have w0 := hw 0 (tg_len0 e)
          have m0 := (tg_w_mem p L b 5 _ (tg_getD (tg_len0 e))).1
          have ep := tg_len0 e
          have I := ih (p + 1) n (upd ll (5 * p) (wa2 0)) wa2 (by omega) (by omega) (tg_ly_s hls (fun q _ => rfl) (fun q hq => pk_un (by omega)) h3 (by
            unfold tg_ho
            rw [if_pos ⟨c, fun z => e (W.mpr z)⟩, (tg_take1 e).1]
            refine ⟨by rw [hp0.1, c1], fun j hj => ?_⟩
            obtain rfl : j = 0 := by omega
            rw [(tg_take1 e).2]
            show upd ll (5 * p) (wa2 0) (5 * p) = _
            rw [pk_us]; exact w0))
          exact br_f (nI_nle ep (by omega)) ⟨tg_vi (tg_5p p) (by omega) (by decide), nm_r (tg_u (w := wa2 0) (tg_5p p) (by omega) (by rw [w0]; exact tg_vB (by omega))) (nm_r (nI_1 p) I)⟩
      · have I := ih (p + 1) n ll wa (by omega) (by omega) (tg_ly_k hls p6 (if_neg (fun z => c2 (tg_one.mp z.1).2)) h3)
        refine ⟨i6, br_t c1' ⟨tg_vi (tg_5p p) (by omega) (by decide), br_f ?_ (br_t rfl (nm_r (nI_1 p) I))⟩⟩
        rw [c5]
        have l0' : ll (5 * p) = nI ((g p).getD 0 0) := l0
        rw [l0']
        exact fun z => c2 ((nI_eq (by omega) (by omega)).mp z)
    · have I := ih (p + 1) n ll wa (by omega) (by omega) (tg_ly_k hls p6 (if_neg (fun z => c1 (tg_one.mp z.1).1)) h3)
      unfold wpY_alone
      refine ⟨i6, br_f ?_ (br_t rfl (nm_r (nI_1 p) I))⟩
      rw [cl, hp0.1]
      exact fun z => c1 ((nI_eq (b := 1) (by omega) (by decide)).mp z)
theorem tg_ho_G {b L m : Nat} {g : Nat → List Nat} (hL : L < 32) (hm : m < 5) (hg : ∀ p, p < 6 → tg_G L (g p)) : ∀ p, p < 6 → tg_G L (tg_ho g m (tg_del L m) b p) := by
  intro p hp
  have A := tg_anb L hL m hm
  unfold tg_ho
  split
  · refine ⟨by rw [List.length_take]; omega, fun x hx => ?_⟩
    have z := tg_w_mem _ _ _ _ x (tg_take_mem hx)
    have y := z.2
    rw [A.2 x z.1, Bool.and_eq_true] at y
    exact ⟨z.1, y.2⟩
  · exact hg p hp
end LV
theorem i_vc_leave {k : Nat} {u : SX} {v : SY} (I : i_Rel k u v) (hk : k + 5 ≤ 2561) (v1 : Int32) : wpX_leave (fun r u' => wpY_leave (fun r' v' => r' = r ∧ i_Rel (k + 5) u' v') v v1) u v1 := by
  have J := i_up I
  obtain ⟨bk, lv, ds, fk, lo, ex, ht, vt, vv, rc, rr, ls, eT, eV, rN, rC, rR, dO, dC, tS, tO, tC, re, qN, qT, qK, qA, an, cR, sk, vh, vw, oc, li, ll, sz, va, yo, yg, le, pa, st, on, wa, rfl, rfl, hC, hD, hP, hQ, hF⟩ := I
  obtain ⟨b, L, g, hb, hL, rfl, rfl, hli, hg, hx, hy⟩ := hC
  have hg1 : ∀ p, p < 6 → tg_G L (g p) := fun p hp => (hg p hp).1
  unfold wpX_leave
  rcases pk_ix v1 (n := 5) (by decide) with h | h | ⟨m, hm, rfl⟩
  · exact tx_isM0 (Or.inl h) (br_t rfl (br_t h ⟨rfl, J⟩))
  · have B := tg_big h (by decide)
    exact tx_isM0 (Or.inr h) (br_t rfl (br_f B.1 (br_t (B.2 4 (by decide)).2 ⟨rfl, J⟩)))
  · have y1 : ¬ nI m < 0 := nI_pos (by omega)
    have i5 : vp_in (nI m) 5 := vp_in_nI hm (by decide)
    have A := tg_anb L hL m hm
    refine tx_isM1 hm (br_f tg_d1 ?_)
    by_cases c : L.testBit m = true
    · have hh := tg_ho_G (b := b) hL hm hg1
      have Y : ∀ ls2, tg_LX (tg_g' (tg_ho g m (tg_del L m) b) m (tg_del L m) b) ls2 → wpY_leave (fun r' v' => r' = 1 ∧ i_Rel (k + 5) ((nI b), (nI (tg_del L m)), ds, fk, (tg_dL (tg_lz (tg_ho g m (tg_del L m) b) m) lo 6), ex, ht, vt, vv, rc, rr, ls2, (tg_dE (tg_lz (tg_ho g m (tg_del L m) b) m) eT 6), (tg_dV (tg_lz (tg_ho g m (tg_del L m) b) m) eV 6), (tg_dN (tg_lz (tg_ho g m (tg_del L m) b) m) rN 6), rC, rR, dO, dC, tS, tO, tC, re, qN, qT, qK, qA, an, cR, sk) v') ((nI b), fk, lo, ex, vh, vw, oc, li, ll, sz, eT, va, rN, rC, rR, yo, yg, le, pa, st, qN, qT, qK, qA, on, cR, wa) (nI m) := by
        intro ls2 hx2
        refine br_f y1 (br_f (tg_n4 hm) ⟨i5, br_f (tg_LI_t hli hm c) ⟨7, ty_lv_l (L := tg_del L m) hm A.1 hb (tg_LI_d hL hm hli) (tg_hg hg1) (fun ll2 wa2 hy2 => ?_) 6 0 7 ll wa (by omega) (by omega) (fun q hq => by rw [tg_mix_ge (by omega)]; exact hy q hq)⟩⟩)
        refine ty_dr hm hL hb hli (tg_hg hh) hy2 (fun li3 ll3 sz3 wa3 hli3 hy3 => ?_)
        exact ⟨rfl, i_mk ⟨b, tg_del L m, _, hb, A.1, rfl, rfl, hli3, tg_C_dr hb hL hm hh, hx2, hy3⟩ (tg_dE_D hD 6) hP (tg_Q_up hQ) hF⟩
      refine tx_in1 hL hm c (br_f tg_d1 (nm_r (tg_an L hL m hm) ?_))
      by_cases z : tg_del L m = 0
      · refine br_t (by rw [z]; rfl) ?_
        unfold wX_leave_41
        refine tx_dr (g := tg_ho g m (tg_del L m) b) hm hL hb (tg_hg hh) (fun q hq => ?_) Y
        rw [hx q hq, show tg_ho g m (tg_del L m) b q = g q from if_neg (fun y => y.2 z)]
      · refine br_f (nI_ne0 (by omega) (by omega)) ?_
        unfold wpX_handOver wpX_aloneList
        refine ⟨7, tx_ho_l hm A.1 z hb (tg_hg hg1) (fun ls1 hx1 => ?_) 6 0 7 ls (by omega) (by omega) (fun q hq => by rw [tg_mix_ge (by omega)]; exact hx q hq)⟩
        show wX_leave_41 _ _ _ _ _ _ _ _ _ _ _ _ _ _ _ _ _ _ _ _ _ _ _ _ _ _ _ _ _ _ _ _
        unfold wX_leave_41
        exact tx_dr hm hL hb (tg_hg hh) hx1 Y
    · exact tx_in0 hL hm (tg_nf c) (br_t rfl (br_f y1 (br_f (tg_n4 hm) ⟨i5, br_t (tg_LI_f hli hm (tg_nf c)) ⟨rfl, J⟩⟩)))
end
section
/-! 11: migrate -/
section MG
variable {bk : Int32} {lv : Int32} {ds : Int32} {fk : Int32} {lo : Int32} {ex : Int32} {ht : Int32} {vt : Int32} {vv : Int64} {rc : Int32} {rr : Int64} {ls : Nat → Int32} {eT : Nat → Int32} {eV : Nat → Int64} {rN : Nat → Int32} {rC : Nat → Int32} {rR : Nat → Int64} {dO : Nat → Int32} {dC : Nat → Int64} {tS : Nat → Int32} {tO : Nat → Int32} {tC : Nat → Int64} {re : Nat → Int32} {qN : Nat → Int32} {qT : Nat → Int32} {qK : Nat → Int32} {qA : Nat → Int32} {an : Nat → Int32} {cR : Nat → Int64} {sk : Nat → Int64} {vh : Int32} {vw : Int64} {oc : Int64} {li : Nat → Int32} {ll : Nat → Int32} {sz : Nat → Int32} {va : Nat → Int64} {yo : Nat → Int32} {yg : Nat → Int64} {le : Nat → Int32} {pa : Nat → Int32} {st : Nat → Int64} {on : Nat → Int32} {wa : Nat → Int32}
theorem tx_mg_l {post : Int32 → SX → Prop} {L b : Nat} {g : Nat → List Nat} (hL : L < 32) (hb : b ≤ 2) (hg : ∀ p, p < 6 → tg_G L (g p)) (hx : tg_LX g ls)
    (hf : ∀ q, q < 6 → (∀ r, r < q → g r = tg_w r L b 5) → ¬ g q = tg_w q L b 5 → post (nI q) ((nI b), (nI L), ds, fk, lo, ex, ht, vt, vv, rc, rr, (upd ls q (nI (tg_pk (tg_w q L b 5)))), eT, eV, rN, rC, rR, dO, dC, tS, tO, tC, re, qN, qT, qK, qA, an, cR, sk))
    (hn : (∀ r, r < 6 → g r = tg_w r L b 5) → post (-1) ((nI b), (nI L), ds, fk, lo, ex, ht, vt, vv, rc, rr, ls, eT, eV, rN, rC, rR, dO, dC, tS, tO, tC, re, qN, qT, qK, qA, an, cR, sk)) :
    ∀ d p n, p + d = 6 → d < n → (∀ r, r < p → g r = tg_w r L b 5) → wX_migrate_2 post (nI b) (nI L) ds fk lo ex ht vt vv rc rr ls eT eV rN rC rR dO dC tS tO tC re qN qT qK qA an cR sk n (nI p) := by
  intro d
  induction d with
  | zero =>
    intro p n hp hn2 hr
    obtain ⟨n, rfl⟩ : ∃ k, n = k + 1 := ⟨n - 1, by omega⟩
    obtain rfl : p = 6 := by omega
    exact br_t (nI_le (a := 6) (b := 6) (by omega) (by decide)) (hn hr)
  | succ d ih =>
    intro p n hp hn2 hr
    obtain ⟨n, rfl⟩ : ∃ k, n = k + 1 := ⟨n - 1, by omega⟩
    have p6 : p < 6 := by omega
    have i6 : vp_in (nI p) 6 := vp_in_nI p6 (by decide)
    have cl : (nI p).toNatClampNeg = p := nI_clamp (by omega)
    have G := tg_w_G (p := p) (L := L) hb 5
    have l1 := tg_pk_lt (hg p p6).1 (hg p p6).lt
    have l2 := tg_pk_lt G.1 G.lt
    refine br_f (nI_ge (b := 6) (by omega) (by decide)) (tx_wl p6 hL hb ⟨i6, ?_⟩)
    rw [cl, hx p p6]
    by_cases c : g p = tg_w p L b 5
    · refine br_t (by rw [c]) (nm_r (nI_1 p) (ih (p + 1) n (by omega) (by omega) (fun r h => ?_)))
      by_cases e : r = p
      · rw [e]; exact c
      · exact hr r (by omega)
    · exact br_f (fun z => c (tg_pk_inj (hg p p6).lt G.lt ((nI_eq (by omega) (by omega)).mp z))) ⟨i6, nm_e (hf p p6 hr c)⟩
/-- Y's comparison of a list with the wanted one -/
theorem ty_mc_l {post : Int32 → SY → Prop} {J : Int32 → Int32 → Int32 → Int32 → Int32 → Int32 → Int64 → Int64 → (Nat → Int32) → (Nat → Int32) → (Nat → Int32) → (Nat → Int32) → (Nat → Int64) → (Nat → Int32) → (Nat → Int32) → (Nat → Int64) → (Nat → Int32) → (Nat → Int64) → (Nat → Int32) → (Nat → Int32) → (Nat → Int64) → (Nat → Int32) → (Nat → Int32) → (Nat → Int32) → (Nat → Int32) → (Nat → Int32) → (Nat → Int64) → (Nat → Int32) → Prop} {w g : List Nat} {p : Nat} (hp : p < 6) (hw3 : w.length ≤ 3) (hg3 : g.length ≤ 3) (hw5 : ∀ x, x ∈ w → x < 5) (hg5 : ∀ x, x ∈ g → x < 5)
    (hw : tg_WA w wa) (hll : ∀ j, j < g.length → ll (5 * p + j) = nI (g.getD j 0))
    (hJ : g = w → J (nI (p + 1)) bk fk lo ex vh vw oc li ll sz eT va rN rC rR yo yg le pa st qN qT qK qA on cR wa) (hN : ¬ g = w → ∃ n, wY_migrate_79 post (nI p) (nI w.length) bk fk lo ex vh vw oc n 0 li ll sz eT va rN rC rR yo yg le pa st qN qT qK qA on cR wa) :
    ∀ d k n f, k + d = w.length → d < n → (f = 1 ∧ g.length = w.length ∧ (∀ j, j < k → g.getD j 0 = w.getD j 0) ∨ f = 0 ∧ ¬ g = w) → wY_migrate_34 post J (nI p) (nI w.length) bk fk lo ex vh vw oc li ll sz eT va rN rC rR yo yg le pa st qN qT qK qA on cR wa n f (nI k) := by
  intro d
  induction d with
  | zero =>
    intro k n f hk hn hf
    obtain ⟨n, rfl⟩ : ∃ k, n = k + 1 := ⟨n - 1, by omega⟩
    obtain rfl : k = w.length := by omega
    refine br_t (nI_le (Nat.le_refl _) (by omega)) ?_
    rcases hf with ⟨rfl, e, a⟩ | ⟨rfl, e⟩
    · have z : g = w := by
        apply List.ext_getElem e
        intro i h1 h2
        have y := a i h2
        rw [List.getD_eq_getElem?_getD, List.getD_eq_getElem?_getD, List.getElem?_eq_getElem h1, List.getElem?_eq_getElem h2] at y
        exact y
      exact br_f tg_d1 (nm_r (nI_1 p) (hJ z))
    · exact br_t rfl (hN e)
  | succ d ih =>
    intro k n f hk hn hf
    obtain ⟨n, rfl⟩ : ∃ k, n = k + 1 := ⟨n - 1, by omega⟩
    have ck : (nI k).toNatClampNeg = k := nI_clamp (by omega)
    have c5 : (5 * nI p + nI k).toNatClampNeg = 5 * p + k := by rw [tg_5i, nI_clamp (by omega)]
    refine br_f (nI_ge (by omega) (by omega)) ⟨tg_vi (tg_5i p k) (by omega) (by decide), vp_in_nI (by omega) (by decide), ?_⟩
    rw [c5, ck, hw k (by omega)]
    have w5 := hw5 _ (tg_getD (g := w) (j := k) (by omega))
    rcases hf with ⟨rfl, e, a⟩ | ⟨rfl, e⟩
    · have g5 := hg5 _ (tg_getD (g := g) (j := k) (by omega))
      rw [hll k (by omega)]
      by_cases z : g.getD k 0 = w.getD k 0
      · refine br_t (by rw [z]) (nm_r (nI_1 k) (ih (k + 1) n 1 (by omega) (by omega) (Or.inl ⟨rfl, e, fun j hj => ?_⟩)))
        by_cases y : j = k
        · rw [y]; exact z
        · exact a j (by omega)
      · exact br_f (fun y => z ((nI_eq (by omega) (by omega)).mp y)) (nm_r (nI_1 k) (ih (k + 1) n 0 (by omega) (by omega) (Or.inr ⟨rfl, fun y => z (by rw [y])⟩)))
    · have I := ih (k + 1) n 0 (by omega) (by omega) (Or.inr ⟨rfl, e⟩)
      exact br_c (fun _ => nm_r (nI_1 k) I) (fun _ => nm_r (nI_1 k) I)
/-- Y's copy of the wanted list -/
theorem ty_mw_l {post : Int32 → SY → Prop} {w : List Nat} {p : Nat} {l0 : Nat → Int32} (hp : p < 6) (hw3 : w.length ≤ 3) (hw5 : ∀ x, x ∈ w → x < 5) (hw : tg_WA w wa)
    (h : ∀ ll, (∀ j, j < w.length → ll (5 * p + j) = nI (w.getD j 0)) → (∀ q, q < 5 * p ∨ 5 * p + 5 ≤ q → ll q = l0 q) → post (nI p) (bk, fk, lo, ex, vh, vw, oc, li, ll, (upd sz p (nI w.length)), eT, va, rN, rC, rR, yo, yg, le, pa, st, qN, qT, qK, qA, on, cR, wa)) :
    ∀ d k n ll, k + d = w.length → d < n → (∀ j, j < k → ll (5 * p + j) = nI (w.getD j 0)) → (∀ q, q < 5 * p ∨ 5 * p + 5 ≤ q → ll q = l0 q) → wY_migrate_79 post (nI p) (nI w.length) bk fk lo ex vh vw oc n (nI k) li ll sz eT va rN rC rR yo yg le pa st qN qT qK qA on cR wa := by
  intro d
  induction d with
  | zero =>
    intro k n ll hk hn h1 h2
    obtain ⟨n, rfl⟩ : ∃ k, n = k + 1 := ⟨n - 1, by omega⟩
    obtain rfl : k = w.length := by omega
    exact br_t (nI_le (Nat.le_refl _) (by omega)) ⟨vp_in_nI hp (by decide), nm_r (tg_u rfl (by omega) (tg_vB2 (by omega))) (h ll h1 h2)⟩
  | succ d ih =>
    intro k n ll hk hn h1 h2
    obtain ⟨n, rfl⟩ : ∃ k, n = k + 1 := ⟨n - 1, by omega⟩
    have ck : (nI k).toNatClampNeg = k := nI_clamp (by omega)
    have w5 := hw5 _ (tg_getD (g := w) (j := k) (by omega))
    have wk := hw k (by omega)
    refine br_f (nI_ge (by omega) (by omega)) ⟨vp_in_nI (by omega) (by decide), tg_vi (tg_5i p k) (by omega) (by decide), nm_r (tg_u (w := nI (w.getD k 0)) (tg_5i p k) (by omega) (by rw [ck, wk]; exact tg_vB (by omega))) (nm_r (nI_1 k) (ih (k + 1) n _ (by omega) (by omega) (fun j hj => ?_) (fun q hq => ?_)))⟩
    · by_cases e : j = k
      · rw [e, pk_us]
      · rw [pk_un (by omega)]; exact h1 j (by omega)
    · rw [pk_un (by omega)]; exact h2 q hq
theorem ty_mg_f {post : Int32 → SY → Prop} {L b q : Nat} {g : Nat → List Nat} (hL : L < 32) (hb : b ≤ 2) (hg : ∀ p, p < 6 → tg_G L (g p)) (hli : tg_LI L li) (hy : tg_LY g ll sz) (hq : q < 6)
    (hr : ∀ r, r < q → g r = tg_w r L b 5) (hne : ¬ g q = tg_w q L b 5)
    (h : ∀ ll2 wa, (∀ j, j < (tg_w q L b 5).length → ll2 (5 * q + j) = nI ((tg_w q L b 5).getD j 0)) → (∀ r, r < 5 * q ∨ 5 * q + 5 ≤ r → ll2 r = ll r) → post (nI q) ((nI b), fk, lo, ex, vh, vw, oc, li, ll2, (upd sz q (nI (tg_w q L b 5).length)), eT, va, rN, rC, rR, yo, yg, le, pa, st, qN, qT, qK, qA, on, cR, wa)) :
    ∀ d p n wa, p + d = q → d < n → wY_migrate_2 post n (nI p) (nI b) fk lo ex vh vw oc li ll sz eT va rN rC rR yo yg le pa st qN qT qK qA on cR wa := by
  intro d
  induction d with
  | zero =>
    intro p n wa hp hn
    obtain ⟨n, rfl⟩ : ∃ k, n = k + 1 := ⟨n - 1, by omega⟩
    obtain rfl : p = q := by omega
    have cl : (nI p).toNatClampNeg = p := nI_clamp (by omega)
    have G := tg_w_G (p := p) (L := L) hb 5
    have gl := (hg p hq).1
    have wl := G.1
    refine br_f (nI_ge (b := 6) (by omega) (by decide)) (ty_wt hq hb (tg_LI_q hli) (fun wa2 hw => ⟨vp_in_nI hq (by decide), ?_⟩))
    have H : ∀ f, (f = 1 ∧ (g p).length = (tg_w p L b 5).length ∧ (∀ j, j < 0 → (g p).getD j 0 = (tg_w p L b 5).getD j 0) ∨ f = 0 ∧ ¬ g p = tg_w p L b 5) → ∃ n34, wY_migrate_34 post (wY_migrate_2 post n) (nI p) (nI (tg_w p L b 5).length) (nI b) fk lo ex vh vw oc li ll sz eT va rN rC rR yo yg le pa st qN qT qK qA on cR wa2 n34 f 0 := by
      intro f hf
      exact ⟨(tg_w p L b 5).length + 1, ty_mc_l (g := g p) hq G.1 gl G.lt (hg p hq).lt hw (hy p hq).2 (fun e => absurd e hne) (fun _ => ⟨(tg_w p L b 5).length + 1, ty_mw_l (l0 := ll) hq G.1 G.lt hw (fun ll2 a1 a2 => h ll2 wa2 a1 a2) (tg_w p L b 5).length 0 _ ll (by omega) (by omega) (fun j hj => absurd hj (by omega)) (fun _ _ => rfl)⟩) (tg_w p L b 5).length 0 _ f (by omega) (by omega) hf⟩
    rw [cl, (hy p hq).1]
    by_cases e : (g p).length = (tg_w p L b 5).length
    · exact br_t (by rw [e]) (H 1 (Or.inl ⟨rfl, e, fun j hj => absurd hj (by omega)⟩))
    · exact br_f (fun z => e ((nI_eq (by omega) (by omega)).mp z).symm) (H 0 (Or.inr ⟨rfl, hne⟩))
  | succ d ih =>
    intro p n wa hp hn
    obtain ⟨n, rfl⟩ : ∃ k, n = k + 1 := ⟨n - 1, by omega⟩
    have p6 : p < 6 := by omega
    have cl : (nI p).toNatClampNeg = p := nI_clamp (by omega)
    have G := tg_w_G (p := p) (L := L) hb 5
    have gl := (hg p p6).1
    have wl := G.1
    have gw := hr p (by omega)
    refine br_f (nI_ge (b := 6) (by omega) (by decide)) (ty_wt p6 hb (tg_LI_q hli) (fun wa2 hw => ⟨vp_in_nI p6 (by decide), ?_⟩))
    rw [cl, (hy p p6).1]
    refine br_t (by rw [gw]) ⟨(tg_w p L b 5).length + 1, ?_⟩
    exact ty_mc_l (g := g p) p6 G.1 gl G.lt (hg p p6).lt hw (hy p p6).2 (fun _ => ih (p + 1) n wa2 (by omega) (by omega)) (fun e => absurd gw e) (tg_w p L b 5).length 0 _ 1 (by omega) (by omega) (Or.inl ⟨rfl, by rw [gw], fun j hj => absurd hj (by omega)⟩)
theorem ty_mg_n {post : Int32 → SY → Prop} {L b : Nat} {g : Nat → List Nat} (hL : L < 32) (hb : b ≤ 2) (hg : ∀ p, p < 6 → tg_G L (g p)) (hli : tg_LI L li) (hy : tg_LY g ll sz)
    (hr : ∀ r, r < 6 → g r = tg_w r L b 5)
    (h : ∀ wa, post (-1) ((nI b), fk, lo, ex, vh, vw, oc, li, ll, sz, eT, va, rN, rC, rR, yo, yg, le, pa, st, qN, qT, qK, qA, on, cR, wa)) :
    ∀ d p n wa, p + d = 6 → d < n → wY_migrate_2 post n (nI p) (nI b) fk lo ex vh vw oc li ll sz eT va rN rC rR yo yg le pa st qN qT qK qA on cR wa := by
  intro d
  induction d with
  | zero =>
    intro p n wa hp hn
    obtain ⟨n, rfl⟩ : ∃ k, n = k + 1 := ⟨n - 1, by omega⟩
    obtain rfl : p = 6 := by omega
    exact br_t (nI_le (a := 6) (b := 6) (by omega) (by decide)) (h wa)
  | succ d ih =>
    intro p n wa hp hn
    obtain ⟨n, rfl⟩ : ∃ k, n = k + 1 := ⟨n - 1, by omega⟩
    have p6 : p < 6 := by omega
    have cl : (nI p).toNatClampNeg = p := nI_clamp (by omega)
    have G := tg_w_G (p := p) (L := L) hb 5
    have gl := (hg p p6).1
    have wl := G.1
    have gw := hr p (by omega)
    refine br_f (nI_ge (b := 6) (by omega) (by decide)) (ty_wt p6 hb (tg_LI_q hli) (fun wa2 hw => ⟨vp_in_nI p6 (by decide), ?_⟩))
    rw [cl, (hy p p6).1]
    refine br_t (by rw [gw]) ⟨(tg_w p L b 5).length + 1, ?_⟩
    exact ty_mc_l (g := g p) p6 G.1 gl G.lt (hg p p6).lt hw (hy p p6).2 (fun _ => ih (p + 1) n wa2 (by omega) (by omega)) (fun e => absurd gw e) (tg_w p L b 5).length 0 _ 1 (by omega) (by omega) (Or.inl ⟨rfl, by rw [gw], fun j hj => absurd hj (by omega)⟩)
end MG
def tg_mg (g : Nat → List Nat) (q : Nat) (w : List Nat) (p : Nat) : List Nat := if p = q then w else g p
theorem i_vc_migrate {k : Nat} {u : SX} {v : SY} (I : i_Rel k u v) (hk : k + 5 ≤ 2561) : wpX_migrate (fun r u' => wpY_migrate (fun r' v' => r' = r ∧ i_Rel (k + 5) u' v') v) u := by
  have J := i_up I
  obtain ⟨bk, lv, ds, fk, lo, ex, ht, vt, vv, rc, rr, ls, eT, eV, rN, rC, rR, dO, dC, tS, tO, tC, re, qN, qT, qK, qA, an, cR, sk, vh, vw, oc, li, ll, sz, va, yo, yg, le, pa, st, on, wa, rfl, rfl, hC, hD, hP, hQ, hF⟩ := I
  obtain ⟨b, L, g, hb, hL, rfl, rfl, hli, hg, hx, hy⟩ := hC
  have hg1 : ∀ p, p < 6 → tg_G L (g p) := fun p hp => (hg p hp).1
  refine ⟨7, tx_mg_l hL hb hg1 hx (fun q hq hr hne => ?_) (fun hr => ?_) 6 0 7 (by omega) (by omega) (fun r h => absurd h (by omega))⟩
  · refine ⟨7, ty_mg_f hL hb hg1 hli hy hq hr hne (fun ll2 wa2 h1 h2 => ?_) q 0 7 wa (by omega) (by omega)⟩
    have G := tg_w_G (p := q) (L := L) hb 5
    refine ⟨rfl, i_mk ⟨b, L, tg_mg g q (tg_w q L b 5), hb, hL, rfl, rfl, hli, fun p hp => ?_, fun p hp => ?_, fun p hp => ?_⟩ hD hP (tg_Q_up hQ) hF⟩
    · by_cases e : p = q
      · subst e
        rw [show tg_mg g p (tg_w p L b 5) p = tg_w p L b 5 from if_pos rfl]
        exact ⟨G, tg_w_0 p hp L hL b (by omega)⟩
      · rw [show tg_mg g q (tg_w q L b 5) p = g p from if_neg e]
        exact hg p hp
    · by_cases e : p = q
      · subst e
        rw [show tg_mg g p (tg_w p L b 5) p = tg_w p L b 5 from if_pos rfl, pk_us]
      · rw [show tg_mg g q (tg_w q L b 5) p = g p from if_neg e, pk_un e]
        exact hx p hp
    · by_cases e : p = q
      · subst e
        rw [show tg_mg g p (tg_w p L b 5) p = tg_w p L b 5 from if_pos rfl, pk_us]
        exact ⟨rfl, h1⟩
      · have gl := (hg1 p hp).1
        rw [show tg_mg g q (tg_w q L b 5) p = g p from if_neg e, pk_un e]
        exact ⟨(hy p hp).1, fun j hj => by rw [h2 _ (by omega)]; exact (hy p hp).2 j hj⟩
  · exact ⟨7, ty_mg_n hL hb hg1 hli hy hr (fun wa2 => ⟨rfl, i_mk ⟨b, L, g, hb, hL, rfl, rfl, hli, hg, hx, hy⟩ hD hP (tg_Q_up hQ) hF⟩) 6 0 7 wa (by omega) (by omega)⟩
end
section
/-! 12: X: one instruction (written by genops.py) -/
theorem tg_i16 (t i : Nat) : nI t * 16 + nI i = nI (16 * t + i) := by
  have e : nI t * 16 = nI (t * 16) := pk_mul t 16
  rw [e, nI_add, Nat.mul_comm]
theorem tg_16i (t i : Nat) : 16 * nI t + nI i = nI (16 * t + i) := by
  have e : 16 * nI t = nI (16 * t) := pk_mul 16 t
  rw [e, nI_add]
def tg_op (o : Nat) (x y : Int64) : Int64 :=
  if o = 4 then x + y else if o = 5 then x - y else if o = 6 then x * y else if o = 7 then x / y else if o = 8 then x - x / y * y else if o = 9 then x &&& y else if o = 10 then x ^^^ y
  else if o = 11 then x <<< (y.toInt32.toInt64 &&& 63) else if o = 12 then x >>> (y.toInt32.toInt64 &&& 63) else if o = 13 then (x.toUInt64 >>> (y.toInt32.toInt64.toUInt64 &&& Int64.toUInt64 63)).toInt64
  else if y ≤ x then 0 else 1
section XO
variable {bk : Int32} {lv : Int32} {ds : Int32} {fk : Int32} {lo : Int32} {ex : Int32} {ht : Int32} {vt : Int32} {vv : Int64} {rc : Int32} {rr : Int64} {ls : Nat → Int32} {eT : Nat → Int32} {eV : Nat → Int64} {rN : Nat → Int32} {rC : Nat → Int32} {rR : Nat → Int64} {dO : Nat → Int32} {dC : Nat → Int64} {tS : Nat → Int32} {tO : Nat → Int32} {tC : Nat → Int64} {re : Nat → Int32} {qN : Nat → Int32} {qT : Nat → Int32} {qK : Nat → Int32} {qA : Nat → Int32} {an : Nat → Int32} {cR : Nat → Int64} {sk : Nat → Int64} {vh : Int32} {vw : Int64} {oc : Int64} {li : Nat → Int32} {ll : Nat → Int32} {sz : Nat → Int32} {va : Nat → Int64} {yo : Nat → Int32} {yg : Nat → Int64} {le : Nat → Int32} {pa : Nat → Int32} {st : Nat → Int64} {on : Nat → Int32} {wa : Nat → Int32} {t z i h ran n : Nat} {x3 : Int32} {c : Int64}
theorem xb0 {post : Int32 → Prop} {x : Int32} (hx : x < 4 ∨ 14 < x) (hp : post 0) : wpX_isBinary post x := by
  by_cases y : x < 4
  · exact br_t y hp
  · exact br_f y (br_t (hx.resolve_left y) hp)
theorem xb1 {post : Int32 → Prop} {o : Nat} (h1 : 4 ≤ o) (h2 : o ≤ 14) (hp : post 1) : wpX_isBinary post (nI o) :=
  br_f (nI_nlt (b := 4) h1 (by omega)) (br_f (nI_nlt (a := 14) (b := o) h2 (by decide)) hp)
theorem xp_push {post : SX → Prop} {v : Int64} (h4 : h < 4) (hp : post (bk, lv, ds, fk, lo, ex, (nI (h + 1)), vt, vv, rc, rr, ls, eT, eV, rN, rC, rR, dO, dC, tS, tO, tC, re, qN, qT, qK, qA, an, cR, (vp_updL sk h v))) : wpX_push post (bk, lv, ds, fk, lo, ex, (nI h), vt, vv, rc, rr, ls, eT, eV, rN, rC, rR, dO, dC, tS, tO, tC, re, qN, qT, qK, qA, an, cR, sk) v :=
  br_f (nI_pos (by omega)) (br_f (nI_ge (b := 4) h4 (by decide)) ⟨vp_in_nI h4 (by decide), nm_r (tg_uL rfl (by omega) rfl) (nm_r (nI_1 h) hp)⟩)
theorem xp_pop {post : Int64 → SX → Prop} (h4 : h < 4) (hp : post (sk h) (bk, lv, ds, fk, lo, ex, (nI h), vt, vv, rc, rr, ls, eT, eV, rN, rC, rR, dO, dC, tS, tO, tC, re, qN, qT, qK, qA, an, cR, sk)) : wpX_pop post (bk, lv, ds, fk, lo, ex, (nI (h + 1)), vt, vv, rc, rr, ls, eT, eV, rN, rC, rR, dO, dC, tS, tO, tC, re, qN, qT, qK, qA, an, cR, sk) := by
  refine br_f (nI_nle (by omega) (by omega)) (br_t (nI_le (b := 4) (by omega) (by decide)) (nm_r (nI_pred h) ⟨vp_in_nI h4 (by decide), ?_⟩))
  rw [nI_clamp (by omega)]
  exact hp
theorem xp_comb {post : Int64 → Prop} {o : Nat} {x y : Int64} (h1 : 4 ≤ o) (h2 : o ≤ 14) (h7 : o ≠ 7) (h8 : o ≠ 8) (hp : post (tg_op o x y)) : wpX_combined post (nI o) x y := by
  have : o = 4 ∨ o = 5 ∨ o = 6 ∨ o = 9 ∨ o = 10 ∨ o = 11 ∨ o = 12 ∨ o = 13 ∨ o = 14 := by omega
  rcases this with rfl | rfl | rfl | rfl | rfl | rfl | rfl | rfl | rfl
  · exact br_f (by decide) (br_f (by decide) (br_t (by decide) (hp)))
  · exact br_f (by decide) (br_f (by decide) (br_f (by decide) (br_t (by decide) (hp))))
  · exact br_f (by decide) (br_f (by decide) (br_f (by decide) (br_f (by decide) (br_t (by decide) (hp)))))
  · exact br_f (by decide) (br_f (by decide) (br_f (by decide) (br_f (by decide) (br_f (by decide) (br_f (by decide) (br_f (by decide) (br_t (by decide) (hp))))))))
  · exact br_f (by decide) (br_f (by decide) (br_f (by decide) (br_f (by decide) (br_f (by decide) (br_f (by decide) (br_f (by decide) (br_f (by decide) (br_t (by decide) (hp)))))))))
  · exact br_f (by decide) (br_f (by decide) (br_f (by decide) (br_f (by decide) (br_f (by decide) (br_f (by decide) (br_f (by decide) (br_f (by decide) (br_f (by decide) (br_t (by decide) (hp))))))))))
  · exact br_f (by decide) (br_f (by decide) (br_f (by decide) (br_f (by decide) (br_f (by decide) (br_f (by decide) (br_f (by decide) (br_f (by decide) (br_f (by decide) (br_f (by decide) (br_t (by decide) (hp)))))))))))
  · exact br_f (by decide) (br_f (by decide) (br_f (by decide) (br_f (by decide) (br_f (by decide) (br_f (by decide) (br_f (by decide) (br_f (by decide) (br_f (by decide) (br_f (by decide) (br_f (by decide) (br_t (by decide) (hp))))))))))))
  · refine br_f (by decide) (br_t (by decide) ?_)
    by_cases e : y ≤ x
    · refine br_t e ?_
      rw [show tg_op 14 x y = 0 from if_pos e] at hp
      exact hp
    · refine br_f e ?_
      rw [show tg_op 14 x y = 1 from if_neg e] at hp
      exact hp
theorem xs_0 {post : SX → Prop} (t4 : t < 4) (hr : ran < 80) (hi : i < z) (hz : z ≤ 16) (hS : tS t = nI z) (hop : tO (16 * t + i) = nI 0) (hco : tC (16 * t + i) = c) (h4 : h < 4)
    (H : wX_execute_70 post (nI t) x3 n (nI i + 1) (nI (ran + 1)) bk lv ds fk lo ex (nI (h + 1)) vt vv rc 0 ls eT eV rN rC rR dO dC tS tO tC re qN qT qK qA an cR (vp_updL sk h c)) :
    wX_execute_70 post (nI t) x3 (n + 1) (nI i) (nI ran) bk lv ds fk lo ex (nI h) vt vv rc 0 ls eT eV rN rC rR dO dC tS tO tC re qN qT qK qA an cR sk := by
  refine br_f (nI_ge (b := 80) hr (by decide)) (br_f (nI_pos (by omega)) ⟨vp_in_nI t4 (by decide), br_f ?_ ?_⟩)
  · rw [nI_clamp (by omega), hS]; exact nI_ge hi (by omega)
  refine ⟨tg_vi (tg_i16 t i) (by omega) (by decide), nm_r ((tg_rd (tg_i16 t i) (by omega)).trans hop) ⟨tg_vi (tg_i16 t i) (by omega) (by decide), nm_r ((tg_rdL (tg_i16 t i) (by omega)).trans hco) ?_⟩⟩
  refine xb0 (by decide) (br_t rfl (br_t (by decide) ?_))
  exact br_f (by decide) (br_f (by decide) (br_t (by decide) (xp_push h4 (nm_r (nI_1 ran) H))))
theorem xs_1 {post : SX → Prop} (t4 : t < 4) (hr : ran < 80) (hi : i < z) (hz : z ≤ 16) (hS : tS t = nI z) (hop : tO (16 * t + i) = nI 1) (hco : tC (16 * t + i) = c) (h4 : h < 4)
    (H : wX_execute_70 post (nI t) x3 n (nI i + 1) (nI (ran + 1)) bk lv ds fk lo ex (nI (h + 1)) vt vv rc 0 ls eT eV rN rC rR dO dC tS tO tC re qN qT qK qA an cR (vp_updL sk h vv)) :
    wX_execute_70 post (nI t) x3 (n + 1) (nI i) (nI ran) bk lv ds fk lo ex (nI h) vt vv rc 0 ls eT eV rN rC rR dO dC tS tO tC re qN qT qK qA an cR sk := by
  refine br_f (nI_ge (b := 80) hr (by decide)) (br_f (nI_pos (by omega)) ⟨vp_in_nI t4 (by decide), br_f ?_ ?_⟩)
  · rw [nI_clamp (by omega), hS]; exact nI_ge hi (by omega)
  refine ⟨tg_vi (tg_i16 t i) (by omega) (by decide), nm_r ((tg_rd (tg_i16 t i) (by omega)).trans hop) ⟨tg_vi (tg_i16 t i) (by omega) (by decide), nm_r ((tg_rdL (tg_i16 t i) (by omega)).trans hco) ?_⟩⟩
  refine xb0 (by decide) (br_t rfl (br_t (by decide) ?_))
  exact br_f (by decide) (br_f (by decide) (br_f (by decide) (br_t (by decide) (xp_push h4 (nm_r (nI_1 ran) H)))))
theorem xs_2 {post : SX → Prop} (t4 : t < 4) (hr : ran < 80) (hi : i < z) (hz : z ≤ 16) (hS : tS t = nI z) (hop : tO (16 * t + i) = nI 2) (hco : tC (16 * t + i) = c) (h4 : h < 4)
    (H : wX_execute_70 post (nI t) x3 n (nI i + 1) (nI (ran + 1)) bk lv ds fk lo ex (nI (h + 1)) vt vv rc 0 ls eT eV rN rC rR dO dC tS tO tC re qN qT qK qA an cR (vp_updL sk h (if vt = 0 then 0 else 1))) :
    wX_execute_70 post (nI t) x3 (n + 1) (nI i) (nI ran) bk lv ds fk lo ex (nI h) vt vv rc 0 ls eT eV rN rC rR dO dC tS tO tC re qN qT qK qA an cR sk := by
  refine br_f (nI_ge (b := 80) hr (by decide)) (br_f (nI_pos (by omega)) ⟨vp_in_nI t4 (by decide), br_f ?_ ?_⟩)
  · rw [nI_clamp (by omega), hS]; exact nI_ge hi (by omega)
  refine ⟨tg_vi (tg_i16 t i) (by omega) (by decide), nm_r ((tg_rd (tg_i16 t i) (by omega)).trans hop) ⟨tg_vi (tg_i16 t i) (by omega) (by decide), nm_r ((tg_rdL (tg_i16 t i) (by omega)).trans hco) ?_⟩⟩
  refine xb0 (by decide) (br_t rfl (br_t (by decide) ?_))
  refine br_f (by decide) (br_f (by decide) (br_f (by decide) (br_f (by decide) (br_t (by decide) (?_)))))
  by_cases e : vt = 0
  · rw [if_pos e] at H
    exact br_t e (xp_push h4 (nm_r (nI_1 ran) H))
  · rw [if_neg e] at H
    exact br_f e (xp_push h4 (nm_r (nI_1 ran) H))
theorem xs_3 {post : SX → Prop} (t4 : t < 4) (hr : ran < 80) (hi : i < z) (hz : z ≤ 16) (hS : tS t = nI z) (hop : tO (16 * t + i) = nI 3) (hco : tC (16 * t + i) = c) (h4 : h < 4)
    (H : wX_execute_70 post (nI t) x3 n (nI i + 1) (nI (ran + 1)) bk lv ds fk lo ex (nI (h + 1)) vt vv rc 0 ls eT eV rN rC rR dO dC tS tO tC re qN qT qK qA an cR (vp_updL sk h x3.toInt64)) :
    wX_execute_70 post (nI t) x3 (n + 1) (nI i) (nI ran) bk lv ds fk lo ex (nI h) vt vv rc 0 ls eT eV rN rC rR dO dC tS tO tC re qN qT qK qA an cR sk := by
  refine br_f (nI_ge (b := 80) hr (by decide)) (br_f (nI_pos (by omega)) ⟨vp_in_nI t4 (by decide), br_f ?_ ?_⟩)
  · rw [nI_clamp (by omega), hS]; exact nI_ge hi (by omega)
  refine ⟨tg_vi (tg_i16 t i) (by omega) (by decide), nm_r ((tg_rd (tg_i16 t i) (by omega)).trans hop) ⟨tg_vi (tg_i16 t i) (by omega) (by decide), nm_r ((tg_rdL (tg_i16 t i) (by omega)).trans hco) ?_⟩⟩
  refine xb0 (by decide) (br_t rfl (br_t (by decide) ?_))
  exact br_f (by decide) (br_f (by decide) (br_f (by decide) (br_f (by decide) (br_f (by decide) (br_t (by decide) (xp_push h4 (nm_r (nI_1 ran) H)))))))
theorem xs_15 {post : SX → Prop} (t4 : t < 4) (hr : ran < 80) (hi : i < z) (hz : z ≤ 16) (hS : tS t = nI z) (hop : tO (16 * t + i) = nI 15) (hco : tC (16 * t + i) = c) (h3 : h < 3)
    (H : wX_execute_70 post (nI t) x3 n (nI i + 1) (nI (ran + 1)) bk lv ds fk lo ex (nI (h + 2)) vt vv rc 0 ls eT eV rN rC rR dO dC tS tO tC re qN qT qK qA an cR (vp_updL (vp_updL sk h (sk h)) (h + 1) (sk h))) :
    wX_execute_70 post (nI t) x3 (n + 1) (nI i) (nI ran) bk lv ds fk lo ex (nI (h + 1)) vt vv rc 0 ls eT eV rN rC rR dO dC tS tO tC re qN qT qK qA an cR sk := by
  refine br_f (nI_ge (b := 80) hr (by decide)) (br_f (nI_pos (by omega)) ⟨vp_in_nI t4 (by decide), br_f ?_ ?_⟩)
  · rw [nI_clamp (by omega), hS]; exact nI_ge hi (by omega)
  refine ⟨tg_vi (tg_i16 t i) (by omega) (by decide), nm_r ((tg_rd (tg_i16 t i) (by omega)).trans hop) ⟨tg_vi (tg_i16 t i) (by omega) (by decide), nm_r ((tg_rdL (tg_i16 t i) (by omega)).trans hco) ?_⟩⟩
  refine xb0 (by decide) (br_t rfl (br_t (by decide) ?_))
  exact br_f (by decide) (br_f (by decide) (br_f (by decide) (br_f (by decide) (br_f (by decide) (br_f (by decide) (br_f (by decide) (br_f (by decide) (br_f (by decide) (br_f (by decide) (br_f (by decide) (br_f (by decide) (br_f (by decide) (br_f (by decide) (br_f (by decide) (br_f (by decide) (br_f (by decide) (br_t (by decide) (xp_pop (by omega) (xp_push (by omega) (xp_push (by omega) (nm_r (nI_1 ran) H)))))))))))))))))))))
theorem xs_16 {post : SX → Prop} (t4 : t < 4) (hr : ran < 80) (hi : i < z) (hz : z ≤ 16) (hS : tS t = nI z) (hop : tO (16 * t + i) = nI 16) (hco : tC (16 * t + i) = c) (h3 : h < 3)
    (H : wX_execute_70 post (nI t) x3 n (nI i + 1) (nI (ran + 1)) bk lv ds fk lo ex (nI (h + 2)) vt vv rc 0 ls eT eV rN rC rR dO dC tS tO tC re qN qT qK qA an cR (vp_updL (vp_updL sk h (sk (h + 1))) (h + 1) (sk h))) :
    wX_execute_70 post (nI t) x3 (n + 1) (nI i) (nI ran) bk lv ds fk lo ex (nI (h + 2)) vt vv rc 0 ls eT eV rN rC rR dO dC tS tO tC re qN qT qK qA an cR sk := by
  refine br_f (nI_ge (b := 80) hr (by decide)) (br_f (nI_pos (by omega)) ⟨vp_in_nI t4 (by decide), br_f ?_ ?_⟩)
  · rw [nI_clamp (by omega), hS]; exact nI_ge hi (by omega)
  refine ⟨tg_vi (tg_i16 t i) (by omega) (by decide), nm_r ((tg_rd (tg_i16 t i) (by omega)).trans hop) ⟨tg_vi (tg_i16 t i) (by omega) (by decide), nm_r ((tg_rdL (tg_i16 t i) (by omega)).trans hco) ?_⟩⟩
  refine xb0 (by decide) (br_t rfl (br_t (by decide) ?_))
  exact br_f (by decide) (br_f (by decide) (br_f (by decide) (br_f (by decide) (br_f (by decide) (br_f (by decide) (br_f (by decide) (br_f (by decide) (br_f (by decide) (br_f (by decide) (br_f (by decide) (br_f (by decide) (br_f (by decide) (br_f (by decide) (br_f (by decide) (br_f (by decide) (br_f (by decide) (br_f (by decide) (br_t (by decide) (xp_pop (by omega) (xp_pop (by omega) (xp_push (by omega) (xp_push (by omega) (nm_r (nI_1 ran) H)))))))))))))))))))))))
theorem xs_17 {post : SX → Prop} (t4 : t < 4) (hr : ran < 80) (hi : i < z) (hz : z ≤ 16) (hS : tS t = nI z) (hop : tO (16 * t + i) = nI 17) (hco : tC (16 * t + i) = c) (h4 : h < 4)
    (H : wX_execute_70 post (nI t) x3 n (nI i + 1) (nI (ran + 1)) bk lv ds fk lo ex (nI h) vt vv rc 0 ls eT eV rN rC rR dO dC tS tO tC re qN qT qK qA an cR sk) :
    wX_execute_70 post (nI t) x3 (n + 1) (nI i) (nI ran) bk lv ds fk lo ex (nI (h + 1)) vt vv rc 0 ls eT eV rN rC rR dO dC tS tO tC re qN qT qK qA an cR sk := by
  refine br_f (nI_ge (b := 80) hr (by decide)) (br_f (nI_pos (by omega)) ⟨vp_in_nI t4 (by decide), br_f ?_ ?_⟩)
  · rw [nI_clamp (by omega), hS]; exact nI_ge hi (by omega)
  refine ⟨tg_vi (tg_i16 t i) (by omega) (by decide), nm_r ((tg_rd (tg_i16 t i) (by omega)).trans hop) ⟨tg_vi (tg_i16 t i) (by omega) (by decide), nm_r ((tg_rdL (tg_i16 t i) (by omega)).trans hco) ?_⟩⟩
  refine xb0 (by decide) (br_t rfl (br_t (by decide) ?_))
  exact br_f (by decide) (br_f (by decide) (br_f (by decide) (br_f (by decide) (br_f (by decide) (br_f (by decide) (br_f (by decide) (br_f (by decide) (br_f (by decide) (br_f (by decide) (br_f (by decide) (br_f (by decide) (br_f (by decide) (br_f (by decide) (br_f (by decide) (br_f (by decide) (br_f (by decide) (br_f (by decide) (br_f (by decide) (br_t (by decide) (xp_pop h4 (nm_r (nI_1 ran) H)))))))))))))))))))))
theorem xs_18 {post : SX → Prop} (t4 : t < 4) (hr : ran < 80) (hi : i < z) (hz : z ≤ 16) (hS : tS t = nI z) (hop : tO (16 * t + i) = nI 18) (hco : tC (16 * t + i) = c) (h4 : h < 4)
    (H : wX_execute_70 post (nI t) x3 n (nI i + 1) (nI (ran + 1)) bk lv ds fk lo ex (nI h) 1 (sk h) rc 0 ls eT eV rN rC rR dO dC tS tO tC re qN qT qK qA an cR sk) :
    wX_execute_70 post (nI t) x3 (n + 1) (nI i) (nI ran) bk lv ds fk lo ex (nI (h + 1)) vt vv rc 0 ls eT eV rN rC rR dO dC tS tO tC re qN qT qK qA an cR sk := by
  refine br_f (nI_ge (b := 80) hr (by decide)) (br_f (nI_pos (by omega)) ⟨vp_in_nI t4 (by decide), br_f ?_ ?_⟩)
  · rw [nI_clamp (by omega), hS]; exact nI_ge hi (by omega)
  refine ⟨tg_vi (tg_i16 t i) (by omega) (by decide), nm_r ((tg_rd (tg_i16 t i) (by omega)).trans hop) ⟨tg_vi (tg_i16 t i) (by omega) (by decide), nm_r ((tg_rdL (tg_i16 t i) (by omega)).trans hco) ?_⟩⟩
  refine xb0 (by decide) (br_t rfl (br_t (by decide) ?_))
  exact br_f (by decide) (br_f (by decide) (br_f (by decide) (br_f (by decide) (br_f (by decide) (br_f (by decide) (br_f (by decide) (br_f (by decide) (br_f (by decide) (br_f (by decide) (br_f (by decide) (br_f (by decide) (br_f (by decide) (br_f (by decide) (br_f (by decide) (br_f (by decide) (br_f (by decide) (br_f (by decide) (br_f (by decide) (br_f (by decide) (br_t (by decide) (xp_pop h4 (nm_r (nI_1 ran) H))))))))))))))))))))))
theorem xs_19 {post : SX → Prop} (t4 : t < 4) (hr : ran < 80) (hi : i < z) (hz : z ≤ 16) (hS : tS t = nI z) (hop : tO (16 * t + i) = nI 19) (hco : tC (16 * t + i) = c) 
    (H : wX_execute_70 post (nI t) x3 n (nI i + 1) (nI (ran + 1)) bk lv ds fk lo ex (nI h) 0 0 rc 0 ls eT eV rN rC rR dO dC tS tO tC re qN qT qK qA an cR sk) :
    wX_execute_70 post (nI t) x3 (n + 1) (nI i) (nI ran) bk lv ds fk lo ex (nI h) vt vv rc 0 ls eT eV rN rC rR dO dC tS tO tC re qN qT qK qA an cR sk := by
  refine br_f (nI_ge (b := 80) hr (by decide)) (br_f (nI_pos (by omega)) ⟨vp_in_nI t4 (by decide), br_f ?_ ?_⟩)
  · rw [nI_clamp (by omega), hS]; exact nI_ge hi (by omega)
  refine ⟨tg_vi (tg_i16 t i) (by omega) (by decide), nm_r ((tg_rd (tg_i16 t i) (by omega)).trans hop) ⟨tg_vi (tg_i16 t i) (by omega) (by decide), nm_r ((tg_rdL (tg_i16 t i) (by omega)).trans hco) ?_⟩⟩
  refine xb0 (by decide) (br_t rfl (br_t (by decide) ?_))
  exact br_f (by decide) (br_t (by decide) ((nm_r (nI_1 ran) H)))
theorem xs_20 {post : SX → Prop} (t4 : t < 4) (hr : ran < 80) (hi : i < z) (hz : z ≤ 16) (hS : tS t = nI z) (hop : tO (16 * t + i) = nI 20) (hco : tC (16 * t + i) = c) 
    (H : wX_execute_70 post (nI t) x3 n c.toInt32 (nI (ran + 1)) bk lv ds fk lo ex (nI h) vt vv rc 0 ls eT eV rN rC rR dO dC tS tO tC re qN qT qK qA an cR sk) :
    wX_execute_70 post (nI t) x3 (n + 1) (nI i) (nI ran) bk lv ds fk lo ex (nI h) vt vv rc 0 ls eT eV rN rC rR dO dC tS tO tC re qN qT qK qA an cR sk := by
  refine br_f (nI_ge (b := 80) hr (by decide)) (br_f (nI_pos (by omega)) ⟨vp_in_nI t4 (by decide), br_f ?_ ?_⟩)
  · rw [nI_clamp (by omega), hS]; exact nI_ge hi (by omega)
  refine ⟨tg_vi (tg_i16 t i) (by omega) (by decide), nm_r ((tg_rd (tg_i16 t i) (by omega)).trans hop) ⟨tg_vi (tg_i16 t i) (by omega) (by decide), nm_r ((tg_rdL (tg_i16 t i) (by omega)).trans hco) ?_⟩⟩
  refine xb0 (by decide) (br_t rfl (br_f (by decide) (br_f (by decide) ?_)))
  exact br_t (by decide) (nm_r (nI_1 ran) H)
theorem xs_21a {post : SX → Prop} (t4 : t < 4) (hr : ran < 80) (hi : i < z) (hz : z ≤ 16) (hS : tS t = nI z) (hop : tO (16 * t + i) = nI 21) (hco : tC (16 * t + i) = c) (h4 : h < 4) (e : sk h = 0)
    (H : wX_execute_70 post (nI t) x3 n c.toInt32 (nI (ran + 1)) bk lv ds fk lo ex (nI h) vt vv rc 0 ls eT eV rN rC rR dO dC tS tO tC re qN qT qK qA an cR sk) :
    wX_execute_70 post (nI t) x3 (n + 1) (nI i) (nI ran) bk lv ds fk lo ex (nI (h + 1)) vt vv rc 0 ls eT eV rN rC rR dO dC tS tO tC re qN qT qK qA an cR sk := by
  refine br_f (nI_ge (b := 80) hr (by decide)) (br_f (nI_pos (by omega)) ⟨vp_in_nI t4 (by decide), br_f ?_ ?_⟩)
  · rw [nI_clamp (by omega), hS]; exact nI_ge hi (by omega)
  refine ⟨tg_vi (tg_i16 t i) (by omega) (by decide), nm_r ((tg_rd (tg_i16 t i) (by omega)).trans hop) ⟨tg_vi (tg_i16 t i) (by omega) (by decide), nm_r ((tg_rdL (tg_i16 t i) (by omega)).trans hco) ?_⟩⟩
  refine xb0 (by decide) (br_t rfl (br_f (by decide) (br_f (by decide) ?_)))
  exact br_f (by decide) (br_t (by decide) (xp_pop h4 (br_t e (nm_r (nI_1 ran) H))))
theorem xs_21b {post : SX → Prop} (t4 : t < 4) (hr : ran < 80) (hi : i < z) (hz : z ≤ 16) (hS : tS t = nI z) (hop : tO (16 * t + i) = nI 21) (hco : tC (16 * t + i) = c) (h4 : h < 4) (e : ¬ sk h = 0)
    (H : wX_execute_70 post (nI t) x3 n (nI i + 1) (nI (ran + 1)) bk lv ds fk lo ex (nI h) vt vv rc 0 ls eT eV rN rC rR dO dC tS tO tC re qN qT qK qA an cR sk) :
    wX_execute_70 post (nI t) x3 (n + 1) (nI i) (nI ran) bk lv ds fk lo ex (nI (h + 1)) vt vv rc 0 ls eT eV rN rC rR dO dC tS tO tC re qN qT qK qA an cR sk := by
  refine br_f (nI_ge (b := 80) hr (by decide)) (br_f (nI_pos (by omega)) ⟨vp_in_nI t4 (by decide), br_f ?_ ?_⟩)
  · rw [nI_clamp (by omega), hS]; exact nI_ge hi (by omega)
  refine ⟨tg_vi (tg_i16 t i) (by omega) (by decide), nm_r ((tg_rd (tg_i16 t i) (by omega)).trans hop) ⟨tg_vi (tg_i16 t i) (by omega) (by decide), nm_r ((tg_rdL (tg_i16 t i) (by omega)).trans hco) ?_⟩⟩
  refine xb0 (by decide) (br_t rfl (br_f (by decide) (br_f (by decide) ?_)))
  exact br_f (by decide) (br_t (by decide) (xp_pop h4 (br_f e (nm_r (nI_1 ran) H))))
theorem xs_22 {post : SX → Prop} (t4 : t < 4) (hr : ran < 80) (hi : i < z) (hz : z ≤ 16) (hS : tS t = nI z) (hop : tO (16 * t + i) = nI 22) (hco : tC (16 * t + i) = c) 
    (H : wX_execute_70 post (nI t) x3 n (-2) (nI (ran + 1)) bk lv ds fk lo ex (nI h) vt vv rc 0 ls eT eV rN rC rR dO dC tS tO tC re qN qT qK qA an cR sk) :
    wX_execute_70 post (nI t) x3 (n + 1) (nI i) (nI ran) bk lv ds fk lo ex (nI h) vt vv rc 0 ls eT eV rN rC rR dO dC tS tO tC re qN qT qK qA an cR sk := by
  refine br_f (nI_ge (b := 80) hr (by decide)) (br_f (nI_pos (by omega)) ⟨vp_in_nI t4 (by decide), br_f ?_ ?_⟩)
  · rw [nI_clamp (by omega), hS]; exact nI_ge hi (by omega)
  refine ⟨tg_vi (tg_i16 t i) (by omega) (by decide), nm_r ((tg_rd (tg_i16 t i) (by omega)).trans hop) ⟨tg_vi (tg_i16 t i) (by omega) (by decide), nm_r ((tg_rdL (tg_i16 t i) (by omega)).trans hco) ?_⟩⟩
  refine xb0 (by decide) (br_t rfl (br_f (by decide) (br_f (by decide) ?_)))
  exact br_f (by decide) (br_f (by decide) (br_t (by decide) (nm_r (nI_1 ran) H)))
theorem xs_23 {post : SX → Prop} (t4 : t < 4) (hr : ran < 80) (hi : i < z) (hz : z ≤ 16) (hS : tS t = nI z) (hop : tO (16 * t + i) = nI 23) (hco : tC (16 * t + i) = c) (h4 : h < 4)
    (H : wX_execute_70 post (nI t) x3 n (-1) (nI (ran + 1)) bk lv ds fk lo ex (nI h) vt vv rc (sk h) ls eT eV rN rC rR dO dC tS tO tC re qN qT qK qA an cR sk) :
    wX_execute_70 post (nI t) x3 (n + 1) (nI i) (nI ran) bk lv ds fk lo ex (nI (h + 1)) vt vv rc 0 ls eT eV rN rC rR dO dC tS tO tC re qN qT qK qA an cR sk := by
  refine br_f (nI_ge (b := 80) hr (by decide)) (br_f (nI_pos (by omega)) ⟨vp_in_nI t4 (by decide), br_f ?_ ?_⟩)
  · rw [nI_clamp (by omega), hS]; exact nI_ge hi (by omega)
  refine ⟨tg_vi (tg_i16 t i) (by omega) (by decide), nm_r ((tg_rd (tg_i16 t i) (by omega)).trans hop) ⟨tg_vi (tg_i16 t i) (by omega) (by decide), nm_r ((tg_rdL (tg_i16 t i) (by omega)).trans hco) ?_⟩⟩
  refine xb0 (by decide) (br_t rfl (br_f (by decide) (br_f (by decide) ?_)))
  exact br_f (by decide) (br_f (by decide) (br_f (by decide) (br_t (by decide) (xp_pop h4 (nm_r (nI_1 ran) H)))))
theorem tg_neI {a b : Nat} (h : a ≠ b) (ha : a < 2 ^ 31) (hb : b < 2 ^ 31) : ¬ nI a = nI b := fun z => h ((nI_eq ha hb).mp z)
theorem xs_bf {post : SX → Prop} {o : Nat} (t4 : t < 4) (hr : ran < 80) (hi : i < z) (hz : z ≤ 16) (hS : tS t = nI z) (hop : tO (16 * t + i) = nI o) (hco : tC (16 * t + i) = c) (h3 : h < 3) (o7 : o = 7 ∨ o = 8) (e : sk (h + 1) = 0)
    (H : wX_execute_70 post (nI t) x3 n (-2) (nI (ran + 1)) bk lv ds fk lo ex (nI h) vt vv rc 0 ls eT eV rN rC rR dO dC tS tO tC re qN qT qK qA an cR sk) :
    wX_execute_70 post (nI t) x3 (n + 1) (nI i) (nI ran) bk lv ds fk lo ex (nI (h + 2)) vt vv rc 0 ls eT eV rN rC rR dO dC tS tO tC re qN qT qK qA an cR sk := by
  refine br_f (nI_ge (b := 80) hr (by decide)) (br_f (nI_pos (by omega)) ⟨vp_in_nI t4 (by decide), br_f ?_ ?_⟩)
  · rw [nI_clamp (by omega), hS]; exact nI_ge hi (by omega)
  refine ⟨tg_vi (tg_i16 t i) (by omega) (by decide), nm_r ((tg_rd (tg_i16 t i) (by omega)).trans hop) ⟨tg_vi (tg_i16 t i) (by omega) (by decide), nm_r ((tg_rdL (tg_i16 t i) (by omega)).trans hco) ?_⟩⟩
  refine xb1 (by omega) (by omega) (br_f tg_d1 ?_)
  unfold wpX_runBinary
  refine xp_pop (h := h + 1) (by omega) (xp_pop (h := h) (by omega) ?_)
  rcases o7 with rfl | rfl
  · exact br_t (by decide) (br_t e (nm_r (nI_1 ran) H))
  · exact br_f (by decide) (br_t (by decide) (br_t e (nm_r (nI_1 ran) H)))
theorem xs_b7 {post : SX → Prop} {o : Nat} (t4 : t < 4) (hr : ran < 80) (hi : i < z) (hz : z ≤ 16) (hS : tS t = nI z) (hop : tO (16 * t + i) = nI o) (hco : tC (16 * t + i) = c) (h3 : h < 3) (o7 : o = 7 ∨ o = 8) (e : ¬ sk (h + 1) = 0)
    (H : wX_execute_70 post (nI t) x3 n (nI i + 1) (nI (ran + 1)) bk lv ds fk lo ex (nI (h + 1)) vt vv rc 0 ls eT eV rN rC rR dO dC tS tO tC re qN qT qK qA an cR (vp_updL sk h (tg_op o (sk h) (sk (h + 1))))) :
    wX_execute_70 post (nI t) x3 (n + 1) (nI i) (nI ran) bk lv ds fk lo ex (nI (h + 2)) vt vv rc 0 ls eT eV rN rC rR dO dC tS tO tC re qN qT qK qA an cR sk := by
  refine br_f (nI_ge (b := 80) hr (by decide)) (br_f (nI_pos (by omega)) ⟨vp_in_nI t4 (by decide), br_f ?_ ?_⟩)
  · rw [nI_clamp (by omega), hS]; exact nI_ge hi (by omega)
  refine ⟨tg_vi (tg_i16 t i) (by omega) (by decide), nm_r ((tg_rd (tg_i16 t i) (by omega)).trans hop) ⟨tg_vi (tg_i16 t i) (by omega) (by decide), nm_r ((tg_rdL (tg_i16 t i) (by omega)).trans hco) ?_⟩⟩
  refine xb1 (by omega) (by omega) (br_f tg_d1 ?_)
  unfold wpX_runBinary
  refine xp_pop (h := h + 1) (by omega) (xp_pop (h := h) (by omega) ?_)
  rcases o7 with rfl | rfl
  · exact br_t (by decide) (br_f e (br_t (by decide) ⟨e, xp_push (by omega) (nm_r (nI_1 ran) H)⟩))
  · exact br_f (by decide) (br_t (by decide) (br_f e (br_f (by decide) ⟨e, xp_push (by omega) (nm_r (nI_1 ran) H)⟩)))
theorem xs_bo {post : SX → Prop} {o : Nat} (t4 : t < 4) (hr : ran < 80) (hi : i < z) (hz : z ≤ 16) (hS : tS t = nI z) (hop : tO (16 * t + i) = nI o) (hco : tC (16 * t + i) = c) (h3 : h < 3) (o1 : 4 ≤ o) (o2 : o ≤ 14) (o7 : o ≠ 7) (o8 : o ≠ 8)
    (H : wX_execute_70 post (nI t) x3 n (nI i + 1) (nI (ran + 1)) bk lv ds fk lo ex (nI (h + 1)) vt vv rc 0 ls eT eV rN rC rR dO dC tS tO tC re qN qT qK qA an cR (vp_updL sk h (tg_op o (sk h) (sk (h + 1))))) :
    wX_execute_70 post (nI t) x3 (n + 1) (nI i) (nI ran) bk lv ds fk lo ex (nI (h + 2)) vt vv rc 0 ls eT eV rN rC rR dO dC tS tO tC re qN qT qK qA an cR sk := by
  refine br_f (nI_ge (b := 80) hr (by decide)) (br_f (nI_pos (by omega)) ⟨vp_in_nI t4 (by decide), br_f ?_ ?_⟩)
  · rw [nI_clamp (by omega), hS]; exact nI_ge hi (by omega)
  refine ⟨tg_vi (tg_i16 t i) (by omega) (by decide), nm_r ((tg_rd (tg_i16 t i) (by omega)).trans hop) ⟨tg_vi (tg_i16 t i) (by omega) (by decide), nm_r ((tg_rdL (tg_i16 t i) (by omega)).trans hco) ?_⟩⟩
  refine xb1 (by omega) (by omega) (br_f tg_d1 ?_)
  unfold wpX_runBinary
  refine xp_pop (h := h + 1) (by omega) (xp_pop (h := h) (by omega) ?_)
  exact br_f (tg_neI (b := 7) o7 (by omega) (by decide)) (br_f (tg_neI (b := 8) o8 (by omega) (by decide)) (xp_comb o1 o2 o7 o8 (xp_push (by omega) (nm_r (nI_1 ran) H))))
end XO
end
section
/-! 13: Y: one instruction (written by genops.py) -/
section YO
variable {bk : Int32} {lv : Int32} {ds : Int32} {fk : Int32} {lo : Int32} {ex : Int32} {ht : Int32} {vt : Int32} {vv : Int64} {rc : Int32} {rr : Int64} {ls : Nat → Int32} {eT : Nat → Int32} {eV : Nat → Int64} {rN : Nat → Int32} {rC : Nat → Int32} {rR : Nat → Int64} {dO : Nat → Int32} {dC : Nat → Int64} {tS : Nat → Int32} {tO : Nat → Int32} {tC : Nat → Int64} {re : Nat → Int32} {qN : Nat → Int32} {qT : Nat → Int32} {qK : Nat → Int32} {qA : Nat → Int32} {an : Nat → Int32} {cR : Nat → Int64} {sk : Nat → Int64} {vh : Int32} {vw : Int64} {oc : Int64} {li : Nat → Int32} {ll : Nat → Int32} {sz : Nat → Int32} {va : Nat → Int64} {yo : Nat → Int32} {yg : Nat → Int64} {le : Nat → Int32} {pa : Nat → Int32} {st : Nat → Int64} {on : Nat → Int32} {wa : Nat → Int32} {t i h ran n : Nat} {x3 : Int32} {c : Int64}
theorem yp_comp {post : Int64 → Prop} {o : Nat} {x y : Int64} (h1 : 4 ≤ o) (h2 : o ≤ 14) (h0 : o = 7 ∨ o = 8 → ¬ y = 0) (hp : post (tg_op o x y)) : wpY_compute post (bk, fk, lo, ex, vh, vw, oc, li, ll, sz, eT, va, rN, rC, rR, yo, yg, le, pa, st, qN, qT, qK, qA, on, cR, wa) (nI o) x y := by
  have : o = 4 ∨ o = 5 ∨ o = 6 ∨ o = 7 ∨ o = 8 ∨ o = 9 ∨ o = 10 ∨ o = 11 ∨ o = 12 ∨ o = 13 ∨ o = 14 := by omega
  rcases this with rfl | rfl | rfl | rfl | rfl | rfl | rfl | rfl | rfl | rfl | rfl
  · exact br_t (by decide) (hp)
  · exact br_f (by decide) (br_t (by decide) (hp))
  · exact br_f (by decide) (br_f (by decide) (br_t (by decide) (hp)))
  · exact br_f (by decide) (br_f (by decide) (br_f (by decide) (br_t (by decide) (⟨h0 (by omega), hp⟩))))
  · exact br_f (by decide) (br_f (by decide) (br_f (by decide) (br_f (by decide) (br_t (by decide) (⟨h0 (by omega), hp⟩)))))
  · exact br_f (by decide) (br_f (by decide) (br_f (by decide) (br_f (by decide) (br_f (by decide) (br_t (by decide) (hp))))))
  · exact br_f (by decide) (br_f (by decide) (br_f (by decide) (br_f (by decide) (br_f (by decide) (br_f (by decide) (br_t (by decide) (hp)))))))
  · exact br_f (by decide) (br_f (by decide) (br_f (by decide) (br_f (by decide) (br_f (by decide) (br_f (by decide) (br_f (by decide) (br_t (by decide) (hp))))))))
  · exact br_f (by decide) (br_f (by decide) (br_f (by decide) (br_f (by decide) (br_f (by decide) (br_f (by decide) (br_f (by decide) (br_f (by decide) (br_t (by decide) (hp)))))))))
  · exact br_f (by decide) (br_f (by decide) (br_f (by decide) (br_f (by decide) (br_f (by decide) (br_f (by decide) (br_f (by decide) (br_f (by decide) (br_f (by decide) (br_t (by decide) (hp))))))))))
  · refine br_f (by decide) (br_f (by decide) (br_f (by decide) (br_f (by decide) (br_f (by decide) (br_f (by decide) (br_f (by decide) (br_f (by decide) (br_f (by decide) (br_f (by decide) (?_))))))))))
    by_cases e : y ≤ x
    · refine br_t e ?_
      rw [show tg_op 14 x y = 0 from if_pos e] at hp
      exact hp
    · refine br_f e ?_
      rw [show tg_op 14 x y = 1 from if_neg e] at hp
      exact hp
theorem tg_s2 (n : Nat) : nI (n + 2) - 2 = nI n := pk_sub (a := n + 2) (b := 2) (by omega)
theorem ys_0 {post : Int32 → SY → Prop} (t4 : t < 4) (hr : ran < 80) (hi : i < 16) (hop : yo (16 * t + i) = nI 0) (hco : yg (16 * t + i) = c) (h4 : h < 4) 
    (H : wY_execute_13 post (nI t) x3 bk fk lo ex 0 n (nI (i + 1)) (nI (h + 1)) (nI (ran + 1)) vh vw li ll sz eT va rN rC rR yo yg le pa (vp_updL st h c) qN qT qK qA on cR wa) :
    wY_execute_13 post (nI t) x3 bk fk lo ex 0 (n + 1) (nI i) (nI h) (nI ran) vh vw li ll sz eT va rN rC rR yo yg le pa st qN qT qK qA on cR wa := by
  refine br_f (nI_ge (b := 80) hr (by decide)) ⟨tg_vi (tg_16i t i) (by omega) (by decide), nm_r ((tg_rd (tg_16i t i) (by omega)).trans hop) ⟨tg_vi (tg_16i t i) (by omega) (by decide), nm_r ((tg_rdL (tg_16i t i) (by omega)).trans hco) (nm_r (nI_1 i) ?_)⟩⟩
  refine br_f (by decide) (br_f (by decide) (br_f (by decide) (br_f (by decide) (br_f (by decide) (nm_r (nI_1 h) (br_t (by decide) (?_)))))))
  exact ⟨vp_in_nI (by omega) (by decide), nm_r (tg_uL rfl (by omega) rfl) (nm_r (nI_1 ran) H)⟩
theorem ys_1 {post : Int32 → SY → Prop} (t4 : t < 4) (hr : ran < 80) (hi : i < 16) (hop : yo (16 * t + i) = nI 1) (hco : yg (16 * t + i) = c) (h4 : h < 4) 
    (H : wY_execute_13 post (nI t) x3 bk fk lo ex 0 n (nI (i + 1)) (nI (h + 1)) (nI (ran + 1)) vh vw li ll sz eT va rN rC rR yo yg le pa (vp_updL st h (if vh = 0 then 0 else vw)) qN qT qK qA on cR wa) :
    wY_execute_13 post (nI t) x3 bk fk lo ex 0 (n + 1) (nI i) (nI h) (nI ran) vh vw li ll sz eT va rN rC rR yo yg le pa st qN qT qK qA on cR wa := by
  refine br_f (nI_ge (b := 80) hr (by decide)) ⟨tg_vi (tg_16i t i) (by omega) (by decide), nm_r ((tg_rd (tg_16i t i) (by omega)).trans hop) ⟨tg_vi (tg_16i t i) (by omega) (by decide), nm_r ((tg_rdL (tg_16i t i) (by omega)).trans hco) (nm_r (nI_1 i) ?_)⟩⟩
  refine br_f (by decide) (br_f (by decide) (br_f (by decide) (br_f (by decide) (br_f (by decide) (nm_r (nI_1 h) (br_f (by decide) (br_t (by decide) (?_))))))))
  by_cases e : vh = 0
  · rw [if_pos e] at H
    exact br_t e ⟨vp_in_nI (by omega) (by decide), nm_r (tg_uL rfl (by omega) rfl) (nm_r (nI_1 ran) H)⟩
  · rw [if_neg e] at H
    exact br_f e ⟨vp_in_nI (by omega) (by decide), nm_r (tg_uL rfl (by omega) rfl) (nm_r (nI_1 ran) H)⟩
theorem ys_2 {post : Int32 → SY → Prop} (t4 : t < 4) (hr : ran < 80) (hi : i < 16) (hop : yo (16 * t + i) = nI 2) (hco : yg (16 * t + i) = c) (h4 : h < 4) 
    (H : wY_execute_13 post (nI t) x3 bk fk lo ex 0 n (nI (i + 1)) (nI (h + 1)) (nI (ran + 1)) vh vw li ll sz eT va rN rC rR yo yg le pa (vp_updL st h (if vh = 0 then 0 else 1)) qN qT qK qA on cR wa) :
    wY_execute_13 post (nI t) x3 bk fk lo ex 0 (n + 1) (nI i) (nI h) (nI ran) vh vw li ll sz eT va rN rC rR yo yg le pa st qN qT qK qA on cR wa := by
  refine br_f (nI_ge (b := 80) hr (by decide)) ⟨tg_vi (tg_16i t i) (by omega) (by decide), nm_r ((tg_rd (tg_16i t i) (by omega)).trans hop) ⟨tg_vi (tg_16i t i) (by omega) (by decide), nm_r ((tg_rdL (tg_16i t i) (by omega)).trans hco) (nm_r (nI_1 i) ?_)⟩⟩
  refine br_f (by decide) (br_f (by decide) (br_f (by decide) (br_f (by decide) (br_f (by decide) (nm_r (nI_1 h) (br_f (by decide) (br_f (by decide) (br_t (by decide) (?_)))))))))
  by_cases e : vh = 0
  · rw [if_pos e] at H
    exact br_t e ⟨vp_in_nI (by omega) (by decide), nm_r (tg_uL (w := 0) rfl (by omega) (by decide)) (nm_r (nI_1 ran) H)⟩
  · rw [if_neg e] at H
    exact br_f e ⟨vp_in_nI (by omega) (by decide), nm_r (tg_uL (w := 1) rfl (by omega) (by decide)) (nm_r (nI_1 ran) H)⟩
theorem ys_3 {post : Int32 → SY → Prop} (t4 : t < 4) (hr : ran < 80) (hi : i < 16) (hop : yo (16 * t + i) = nI 3) (hco : yg (16 * t + i) = c) (h4 : h < 4) 
    (H : wY_execute_13 post (nI t) x3 bk fk lo ex 0 n (nI (i + 1)) (nI (h + 1)) (nI (ran + 1)) vh vw li ll sz eT va rN rC rR yo yg le pa (vp_updL st h x3.toInt64) qN qT qK qA on cR wa) :
    wY_execute_13 post (nI t) x3 bk fk lo ex 0 (n + 1) (nI i) (nI h) (nI ran) vh vw li ll sz eT va rN rC rR yo yg le pa st qN qT qK qA on cR wa := by
  refine br_f (nI_ge (b := 80) hr (by decide)) ⟨tg_vi (tg_16i t i) (by omega) (by decide), nm_r ((tg_rd (tg_16i t i) (by omega)).trans hop) ⟨tg_vi (tg_16i t i) (by omega) (by decide), nm_r ((tg_rdL (tg_16i t i) (by omega)).trans hco) (nm_r (nI_1 i) ?_)⟩⟩
  refine br_f (by decide) (br_f (by decide) (br_f (by decide) (br_f (by decide) (br_f (by decide) (nm_r (nI_1 h) (br_f (by decide) (br_f (by decide) (br_f (by decide) (?_)))))))))
  exact ⟨vp_in_nI (by omega) (by decide), nm_r (tg_uL rfl (by omega) rfl) (nm_r (nI_1 ran) H)⟩
theorem ys_15 {post : Int32 → SY → Prop} (t4 : t < 4) (hr : ran < 80) (hi : i < 16) (hop : yo (16 * t + i) = nI 15) (hco : yg (16 * t + i) = c) (h3 : h < 3)
    (H : wY_execute_13 post (nI t) x3 bk fk lo ex 0 n (nI (i + 1)) (nI (h + 2)) (nI (ran + 1)) vh vw li ll sz eT va rN rC rR yo yg le pa (vp_updL st (h + 1) (st h)) qN qT qK qA on cR wa) :
    wY_execute_13 post (nI t) x3 bk fk lo ex 0 (n + 1) (nI i) (nI (h + 1)) (nI ran) vh vw li ll sz eT va rN rC rR yo yg le pa st qN qT qK qA on cR wa := by
  refine br_f (nI_ge (b := 80) hr (by decide)) ⟨tg_vi (tg_16i t i) (by omega) (by decide), nm_r ((tg_rd (tg_16i t i) (by omega)).trans hop) ⟨tg_vi (tg_16i t i) (by omega) (by decide), nm_r ((tg_rdL (tg_16i t i) (by omega)).trans hco) (nm_r (nI_1 i) ?_)⟩⟩
  exact br_f (by decide) (br_f (by decide) (br_f (by decide) (br_f (by decide) (br_t (by decide) (br_t (by decide) (br_t (by decide) (⟨tg_vi (nI_pred h) (by omega) (by decide), vp_in_nI (by omega) (by decide), nm_r (tg_uL rfl (by omega) (tg_rdL (nI_pred h) (by omega))) (nm_r (nI_1 (h + 1)) (nm_r (nI_1 ran) H))⟩)))))))
theorem ys_16 {post : Int32 → SY → Prop} (t4 : t < 4) (hr : ran < 80) (hi : i < 16) (hop : yo (16 * t + i) = nI 16) (hco : yg (16 * t + i) = c) (h3 : h < 3)
    (H : wY_execute_13 post (nI t) x3 bk fk lo ex 0 n (nI (i + 1)) (nI (h + 2)) (nI (ran + 1)) vh vw li ll sz eT va rN rC rR yo yg le pa (vp_updL (vp_updL st (h + 1) (st h)) h (st (h + 1))) qN qT qK qA on cR wa) :
    wY_execute_13 post (nI t) x3 bk fk lo ex 0 (n + 1) (nI i) (nI (h + 2)) (nI ran) vh vw li ll sz eT va rN rC rR yo yg le pa st qN qT qK qA on cR wa := by
  refine br_f (nI_ge (b := 80) hr (by decide)) ⟨tg_vi (tg_16i t i) (by omega) (by decide), nm_r ((tg_rd (tg_16i t i) (by omega)).trans hop) ⟨tg_vi (tg_16i t i) (by omega) (by decide), nm_r ((tg_rdL (tg_16i t i) (by omega)).trans hco) (nm_r (nI_1 i) ?_)⟩⟩
  exact br_f (by decide) (br_f (by decide) (br_f (by decide) (br_f (by decide) (br_t (by decide) (br_t (by decide) (br_f (by decide) (br_t (by decide) (⟨tg_vi (nI_pred (h + 1)) (by omega) (by decide), nm_r (tg_rdL (nI_pred (h + 1)) (by omega)) ⟨tg_vi (tg_s2 h) (by omega) (by decide), tg_vi (nI_pred (h + 1)) (by omega) (by decide), nm_r (tg_uL (nI_pred (h + 1)) (by omega) (tg_rdL (tg_s2 h) (by omega))) ⟨tg_vi (tg_s2 h) (by omega) (by decide), nm_r (tg_uL (tg_s2 h) (by omega) rfl) (nm_r (nI_1 ran) H)⟩⟩⟩))))))))
theorem ys_17 {post : Int32 → SY → Prop} (t4 : t < 4) (hr : ran < 80) (hi : i < 16) (hop : yo (16 * t + i) = nI 17) (hco : yg (16 * t + i) = c) 
    (H : wY_execute_13 post (nI t) x3 bk fk lo ex 0 n (nI (i + 1)) (nI h) (nI (ran + 1)) vh vw li ll sz eT va rN rC rR yo yg le pa st qN qT qK qA on cR wa) :
    wY_execute_13 post (nI t) x3 bk fk lo ex 0 (n + 1) (nI i) (nI (h + 1)) (nI ran) vh vw li ll sz eT va rN rC rR yo yg le pa st qN qT qK qA on cR wa := by
  refine br_f (nI_ge (b := 80) hr (by decide)) ⟨tg_vi (tg_16i t i) (by omega) (by decide), nm_r ((tg_rd (tg_16i t i) (by omega)).trans hop) ⟨tg_vi (tg_16i t i) (by omega) (by decide), nm_r ((tg_rdL (tg_16i t i) (by omega)).trans hco) (nm_r (nI_1 i) ?_)⟩⟩
  exact br_f (by decide) (br_f (by decide) (br_f (by decide) (br_f (by decide) (br_t (by decide) (br_t (by decide) (br_f (by decide) (br_f (by decide) (br_t (by decide) (nm_r (pk_m1 h) (nm_r (nI_1 ran) H))))))))))
theorem ys_18 {post : Int32 → SY → Prop} (t4 : t < 4) (hr : ran < 80) (hi : i < 16) (hop : yo (16 * t + i) = nI 18) (hco : yg (16 * t + i) = c) (h4 : h < 4)
    (H : wY_execute_13 post (nI t) x3 bk fk lo ex 0 n (nI (i + 1)) (nI h) (nI (ran + 1)) 1 (st h) li ll sz eT va rN rC rR yo yg le pa st qN qT qK qA on cR wa) :
    wY_execute_13 post (nI t) x3 bk fk lo ex 0 (n + 1) (nI i) (nI (h + 1)) (nI ran) vh vw li ll sz eT va rN rC rR yo yg le pa st qN qT qK qA on cR wa := by
  refine br_f (nI_ge (b := 80) hr (by decide)) ⟨tg_vi (tg_16i t i) (by omega) (by decide), nm_r ((tg_rd (tg_16i t i) (by omega)).trans hop) ⟨tg_vi (tg_16i t i) (by omega) (by decide), nm_r ((tg_rdL (tg_16i t i) (by omega)).trans hco) (nm_r (nI_1 i) ?_)⟩⟩
  exact br_f (by decide) (br_f (by decide) (br_f (by decide) (br_f (by decide) (br_t (by decide) (br_t (by decide) (br_f (by decide) (br_f (by decide) (br_f (by decide) (br_t (by decide) (nm_r (pk_m1 h) ⟨vp_in_nI (by omega) (by decide), nm_r (tg_rdL rfl (by omega)) (nm_r (nI_1 ran) H)⟩))))))))))
theorem ys_19 {post : Int32 → SY → Prop} (t4 : t < 4) (hr : ran < 80) (hi : i < 16) (hop : yo (16 * t + i) = nI 19) (hco : yg (16 * t + i) = c) 
    (H : wY_execute_13 post (nI t) x3 bk fk lo ex 0 n (nI (i + 1)) (nI h) (nI (ran + 1)) 0 vw li ll sz eT va rN rC rR yo yg le pa st qN qT qK qA on cR wa) :
    wY_execute_13 post (nI t) x3 bk fk lo ex 0 (n + 1) (nI i) (nI h) (nI ran) vh vw li ll sz eT va rN rC rR yo yg le pa st qN qT qK qA on cR wa := by
  refine br_f (nI_ge (b := 80) hr (by decide)) ⟨tg_vi (tg_16i t i) (by omega) (by decide), nm_r ((tg_rd (tg_16i t i) (by omega)).trans hop) ⟨tg_vi (tg_16i t i) (by omega) (by decide), nm_r ((tg_rdL (tg_16i t i) (by omega)).trans hco) (nm_r (nI_1 i) ?_)⟩⟩
  exact br_f (by decide) (br_f (by decide) (br_f (by decide) (br_f (by decide) (br_t (by decide) (br_t (by decide) (br_f (by decide) (br_f (by decide) (br_f (by decide) (br_f (by decide) (br_t (by decide) ((nm_r (nI_1 ran) H))))))))))))
theorem ys_20 {post : Int32 → SY → Prop} (t4 : t < 4) (hr : ran < 80) (hi : i < 16) (hop : yo (16 * t + i) = nI 20) (hco : yg (16 * t + i) = c) 
    (H : wY_execute_13 post (nI t) x3 bk fk lo ex 0 n c.toInt32 (nI h) (nI (ran + 1)) vh vw li ll sz eT va rN rC rR yo yg le pa st qN qT qK qA on cR wa) :
    wY_execute_13 post (nI t) x3 bk fk lo ex 0 (n + 1) (nI i) (nI h) (nI ran) vh vw li ll sz eT va rN rC rR yo yg le pa st qN qT qK qA on cR wa := by
  refine br_f (nI_ge (b := 80) hr (by decide)) ⟨tg_vi (tg_16i t i) (by omega) (by decide), nm_r ((tg_rd (tg_16i t i) (by omega)).trans hop) ⟨tg_vi (tg_16i t i) (by omega) (by decide), nm_r ((tg_rdL (tg_16i t i) (by omega)).trans hco) (nm_r (nI_1 i) ?_)⟩⟩
  exact br_f (by decide) (br_f (by decide) (br_f (by decide) (br_f (by decide) (br_t (by decide) (br_t (by decide) (br_f (by decide) (br_f (by decide) (br_f (by decide) (br_f (by decide) (br_f (by decide) (br_t (by decide) ((nm_r (nI_1 ran) H)))))))))))))
theorem ys_21a {post : Int32 → SY → Prop} (t4 : t < 4) (hr : ran < 80) (hi : i < 16) (hop : yo (16 * t + i) = nI 21) (hco : yg (16 * t + i) = c) (h4 : h < 4) (e : st h = 0)
    (H : wY_execute_13 post (nI t) x3 bk fk lo ex 0 n c.toInt32 (nI h) (nI (ran + 1)) vh vw li ll sz eT va rN rC rR yo yg le pa st qN qT qK qA on cR wa) :
    wY_execute_13 post (nI t) x3 bk fk lo ex 0 (n + 1) (nI i) (nI (h + 1)) (nI ran) vh vw li ll sz eT va rN rC rR yo yg le pa st qN qT qK qA on cR wa := by
  refine br_f (nI_ge (b := 80) hr (by decide)) ⟨tg_vi (tg_16i t i) (by omega) (by decide), nm_r ((tg_rd (tg_16i t i) (by omega)).trans hop) ⟨tg_vi (tg_16i t i) (by omega) (by decide), nm_r ((tg_rdL (tg_16i t i) (by omega)).trans hco) (nm_r (nI_1 i) ?_)⟩⟩
  exact br_f (by decide) (br_f (by decide) (br_f (by decide) (br_f (by decide) (br_t (by decide) (br_t (by decide) (br_f (by decide) (br_f (by decide) (br_f (by decide) (br_f (by decide) (br_f (by decide) (br_f (by decide) (nm_r (pk_m1 h) ⟨vp_in_nI (by omega) (by decide), br_t (by rw [nI_clamp (by omega)]; exact e) (nm_r (nI_1 ran) H)⟩))))))))))))
theorem ys_21b {post : Int32 → SY → Prop} (t4 : t < 4) (hr : ran < 80) (hi : i < 16) (hop : yo (16 * t + i) = nI 21) (hco : yg (16 * t + i) = c) (h4 : h < 4) (e : ¬ st h = 0)
    (H : wY_execute_13 post (nI t) x3 bk fk lo ex 0 n (nI (i + 1)) (nI h) (nI (ran + 1)) vh vw li ll sz eT va rN rC rR yo yg le pa st qN qT qK qA on cR wa) :
    wY_execute_13 post (nI t) x3 bk fk lo ex 0 (n + 1) (nI i) (nI (h + 1)) (nI ran) vh vw li ll sz eT va rN rC rR yo yg le pa st qN qT qK qA on cR wa := by
  refine br_f (nI_ge (b := 80) hr (by decide)) ⟨tg_vi (tg_16i t i) (by omega) (by decide), nm_r ((tg_rd (tg_16i t i) (by omega)).trans hop) ⟨tg_vi (tg_16i t i) (by omega) (by decide), nm_r ((tg_rdL (tg_16i t i) (by omega)).trans hco) (nm_r (nI_1 i) ?_)⟩⟩
  exact br_f (by decide) (br_f (by decide) (br_f (by decide) (br_f (by decide) (br_t (by decide) (br_t (by decide) (br_f (by decide) (br_f (by decide) (br_f (by decide) (br_f (by decide) (br_f (by decide) (br_f (by decide) (nm_r (pk_m1 h) ⟨vp_in_nI (by omega) (by decide), br_f (by rw [nI_clamp (by omega)]; exact e) (nm_r (nI_1 ran) H)⟩))))))))))))
theorem ys_22 {post : Int32 → SY → Prop} (t4 : t < 4) (hr : ran < 80) (hi : i < 16) (hop : yo (16 * t + i) = nI 22) (hco : yg (16 * t + i) = c) 
    (H : post 1 (bk, fk, lo, ex, vh, vw, 0, li, ll, sz, eT, va, rN, rC, rR, yo, yg, le, pa, st, qN, qT, qK, qA, on, cR, wa)) :
    wY_execute_13 post (nI t) x3 bk fk lo ex 0 (n + 1) (nI i) (nI h) (nI ran) vh vw li ll sz eT va rN rC rR yo yg le pa st qN qT qK qA on cR wa := by
  refine br_f (nI_ge (b := 80) hr (by decide)) ⟨tg_vi (tg_16i t i) (by omega) (by decide), nm_r ((tg_rd (tg_16i t i) (by omega)).trans hop) ⟨tg_vi (tg_16i t i) (by omega) (by decide), nm_r ((tg_rdL (tg_16i t i) (by omega)).trans hco) (nm_r (nI_1 i) ?_)⟩⟩
  exact br_t (by decide) H
theorem ys_23 {post : Int32 → SY → Prop} (t4 : t < 4) (hr : ran < 80) (hi : i < 16) (hop : yo (16 * t + i) = nI 23) (hco : yg (16 * t + i) = c) (h4 : h < 4)
    (H : post 0 (bk, fk, lo, ex, vh, vw, (st h), li, ll, sz, eT, va, rN, rC, rR, yo, yg, le, pa, st, qN, qT, qK, qA, on, cR, wa)) :
    wY_execute_13 post (nI t) x3 bk fk lo ex 0 (n + 1) (nI i) (nI (h + 1)) (nI ran) vh vw li ll sz eT va rN rC rR yo yg le pa st qN qT qK qA on cR wa := by
  refine br_f (nI_ge (b := 80) hr (by decide)) ⟨tg_vi (tg_16i t i) (by omega) (by decide), nm_r ((tg_rd (tg_16i t i) (by omega)).trans hop) ⟨tg_vi (tg_16i t i) (by omega) (by decide), nm_r ((tg_rdL (tg_16i t i) (by omega)).trans hco) (nm_r (nI_1 i) ?_)⟩⟩
  exact br_f (by decide) (br_f (by decide) (br_f (by decide) (br_t (by decide) ⟨tg_vi (nI_pred h) (by omega) (by decide), nm_r (tg_rdL (nI_pred h) (by omega)) H⟩)))
theorem ys_bf {post : Int32 → SY → Prop} {o : Nat} (t4 : t < 4) (hr : ran < 80) (hi : i < 16) (hop : yo (16 * t + i) = nI o) (hco : yg (16 * t + i) = c) (h3 : h < 3) (o7 : o = 7 ∨ o = 8) (e : st (h + 1) = 0)
    (H : post 1 (bk, fk, lo, ex, vh, vw, 0, li, ll, sz, eT, va, rN, rC, rR, yo, yg, le, pa, st, qN, qT, qK, qA, on, cR, wa)) :
    wY_execute_13 post (nI t) x3 bk fk lo ex 0 (n + 1) (nI i) (nI (h + 2)) (nI ran) vh vw li ll sz eT va rN rC rR yo yg le pa st qN qT qK qA on cR wa := by
  refine br_f (nI_ge (b := 80) hr (by decide)) ⟨tg_vi (tg_16i t i) (by omega) (by decide), nm_r ((tg_rd (tg_16i t i) (by omega)).trans hop) ⟨tg_vi (tg_16i t i) (by omega) (by decide), nm_r ((tg_rdL (tg_16i t i) (by omega)).trans hco) (nm_r (nI_1 i) ?_)⟩⟩
  have e2 : st (nI (h + 1 + 1) - 1).toNatClampNeg = 0 := by rw [nI_pred, nI_clamp (by omega)]; exact e
  rcases o7 with rfl | rfl
  · exact br_f (by decide) (br_t (by decide) ⟨tg_vi (nI_pred (h + 1)) (by omega) (by decide), br_t e2 H⟩)
  · exact br_f (by decide) (br_f (by decide) (br_t (by decide) ⟨tg_vi (nI_pred (h + 1)) (by omega) (by decide), br_t e2 H⟩))
theorem ys_b7 {post : Int32 → SY → Prop} {o : Nat} (t4 : t < 4) (hr : ran < 80) (hi : i < 16) (hop : yo (16 * t + i) = nI o) (hco : yg (16 * t + i) = c) (h3 : h < 3) (o7 : o = 7 ∨ o = 8) (e : ¬ st (h + 1) = 0)
    (H : wY_execute_13 post (nI t) x3 bk fk lo ex 0 n (nI (i + 1)) (nI (h + 1)) (nI (ran + 1)) vh vw li ll sz eT va rN rC rR yo yg le pa (vp_updL st h (tg_op o (st h) (st (h + 1)))) qN qT qK qA on cR wa) :
    wY_execute_13 post (nI t) x3 bk fk lo ex 0 (n + 1) (nI i) (nI (h + 2)) (nI ran) vh vw li ll sz eT va rN rC rR yo yg le pa st qN qT qK qA on cR wa := by
  refine br_f (nI_ge (b := 80) hr (by decide)) ⟨tg_vi (tg_16i t i) (by omega) (by decide), nm_r ((tg_rd (tg_16i t i) (by omega)).trans hop) ⟨tg_vi (tg_16i t i) (by omega) (by decide), nm_r ((tg_rdL (tg_16i t i) (by omega)).trans hco) (nm_r (nI_1 i) ?_)⟩⟩
  have e2 : ¬ st (nI (h + 1 + 1) - 1).toNatClampNeg = 0 := by rw [nI_pred, nI_clamp (by omega)]; exact e
  have K : wY_execute_86 post (wY_execute_13 post (nI t) x3 bk fk lo ex 0 n) (nI t) x3 (nI (i + 1)) (nI (h + 2)) (nI ran) (nI o) c bk fk lo ex vh vw 0 li ll sz eT va rN rC rR yo yg le pa st qN qT qK qA on cR wa := by
    refine br_f (tg_neI (b := 23) (by omega) (by omega) (by decide)) (br_t (nI_le (a := 4) (by omega) (by omega)) (br_f (nI_ge (b := 15) (by omega) (by decide)) (nm_r (pk_m1 (h + 1)) ⟨tg_vi (nI_pred h) (by omega) (by decide), vp_in_nI (by omega) (by decide), ?_⟩)))
    rw [nI_pred, nI_clamp (n := h) (by omega), nI_clamp (n := h + 1) (by omega)]
    exact yp_comp (by omega) (by omega) (fun _ => e) ⟨vp_in_nI (by omega) (by decide), nm_e (nm_r (nI_1 ran) H)⟩
  rcases o7 with rfl | rfl
  · exact br_f (by decide) (br_t (by decide) ⟨tg_vi (nI_pred (h + 1)) (by omega) (by decide), br_f e2 K⟩)
  · exact br_f (by decide) (br_f (by decide) (br_t (by decide) ⟨tg_vi (nI_pred (h + 1)) (by omega) (by decide), br_f e2 K⟩))
theorem ys_bo {post : Int32 → SY → Prop} {o : Nat} (t4 : t < 4) (hr : ran < 80) (hi : i < 16) (hop : yo (16 * t + i) = nI o) (hco : yg (16 * t + i) = c) (h3 : h < 3) (o1 : 4 ≤ o) (o2 : o ≤ 14) (o7 : o ≠ 7) (o8 : o ≠ 8)
    (H : wY_execute_13 post (nI t) x3 bk fk lo ex 0 n (nI (i + 1)) (nI (h + 1)) (nI (ran + 1)) vh vw li ll sz eT va rN rC rR yo yg le pa (vp_updL st h (tg_op o (st h) (st (h + 1)))) qN qT qK qA on cR wa) :
    wY_execute_13 post (nI t) x3 bk fk lo ex 0 (n + 1) (nI i) (nI (h + 2)) (nI ran) vh vw li ll sz eT va rN rC rR yo yg le pa st qN qT qK qA on cR wa := by
  refine br_f (nI_ge (b := 80) hr (by decide)) ⟨tg_vi (tg_16i t i) (by omega) (by decide), nm_r ((tg_rd (tg_16i t i) (by omega)).trans hop) ⟨tg_vi (tg_16i t i) (by omega) (by decide), nm_r ((tg_rdL (tg_16i t i) (by omega)).trans hco) (nm_r (nI_1 i) ?_)⟩⟩
  have K : wY_execute_86 post (wY_execute_13 post (nI t) x3 bk fk lo ex 0 n) (nI t) x3 (nI (i + 1)) (nI (h + 2)) (nI ran) (nI o) c bk fk lo ex vh vw 0 li ll sz eT va rN rC rR yo yg le pa st qN qT qK qA on cR wa := by
    refine br_f (tg_neI (b := 23) (by omega) (by omega) (by decide)) (br_t (nI_le (a := 4) (by omega) (by omega)) (br_f (nI_ge (b := 15) (by omega) (by decide)) (nm_r (pk_m1 (h + 1)) ⟨tg_vi (nI_pred h) (by omega) (by decide), vp_in_nI (by omega) (by decide), ?_⟩)))
    rw [nI_pred, nI_clamp (n := h) (by omega), nI_clamp (n := h + 1) (by omega)]
    exact yp_comp (by omega) (by omega) (fun y => by omega) ⟨vp_in_nI (by omega) (by decide), nm_e (nm_r (nI_1 ran) H)⟩
  exact br_f (tg_neI (b := 22) (by omega) (by omega) (by decide)) (br_f (tg_neI (b := 7) o7 (by omega) (by decide)) (br_f (tg_neI (b := 8) o8 (by omega) (by decide)) K))
end YO
end
section
/-! 14: a run of a task, both sides in step (written by genexec.py) -/
def tg_VW (vt : Int32) (vv vw : Int64) : Prop := (vt = 0 ∧ vv = 0) ∨ (vt = 1 ∧ vv = vw)
section EB
variable {bk : Int32} {lv : Int32} {ds : Int32} {fk : Int32} {lo : Int32} {ex : Int32} {ht : Int32} {vt : Int32} {vv : Int64} {rc : Int32} {rr : Int64} {ls : Nat → Int32} {eT : Nat → Int32} {eV : Nat → Int64} {rN : Nat → Int32} {rC : Nat → Int32} {rR : Nat → Int64} {dO : Nat → Int32} {dC : Nat → Int64} {tS : Nat → Int32} {tO : Nat → Int32} {tC : Nat → Int64} {re : Nat → Int32} {qN : Nat → Int32} {qT : Nat → Int32} {qK : Nat → Int32} {qA : Nat → Int32} {an : Nat → Int32} {cR : Nat → Int64} {sk : Nat → Int64} {vh : Int32} {vw : Int64} {oc : Int64} {li : Nat → Int32} {ll : Nat → Int32} {sz : Nat → Int32} {va : Nat → Int64} {yo : Nat → Int32} {yg : Nat → Int64} {le : Nat → Int32} {pa : Nat → Int32} {st : Nat → Int64} {on : Nat → Int32} {wa : Nat → Int32} {t z : Nat} {x3 ey : Int32}
theorem tg_subk {k h : Nat} (e : k ≤ h) : ∃ x, h = x + k := ⟨h - k, (Nat.sub_add_cancel e).symm⟩
theorem tg_ag {h : Nat} {sk st : Nat → Int64} {v v2 : Int64} (H : ∀ j, j < h → sk j = st j) (e : v = v2) : ∀ j, j < h + 1 → vp_updL sk h v j = vp_updL st h v2 j := by
  intro j hj
  by_cases z : j = h
  · rw [z, pk_uLs, pk_uLs, e]
  · rw [pk_uLn z, pk_uLn z]; exact H j (by omega)
theorem ex_stopX {post : SX → Prop} {n : Nat} {y r : Int32} (hr : r = -1 ∨ r = -2) (hn : 0 < n)
    (H : post (bk, lv, ds, fk, lo, ex, ht, vt, vv, (if r = -1 then 0 else 1), rr, ls, eT, eV, rN, rC, rR, dO, dC, tS, tO, tC, re, qN, qT, qK, qA, an, cR, sk)) : wX_execute_70 post (nI t) x3 n r y bk lv ds fk lo ex ht vt vv rc rr ls eT eV rN rC rR dO dC tS tO tC re qN qT qK qA an cR sk := by
  obtain ⟨n, rfl⟩ : ∃ k, n = k + 1 := ⟨n - 1, by omega⟩
  rcases hr with rfl | rfl
  · rw [if_pos rfl] at H
    exact br_c (fun _ => br_t rfl H) (fun _ => br_t (by decide) (br_t rfl H))
  · rw [if_neg (by decide)] at H
    exact br_c (fun _ => br_f (by decide) (br_t rfl H)) (fun _ => br_t (by decide) (br_f (by decide) (br_t rfl H)))
theorem ex_both {w : Nat → Nat} {R : Nat → Bool} (t4 : t < 4) (hz : z ≤ 16) (hS : tS t = nI z) (hO : ∀ i, i < z → w i < 24 ∧ tO (16 * t + i) = nI (w i) ∧ yo (16 * t + i) = nI (w i) ∧ tC (16 * t + i) = yg (16 * t + i))
    (hR : ∀ i, i < z → ∀ d, d < 5 → R (5 * i + d) = true → tg_tk (w i) ≤ d ∧ tg_e (w i) d ≤ 4 ∧ (w i ≠ 20 → w i < 22 → i + 1 < z ∧ R (5 * (i + 1) + tg_e (w i) d) = true) ∧ (w i = 20 ∨ w i = 21 → ∃ j, j < z ∧ yg (16 * t + i) = lN j ∧ R (5 * j + tg_e (w i) d) = true)) :
    ∀ (d ran i h : Nat) (sk st : Nat → Int64) (vt : Int32) (vv vw : Int64), ran + d = 80 → i < z → h < 5 → R (5 * i + h) = true → (∀ j, j < h → sk j = st j) → tg_VW vt vv vw → ∃ (co : Int32) (res : Int64) (vt9 ht9 : Int32) (vv9 vw9 : Int64) (sk9 st9 : Nat → Int64), (co = 0 ∨ co = 1 ∨ co = 2) ∧ tg_VW vt9 vv9 vw9 ∧ (∀ post : SX → Prop, post (bk, lv, ds, fk, lo, ex, ht9, vt9, vv9, co, res, ls, eT, eV, rN, rC, rR, dO, dC, tS, tO, tC, re, qN, qT, qK, qA, an, cR, sk9) → ∀ n, d < n → wX_execute_70 post (nI t) x3 n (nI i) (nI ran) bk lv ds fk lo ex (nI h) vt vv rc 0 ls eT eV rN rC rR dO dC tS tO tC re qN qT qK qA an cR sk) ∧ (∀ post : Int32 → SY → Prop, post co (bk, fk, lo, ey, vt9, vw9, res, li, ll, sz, eT, va, rN, rC, rR, yo, yg, le, pa, st9, qN, qT, qK, qA, on, cR, wa) → ∀ n, d < n → wY_execute_13 post (nI t) x3 bk fk lo ey 0 n (nI i) (nI h) (nI ran) vt vw li ll sz eT va rN rC rR yo yg le pa st qN qT qK qA on cR wa) := by
  intro d
  induction d with
  | zero =>
    intro ran i h sk st vt vv vw hd hi hh hRi hag hvw
    obtain rfl : ran = 80 := by omega
    refine ⟨2, 0, vt, nI h, vv, vw, sk, st, Or.inr (Or.inr rfl), hvw, fun post hp n hn => ?_, fun post hp n hn => ?_⟩
    · obtain ⟨n, rfl⟩ : ∃ k, n = k + 1 := ⟨n - 1, by omega⟩
      have e1 : ¬ nI i = -1 := fun e => by have := nI_pos (n := i) (by omega); rw [e] at this; exact this (by decide)
      have e2 : ¬ nI i = -2 := fun e => by have := nI_pos (n := i) (by omega); rw [e] at this; exact this (by decide)
      exact br_t (by decide) (br_f e1 (br_f e2 hp))
    · obtain ⟨n, rfl⟩ : ∃ k, n = k + 1 := ⟨n - 1, by omega⟩
      exact br_t (by decide) hp
  | succ d ih =>
    intro ran i h sk st vt vv vw hd hi hh hRi hag hvw
    have hr : ran < 80 := by omega
    have i16 : i < 16 := by omega
    obtain ⟨hw, hop, hyo, hcc⟩ := hO i hi
    obtain ⟨tk, e4, hs, hj⟩ := hR i hi h hh hRi
    have NX : ∀ (i2 h2 : Nat) (sk2 st2 : Nat → Int64) (vt2 : Int32) (vv2 vw2 : Int64), i2 < z → h2 < 5 → R (5 * i2 + h2) = true → (∀ j, j < h2 → sk2 j = st2 j) → tg_VW vt2 vv2 vw2 →
        (∀ (post : SX → Prop) (n : Nat), wX_execute_70 post (nI t) x3 n (nI i2) (nI (ran + 1)) bk lv ds fk lo ex (nI h2) vt2 vv2 rc 0 ls eT eV rN rC rR dO dC tS tO tC re qN qT qK qA an cR sk2 → wX_execute_70 post (nI t) x3 (n + 1) (nI i) (nI ran) bk lv ds fk lo ex (nI h) vt vv rc 0 ls eT eV rN rC rR dO dC tS tO tC re qN qT qK qA an cR sk) →
        (∀ (post : Int32 → SY → Prop) (n : Nat), wY_execute_13 post (nI t) x3 bk fk lo ey 0 n (nI i2) (nI h2) (nI (ran + 1)) vt2 vw2 li ll sz eT va rN rC rR yo yg le pa st2 qN qT qK qA on cR wa → wY_execute_13 post (nI t) x3 bk fk lo ey 0 (n + 1) (nI i) (nI h) (nI ran) vt vw li ll sz eT va rN rC rR yo yg le pa st qN qT qK qA on cR wa) → ∃ (co : Int32) (res : Int64) (vt9 ht9 : Int32) (vv9 vw9 : Int64) (sk9 st9 : Nat → Int64), (co = 0 ∨ co = 1 ∨ co = 2) ∧ tg_VW vt9 vv9 vw9 ∧ (∀ post : SX → Prop, post (bk, lv, ds, fk, lo, ex, ht9, vt9, vv9, co, res, ls, eT, eV, rN, rC, rR, dO, dC, tS, tO, tC, re, qN, qT, qK, qA, an, cR, sk9) → ∀ n, (d + 1) < n → wX_execute_70 post (nI t) x3 n (nI i) (nI ran) bk lv ds fk lo ex (nI h) vt vv rc 0 ls eT eV rN rC rR dO dC tS tO tC re qN qT qK qA an cR sk) ∧ (∀ post : Int32 → SY → Prop, post co (bk, fk, lo, ey, vt9, vw9, res, li, ll, sz, eT, va, rN, rC, rR, yo, yg, le, pa, st9, qN, qT, qK, qA, on, cR, wa) → ∀ n, (d + 1) < n → wY_execute_13 post (nI t) x3 bk fk lo ey 0 n (nI i) (nI h) (nI ran) vt vw li ll sz eT va rN rC rR yo yg le pa st qN qT qK qA on cR wa) := by
      intro i2 h2 sk2 st2 vt2 vv2 vw2 a1 a2 a3 a4 a5 a6 a7
      obtain ⟨co, res, vt9, ht9, vv9, vw9, sk9, st9, b1, b2, b3, b4⟩ := ih (ran + 1) i2 h2 sk2 st2 vt2 vv2 vw2 (by omega) a1 a2 a3 a4 a5
      refine ⟨co, res, vt9, ht9, vv9, vw9, sk9, st9, b1, b2, fun post hp n hn => ?_, fun post hp n hn => ?_⟩
      · obtain ⟨n, rfl⟩ : ∃ k, n = k + 1 := ⟨n - 1, by omega⟩
        exact a6 post n (b3 post hp n (by omega))
      · obtain ⟨n, rfl⟩ : ∃ k, n = k + 1 := ⟨n - 1, by omega⟩
        exact a7 post n (b4 post hp n (by omega))
    have FL : ∀ ht2 : Int32, (∀ (post : SX → Prop) (n : Nat), 0 < n → post (bk, lv, ds, fk, lo, ex, ht2, vt, vv, 1, 0, ls, eT, eV, rN, rC, rR, dO, dC, tS, tO, tC, re, qN, qT, qK, qA, an, cR, sk) → wX_execute_70 post (nI t) x3 (n + 1) (nI i) (nI ran) bk lv ds fk lo ex (nI h) vt vv rc 0 ls eT eV rN rC rR dO dC tS tO tC re qN qT qK qA an cR sk) → (∀ (post : Int32 → SY → Prop) (n : Nat), post 1 (bk, fk, lo, ey, vt, vw, 0, li, ll, sz, eT, va, rN, rC, rR, yo, yg, le, pa, st, qN, qT, qK, qA, on, cR, wa) → wY_execute_13 post (nI t) x3 bk fk lo ey 0 (n + 1) (nI i) (nI h) (nI ran) vt vw li ll sz eT va rN rC rR yo yg le pa st qN qT qK qA on cR wa) → ∃ (co : Int32) (res : Int64) (vt9 ht9 : Int32) (vv9 vw9 : Int64) (sk9 st9 : Nat → Int64), (co = 0 ∨ co = 1 ∨ co = 2) ∧ tg_VW vt9 vv9 vw9 ∧ (∀ post : SX → Prop, post (bk, lv, ds, fk, lo, ex, ht9, vt9, vv9, co, res, ls, eT, eV, rN, rC, rR, dO, dC, tS, tO, tC, re, qN, qT, qK, qA, an, cR, sk9) → ∀ n, (d + 1) < n → wX_execute_70 post (nI t) x3 n (nI i) (nI ran) bk lv ds fk lo ex (nI h) vt vv rc 0 ls eT eV rN rC rR dO dC tS tO tC re qN qT qK qA an cR sk) ∧ (∀ post : Int32 → SY → Prop, post co (bk, fk, lo, ey, vt9, vw9, res, li, ll, sz, eT, va, rN, rC, rR, yo, yg, le, pa, st9, qN, qT, qK, qA, on, cR, wa) → ∀ n, (d + 1) < n → wY_execute_13 post (nI t) x3 bk fk lo ey 0 n (nI i) (nI h) (nI ran) vt vw li ll sz eT va rN rC rR yo yg le pa st qN qT qK qA on cR wa) := by
      intro ht2 a1 a2
      refine ⟨1, 0, vt, ht2, vv, vw, sk, st, Or.inr (Or.inl rfl), hvw, fun post hp n hn => ?_, fun post hp n hn => ?_⟩
      · obtain ⟨n, rfl⟩ : ∃ k, n = k + 1 := ⟨n - 1, by omega⟩
        exact a1 post n (by omega) hp
      · obtain ⟨n, rfl⟩ : ∃ k, n = k + 1 := ⟨n - 1, by omega⟩
        exact a2 post n hp
    generalize ho : w i = o at hw hop hyo tk e4 hs hj
    clear hO hR ih
    by_cases bin : 4 ≤ o ∧ o ≤ 14
    · have k2 : tg_tk o = 2 := if_pos (Or.inl bin)
      have g1 : tg_gv o = 1 := by unfold tg_gv; rw [if_neg (by omega), if_pos (by omega)]
      unfold tg_e at e4 hs hj
      rw [k2] at tk e4 hs
      rw [g1] at e4 hs
      clear hj
      obtain ⟨h, rfl⟩ := tg_subk tk
      obtain ⟨n1, n2⟩ := hs (by omega) (by omega)
      have ag0 : sk h = st h := hag h (by omega)
      have ag1 : sk (h + 1) = st (h + 1) := hag (h + 1) (by omega)
      by_cases o7 : o = 7 ∨ o = 8
      · by_cases e : sk (h + 1) = 0
        · refine FL (nI h) (fun post n hn hp => xs_bf t4 hr hi hz hS hop rfl (by omega) o7 e (ex_stopX (Or.inr rfl) hn ?_)) (fun post n hp => ys_bf t4 hr i16 hyo rfl (by omega) o7 (by rw [← ag1]; exact e) hp)
          rw [if_neg (by decide)]; exact hp
        · exact NX (i + 1) (h + 1) (vp_updL sk h (tg_op o (sk h) (sk (h + 1)))) (vp_updL st h (tg_op o (st h) (st (h + 1)))) vt vv vw n1 (by omega) n2 (tg_ag (fun j hj => hag j (by omega)) (by rw [ag0, ag1])) hvw
            (fun post n q => xs_b7 t4 hr hi hz hS hop rfl (by omega) o7 e (by rw [nI_1 i]; exact q)) (fun post n q => ys_b7 t4 hr i16 hyo rfl (by omega) o7 (by rw [← ag1]; exact e) q)
      · exact NX (i + 1) (h + 1) (vp_updL sk h (tg_op o (sk h) (sk (h + 1)))) (vp_updL st h (tg_op o (st h) (st (h + 1)))) vt vv vw n1 (by omega) n2 (tg_ag (fun j hj => hag j (by omega)) (by rw [ag0, ag1])) hvw
          (fun post n q => xs_bo t4 hr hi hz hS hop rfl (by omega) bin.1 bin.2 (by omega) (by omega) (by rw [nI_1 i]; exact q)) (fun post n q => ys_bo t4 hr i16 hyo rfl (by omega) bin.1 bin.2 (by omega) (by omega) q)
    · have : o = 0 ∨ o = 1 ∨ o = 2 ∨ o = 3 ∨ o = 15 ∨ o = 16 ∨ o = 17 ∨ o = 18 ∨ o = 19 ∨ o = 20 ∨ o = 21 ∨ o = 22 ∨ o = 23 := by omega
      unfold tg_e at e4 hs hj
      rcases this with rfl | rfl | rfl | rfl | rfl | rfl | rfl | rfl | rfl | rfl | rfl | rfl | rfl
      · have k2 : tg_tk 0 = 0 := by decide
        have g1 : tg_gv 0 = 1 := by decide
        rw [k2] at tk e4 hs hj
        rw [g1] at e4 hs hj
        obtain ⟨n1, n2⟩ := hs (by decide) (by decide)
        clear hj
        exact NX (i + 1) (h + 1) (vp_updL sk h (tC (16 * t + i))) (vp_updL st h (yg (16 * t + i))) vt vv vw n1 (by omega) n2 (tg_ag hag hcc) hvw
          (fun post n q => xs_0 t4 hr hi hz hS hop rfl (by omega) (by rw [nI_1 i]; exact q)) (fun post n q => ys_0 t4 hr i16 hyo rfl (by omega) q)
      · have k2 : tg_tk 1 = 0 := by decide
        have g1 : tg_gv 1 = 1 := by decide
        rw [k2] at tk e4 hs hj
        rw [g1] at e4 hs hj
        obtain ⟨n1, n2⟩ := hs (by decide) (by decide)
        clear hj
        exact NX (i + 1) (h + 1) (vp_updL sk h vv) (vp_updL st h (if vt = 0 then 0 else vw)) vt vv vw n1 (by omega) n2 (tg_ag hag (by
          rcases hvw with ⟨a, b⟩ | ⟨a, b⟩
          · rw [if_pos a, b]
          · rw [if_neg (by rw [a]; decide), b])) hvw
          (fun post n q => xs_1 t4 hr hi hz hS hop rfl (by omega) (by rw [nI_1 i]; exact q)) (fun post n q => ys_1 t4 hr i16 hyo rfl (by omega) q)
      · have k2 : tg_tk 2 = 0 := by decide
        have g1 : tg_gv 2 = 1 := by decide
        rw [k2] at tk e4 hs hj
        rw [g1] at e4 hs hj
        obtain ⟨n1, n2⟩ := hs (by decide) (by decide)
        clear hj
        exact NX (i + 1) (h + 1) (vp_updL sk h (if vt = 0 then 0 else 1)) (vp_updL st h (if vt = 0 then 0 else 1)) vt vv vw n1 (by omega) n2 (tg_ag hag rfl) hvw
          (fun post n q => xs_2 t4 hr hi hz hS hop rfl (by omega) (by rw [nI_1 i]; exact q)) (fun post n q => ys_2 t4 hr i16 hyo rfl (by omega) q)
      · have k2 : tg_tk 3 = 0 := by decide
        have g1 : tg_gv 3 = 1 := by decide
        rw [k2] at tk e4 hs hj
        rw [g1] at e4 hs hj
        obtain ⟨n1, n2⟩ := hs (by decide) (by decide)
        clear hj
        exact NX (i + 1) (h + 1) (vp_updL sk h x3.toInt64) (vp_updL st h x3.toInt64) vt vv vw n1 (by omega) n2 (tg_ag hag rfl) hvw
          (fun post n q => xs_3 t4 hr hi hz hS hop rfl (by omega) (by rw [nI_1 i]; exact q)) (fun post n q => ys_3 t4 hr i16 hyo rfl (by omega) q)
      · have k2 : tg_tk 15 = 1 := by decide
        have g1 : tg_gv 15 = 2 := by decide
        rw [k2] at tk e4 hs hj
        rw [g1] at e4 hs hj
        obtain ⟨h, rfl⟩ := tg_subk tk
        obtain ⟨n1, n2⟩ := hs (by decide) (by decide)
        clear hj
        have ag0 : sk h = st h := hag h (by omega)
        refine NX (i + 1) (h + 2) (vp_updL (vp_updL sk h (sk h)) (h + 1) (sk h)) (vp_updL st (h + 1) (st h)) vt vv vw n1 (by omega) n2 (tg_ag (fun j hj => ?_) ag0) hvw
          (fun post n q => xs_15 t4 hr hi hz hS hop rfl (by omega) (by rw [nI_1 i]; exact q)) (fun post n q => ys_15 t4 hr i16 hyo rfl (by omega) q)
        by_cases e : j = h
        · rw [e, pk_uLs]; exact ag0
        · rw [pk_uLn e]; exact hag j (by omega)
      · have k2 : tg_tk 16 = 2 := by decide
        have g1 : tg_gv 16 = 2 := by decide
        rw [k2] at tk e4 hs hj
        rw [g1] at e4 hs hj
        obtain ⟨h, rfl⟩ := tg_subk tk
        obtain ⟨n1, n2⟩ := hs (by decide) (by decide)
        clear hj
        have ag0 : sk h = st h := hag h (by omega)
        have ag1 : sk (h + 1) = st (h + 1) := hag (h + 1) (by omega)
        refine NX (i + 1) (h + 2) (vp_updL (vp_updL sk h (sk (h + 1))) (h + 1) (sk h)) (vp_updL (vp_updL st (h + 1) (st h)) h (st (h + 1))) vt vv vw n1 (by omega) n2 (fun j hj => ?_) hvw
          (fun post n q => xs_16 t4 hr hi hz hS hop rfl (by omega) (by rw [nI_1 i]; exact q)) (fun post n q => ys_16 t4 hr i16 hyo rfl (by omega) q)
        by_cases e : j = h + 1
        · rw [e, pk_uLs, pk_uLn (by omega), pk_uLs]; exact ag0
        · rw [pk_uLn e]
          by_cases e2 : j = h
          · rw [e2, pk_uLs, pk_uLs]; exact ag1
          · rw [pk_uLn e2, pk_uLn e2, pk_uLn e]; exact hag j (by omega)
      · have k2 : tg_tk 17 = 1 := by decide
        have g1 : tg_gv 17 = 0 := by decide
        rw [k2] at tk e4 hs hj
        rw [g1] at e4 hs hj
        obtain ⟨h, rfl⟩ := tg_subk tk
        obtain ⟨n1, n2⟩ := hs (by decide) (by decide)
        clear hj
        exact NX (i + 1) h sk st vt vv vw n1 (by omega) n2 (fun j hj => hag j (by omega)) hvw
          (fun post n q => xs_17 t4 hr hi hz hS hop rfl (by omega) (by rw [nI_1 i]; exact q)) (fun post n q => ys_17 t4 hr i16 hyo rfl q)
      · have k2 : tg_tk 18 = 1 := by decide
        have g1 : tg_gv 18 = 0 := by decide
        rw [k2] at tk e4 hs hj
        rw [g1] at e4 hs hj
        obtain ⟨h, rfl⟩ := tg_subk tk
        obtain ⟨n1, n2⟩ := hs (by decide) (by decide)
        clear hj
        exact NX (i + 1) h sk st 1 (sk h) (st h) n1 (by omega) n2 (fun j hj => hag j (by omega)) (Or.inr ⟨rfl, hag h (by omega)⟩)
          (fun post n q => xs_18 t4 hr hi hz hS hop rfl (by omega) (by rw [nI_1 i]; exact q)) (fun post n q => ys_18 t4 hr i16 hyo rfl (by omega) q)
      · have k2 : tg_tk 19 = 0 := by decide
        have g1 : tg_gv 19 = 0 := by decide
        rw [k2] at tk e4 hs hj
        rw [g1] at e4 hs hj
        obtain ⟨n1, n2⟩ := hs (by decide) (by decide)
        clear hj
        exact NX (i + 1) h sk st 0 0 vw n1 (by omega) n2 (fun j hj => hag j (by omega)) (Or.inl ⟨rfl, rfl⟩)
          (fun post n q => xs_19 t4 hr hi hz hS hop rfl (by rw [nI_1 i]; exact q)) (fun post n q => ys_19 t4 hr i16 hyo rfl q)
      · have k2 : tg_tk 20 = 0 := by decide
        have g1 : tg_gv 20 = 0 := by decide
        rw [k2] at tk e4 hs hj
        rw [g1] at e4 hs hj
        obtain ⟨jj, m1, m2, m3⟩ := hj (by decide)
        clear hj
        exact NX jj h sk st vt vv vw m1 (by omega) m3 hag hvw
          (fun post n q => xs_20 t4 hr hi hz hS hop (hcc.trans m2) (by rw [lN_i]; exact q)) (fun post n q => ys_20 t4 hr i16 hyo m2 (by rw [lN_i]; exact q))
      · have k2 : tg_tk 21 = 1 := by decide
        have g1 : tg_gv 21 = 0 := by decide
        rw [k2] at tk e4 hs hj
        rw [g1] at e4 hs hj
        obtain ⟨h, rfl⟩ := tg_subk tk
        obtain ⟨n1, n2⟩ := hs (by decide) (by decide)
        obtain ⟨jj, m1, m2, m3⟩ := hj (by decide)
        clear hj
        have ag0 : sk h = st h := hag h (by omega)
        by_cases e : sk h = 0
        · exact NX jj h sk st vt vv vw m1 (by omega) m3 (fun j hj => hag j (by omega)) hvw
            (fun post n q => xs_21a t4 hr hi hz hS hop (hcc.trans m2) (by omega) e (by rw [lN_i]; exact q)) (fun post n q => ys_21a t4 hr i16 hyo m2 (by omega) (by rw [← ag0]; exact e) (by rw [lN_i]; exact q))
        · exact NX (i + 1) h sk st vt vv vw n1 (by omega) n2 (fun j hj => hag j (by omega)) hvw
            (fun post n q => xs_21b t4 hr hi hz hS hop (hcc.trans m2) (by omega) e (by rw [nI_1 i]; exact q)) (fun post n q => ys_21b t4 hr i16 hyo m2 (by omega) (by rw [← ag0]; exact e) q)
      · refine FL (nI h) (fun post n hn hp => xs_22 t4 hr hi hz hS hop rfl (ex_stopX (Or.inr rfl) hn ?_)) (fun post n hp => ys_22 t4 hr i16 hyo rfl hp)
        rw [if_neg (by decide)]; exact hp
      · have k2 : tg_tk 23 = 1 := by decide
        have g1 : tg_gv 23 = 0 := by decide
        rw [k2] at tk e4 hs hj
        rw [g1] at e4 hs hj
        obtain ⟨h, rfl⟩ := tg_subk tk
        clear hj
        refine ⟨0, sk h, vt, nI h, vv, vw, sk, st, Or.inl rfl, hvw, fun post hp n hn => ?_, fun post hp n hn => ?_⟩
        · obtain ⟨n, rfl⟩ : ∃ k, n = k + 1 := ⟨n - 1, by omega⟩
          refine xs_23 t4 hr hi hz hS hop rfl (by omega) (ex_stopX (Or.inl rfl) (by omega) ?_)
          rw [if_pos rfl]; exact hp
        · obtain ⟨n, rfl⟩ : ∃ k, n = k + 1 := ⟨n - 1, by omega⟩
          refine ys_23 t4 hr i16 hyo rfl (by omega) ?_
          rw [← hag h (by omega)]; exact hp
end EB
end
section
/-! 15: an execution, both sides -/
section SD
variable {bk : Int32} {lv : Int32} {ds : Int32} {fk : Int32} {lo : Int32} {ex : Int32} {ht : Int32} {vt : Int32} {vv : Int64} {rc : Int32} {rr : Int64} {ls : Nat → Int32} {eT : Nat → Int32} {eV : Nat → Int64} {rN : Nat → Int32} {rC : Nat → Int32} {rR : Nat → Int64} {dO : Nat → Int32} {dC : Nat → Int64} {tS : Nat → Int32} {tO : Nat → Int32} {tC : Nat → Int64} {re : Nat → Int32} {qN : Nat → Int32} {qT : Nat → Int32} {qK : Nat → Int32} {qA : Nat → Int32} {an : Nat → Int32} {cR : Nat → Int64} {sk : Nat → Int64} {vh : Int32} {vw : Int64} {oc : Int64} {li : Nat → Int32} {ll : Nat → Int32} {sz : Nat → Int32} {va : Nat → Int64} {yo : Nat → Int32} {yg : Nat → Int64} {le : Nat → Int32} {pa : Nat → Int32} {st : Nat → Int64} {on : Nat → Int32} {wa : Nat → Int32}
theorem tg_bool {x : Int32} (h : x = 0 ∨ x = 1) : narrow .boolean (.int x) = .int x ∧ fits .boolean (.int x) = true := by
  rcases h with rfl | rfl
  · exact ⟨rfl, by first | rfl | decide⟩
  · exact ⟨rfl, by first | rfl | decide⟩
theorem tg_vbl {x : Int32} (h : x = 0 ∨ x = 1) : vp_nar .boolean x = x := by
  rcases h with rfl | rfl
  · exact tg_vb0
  · exact tg_vb1
theorem tg_VW01 {vt : Int32} {vv vw : Int64} (h : tg_VW vt vv vw) : vt = 0 ∨ vt = 1 := by
  rcases h with h | h
  · exact Or.inl h.1
  · exact Or.inr h.1
theorem ex_all {c key : Nat} (hP : tg_Pr ds dO dC tS tO tC yo yg le) (hD : tg_D eT eV va) (hc : c < 3) (hkey : key < 18) :
    ∃ (co : Int32) (res : Int64) (vt9 ht9 : Int32) (vv9 vw9 : Int64) (sk9 st9 : Nat → Int64) (vh9 : Int32), (co = 0 → tg_VW vt9 vv9 vw9 ∧ vh9 = vt9) ∧
    (∀ post : SX → Prop, post (bk, lv, ds, fk, lo, (ex + 1), ht9, vt9, vv9, co, res, ls, eT, eV, rN, rC, rR, dO, dC, tS, tO, tC, re, qN, qT, qK, qA, an, cR, sk9) → wpX_execute post (bk, lv, ds, fk, lo, ex, ht, vt, vv, rc, rr, ls, eT, eV, rN, rC, rR, dO, dC, tS, tO, tC, re, qN, qT, qK, qA, an, cR, sk) (qT c) (nI key) (qA c)) ∧
    (∀ (post : Int32 → SY → Prop) (f m q x7 : Int32), wY_send_211 post (nI c) f (nI key) m q co 1 bk fk lo (ex + 1) vh9 vw9 res li ll sz eT va rN rC rR yo yg le pa st9 qN qT qK qA on cR wa → wY_send_102 post (nI c) f (nI key) m q x7 1 bk fk lo ex vh vw oc li ll sz eT va rN rC rR yo yg le pa st qN qT qK qA on cR wa) := by
  have cl : (nI key).toNatClampNeg = key := nI_clamp (by omega)
  have ck : (nI c).toNatClampNeg = c := nI_clamp (by omega)
  have i18 : vp_in (nI key) 18 := vp_in_nI hkey (by decide)
  have i3 : vp_in (nI c) 3 := vp_in_nI hc (by decide)
  have e01 : eT key = 0 ∨ eT key = 1 := by
    rcases hD key hkey with z | z
    · exact Or.inl z.1
    · exact Or.inr z.1
  have hvw : tg_VW (eT key) (eV key) (va key) := hD key hkey
  have B := tg_bool e01
  -- Y's opening
  have YO : ∀ (post : Int32 → SY → Prop) (f m q x7 : Int32),
      ((qT c < 0 → wY_send_166 post (nI c) f (nI key) m q 1 bk fk lo ex (eT key) (va key) oc li ll sz eT va rN rC rR yo yg le pa st qN qT qK qA on cR wa) ∧ (¬ qT c < 0 → vp_in (nI c) 3 ∧ ((4 ≤ qT c → wY_send_166 post (nI c) f (nI key) m q 1 bk fk lo ex (eT key) (va key) oc li ll sz eT va rN rC rR yo yg le pa st qN qT qK qA on cR wa) ∧ (¬ 4 ≤ qT c → vp_in (nI c) 3 ∧ (vp_in (qT c) 5 ∧ ((le (qT c).toNatClampNeg ≤ 0 → wY_send_166 post (nI c) f (nI key) m q 1 bk fk lo ex (eT key) (va key) oc li ll sz eT va rN rC rR yo yg le pa st qN qT qK qA on cR wa) ∧ (¬ le (qT c).toNatClampNeg ≤ 0 → wY_send_167 post (nI c) f (nI key) m q 1 1 bk fk lo ex (eT key) (va key) oc li ll sz eT va rN rC rR yo yg le pa st qN qT qK qA on cR wa))))))) →
      wY_send_102 post (nI c) f (nI key) m q x7 1 bk fk lo ex vh vw oc li ll sz eT va rN rC rR yo yg le pa st qN qT qK qA on cR wa := by
    intro post f m q x7 h
    refine br_f tg_d1 ⟨i18, nm_r (tg_rd rfl (by omega)) ⟨B.1, B.2, i18, nm_r (tg_rdL rfl (by omega)) ⟨i3, ?_⟩⟩⟩
    rw [ck]
    exact h
  have NT : ∀ (post : Int32 → SY → Prop) (f m q : Int32), wY_send_211 post (nI c) f (nI key) m q 3 1 bk fk lo (ex + 1) (eT key) (va key) 0 li ll sz eT va rN rC rR yo yg le pa st qN qT qK qA on cR wa → wY_send_166 post (nI c) f (nI key) m q 1 bk fk lo ex (eT key) (va key) oc li ll sz eT va rN rC rR yo yg le pa st qN qT qK qA on cR wa :=
    fun post f m q h => br_t rfl (nm_e h)
  have h30 : ¬ (3 : Int32) = 0 := by decide
  rcases pk_ix (qT c) (n := 4) (by decide) with h | h | ⟨t, ht4, et⟩
  · refine ⟨3, 0, vt, ht, vv, va key, sk, st, eT key, fun z => absurd z h30, fun post hp => ?_, fun post f m q x7 hp => YO post f m q x7 (br_t h (NT _ _ _ _ hp))⟩
    exact nm_e (br_t h hp)
  · have Bg := tg_big h (by decide)
    refine ⟨3, 0, vt, ht, vv, va key, sk, st, eT key, fun z => absurd z h30, fun post hp => ?_, fun post f m q x7 hp => YO post f m q x7 (br_f Bg.1 ⟨i3, br_t h (NT _ _ _ _ hp)⟩)⟩
    exact nm_e (br_f Bg.1 (br_t h hp))
  · obtain ⟨z, hz, e1, e2, e3, e4⟩ := hP.2 t ht4
    have ctt : (nI t).toNatClampNeg = t := nI_clamp (by omega)
    have y1 : ¬ nI t < 0 := nI_pos (by omega)
    have y2 : ¬ (4 : Int32) ≤ nI t := nI_ge (b := 4) ht4 (by decide)
    have i4 : vp_in (nI t) 4 := vp_in_nI ht4 (by decide)
    have i5 : vp_in (nI t) 5 := vp_in_nI (by omega) (by decide)
    by_cases hz0 : z = 0
    · subst hz0
      refine ⟨3, 0, vt, ht, vv, va key, sk, st, eT key, fun z => absurd z h30, fun post hp => ?_, fun post f m q x7 hp => YO post f m q x7 ?_⟩
      · rw [et]
        exact nm_e (br_f y1 (br_f y2 ⟨i4, br_t (by rw [ctt, e1]; rfl) hp⟩))
      · rw [et]
        exact br_f y1 ⟨i3, br_f y2 ⟨i3, i5, br_t (by rw [ctt, e2]; decide) (NT _ _ _ _ hp)⟩⟩
    · obtain ⟨w, f1, R, r0, hR⟩ := e4 hz0
      obtain ⟨co, res, vt9, ht9, vv9, vw9, sk9, st9, b1, b2, b3, b4⟩ := ex_both (bk := bk) (lv := lv) (ds := ds) (fk := fk) (lo := lo) (ex := (ex + 1)) (rc := rc) (ls := ls) (eT := eT) (eV := eV) (rN := rN) (rC := rC) (rR := rR) (dO := dO) (dC := dC) (tS := tS) (tO := tO) (tC := tC) (re := re) (qN := qN) (qT := qT) (qK := qK) (qA := qA) (an := an) (cR := cR) (li := li) (ll := ll) (sz := sz) (va := va) (yo := yo) (yg := yg) (le := le) (pa := pa) (on := on) (wa := wa) (ey := ex) (x3 := qA c) (t := t) (z := z) (w := w) (R := R) ht4 hz e1 (fun i hi => ⟨(f1 i hi).1, (e3 i hi).1.trans (f1 i hi).2, (f1 i hi).2, (e3 i hi).2⟩) hR 80 0 0 0 sk st (eT key) (eV key) (va key) (by omega) (by omega) (by decide) r0 (fun j hj => absurd hj (by omega)) hvw
      refine ⟨co, res, vt9, ht9, vv9, vw9, sk9, st9, vt9, fun _ => ⟨b2, rfl⟩, fun post hp => ?_, fun post f m q x7 hp => YO post f m q x7 ?_⟩
      · rw [et]
        refine nm_e (br_f y1 (br_f y2 ⟨i4, br_f (by rw [ctt, e1]; exact nI_ne0 (by omega) (by omega)) ⟨i18, nm_r (tg_rd rfl (by omega)) ⟨B.1, B.2, i18, nm_r (tg_rdL rfl (by omega)) ⟨81, ?_⟩⟩⟩⟩))
        exact b3 post hp 81 (by omega)
      · rw [et]
        refine br_f y1 ⟨i3, br_f y2 ⟨i3, i5, br_f (by rw [ctt, e2]; exact nI_nle (by omega) (by omega)) (br_f tg_d1 ⟨i3, i3, ?_⟩)⟩⟩
        rw [ck, et]
        refine ⟨81, b4 _ ?_ 81 (by omega)⟩
        intro y ey
        subst ey
        exact hp
end SD
end
section
/-! 16: sending, both sides -/
def tg_B (k : Nat) (WX : (Int32 → SX → Prop) → Prop) (WY : (Int32 → SY → Prop) → Prop) : Prop :=
  ∃ (QX : Int32 → SX → Prop) (QY : Int32 → SY → Prop), (∀ post, (∀ r u, QX r u → post r u) → WX post) ∧ (∀ post, (∀ r v, QY r v → post r v) → WY post) ∧ ∀ r u r' v, QX r u → QY r' v → r' = r ∧ i_Rel k u v
theorem tg_B_m {k : Nat} {WX WX' : (Int32 → SX → Prop) → Prop} {WY WY' : (Int32 → SY → Prop) → Prop} (B : tg_B k WX' WY') (hX : ∀ post, WX' post → WX post) (hY : ∀ post, WY' post → WY post) : tg_B k WX WY := by
  obtain ⟨QX, QY, a, b, c⟩ := B
  exact ⟨QX, QY, fun post h => hX post (a post h), fun post h => hY post (b post h), c⟩
theorem tg_B_1 {k : Nat} {WX : (Int32 → SX → Prop) → Prop} {WY : (Int32 → SY → Prop) → Prop} {r : Int32} {u : SX} {v : SY} (h : i_Rel k u v) (hX : ∀ post : Int32 → SX → Prop, post r u → WX post) (hY : ∀ post : Int32 → SY → Prop, post r v → WY post) : tg_B k WX WY :=
  ⟨fun r' u' => r' = r ∧ u' = u, fun r' v' => r' = r ∧ v' = v, fun post hp => hX post (hp _ _ ⟨rfl, rfl⟩), fun post hp => hY post (hp _ _ ⟨rfl, rfl⟩), fun r1 u1 r2 v1 a b => by
    obtain ⟨rfl, rfl⟩ := a
    obtain ⟨rfl, rfl⟩ := b
    exact ⟨rfl, h⟩⟩
section ST
variable {bk : Int32} {lv : Int32} {ds : Int32} {fk : Int32} {lo : Int32} {ex : Int32} {ht : Int32} {vt : Int32} {vv : Int64} {rc : Int32} {rr : Int64} {ls : Nat → Int32} {eT : Nat → Int32} {eV : Nat → Int64} {rN : Nat → Int32} {rC : Nat → Int32} {rR : Nat → Int64} {dO : Nat → Int32} {dC : Nat → Int64} {tS : Nat → Int32} {tO : Nat → Int32} {tC : Nat → Int64} {re : Nat → Int32} {qN : Nat → Int32} {qT : Nat → Int32} {qK : Nat → Int32} {qA : Nat → Int32} {an : Nat → Int32} {cR : Nat → Int64} {sk : Nat → Int64} {vh : Int32} {vw : Int64} {oc : Int64} {li : Nat → Int32} {ll : Nat → Int32} {sz : Nat → Int32} {va : Nat → Int64} {yo : Nat → Int32} {yg : Nat → Int64} {le : Nat → Int32} {pa : Nat → Int32} {st : Nat → Int64} {on : Nat → Int32} {wa : Nat → Int32}
theorem sd_dr {k b L m : Nat} {g : Nat → List Nat} {WX : (Int32 → SX → Prop) → Prop} {WY : (Int32 → SY → Prop) → Prop} (hb : b ≤ 2) (hL : L < 32) (hm : m < 5) (hli : tg_LI L li) (hg : ∀ p, p < 6 → tg_G L (g p)) (hx : tg_LX g ls) (hy : tg_LY g ll sz)
    (hD : tg_D eT eV va) (hP : tg_Pr ds dO dC tS tO tC yo yg le) (hQ : tg_Q k qN qK an on) (hF : tg_F fk)
    (hX : ∀ post : Int32 → SX → Prop, (∀ ls2, tg_LX (tg_g' g m (tg_del L m) b) ls2 → post 5 ((nI b), (nI (tg_del L m)), ds, fk, (tg_dL (tg_lz g m) lo 6), ex, ht, vt, vv, rc, rr, ls2, (tg_dE (tg_lz g m) eT 6), (tg_dV (tg_lz g m) eV 6), (tg_dN (tg_lz g m) rN 6), rC, rR, dO, dC, tS, tO, tC, re, qN, qT, qK, qA, an, cR, sk)) → WX post)
    (hY : ∀ post : Int32 → SY → Prop, (∀ li2 ll2 sz2 wa2, tg_LI (tg_del L m) li2 → tg_LY (tg_g' g m (tg_del L m) b) ll2 sz2 → post 5 ((nI b), fk, (tg_dL (tg_lz g m) lo 6), ex, vh, vw, oc, li2, ll2, sz2, (tg_dE (tg_lz g m) eT 6), va, (tg_dN (tg_lz g m) rN 6), rC, rR, yo, yg, le, pa, st, qN, qT, qK, qA, on, cR, wa2)) → WY post) : tg_B k WX WY := by
  refine ⟨fun r u => r = 5 ∧ ∃ ls2, tg_LX (tg_g' g m (tg_del L m) b) ls2 ∧ u = ((nI b), (nI (tg_del L m)), ds, fk, (tg_dL (tg_lz g m) lo 6), ex, ht, vt, vv, rc, rr, ls2, (tg_dE (tg_lz g m) eT 6), (tg_dV (tg_lz g m) eV 6), (tg_dN (tg_lz g m) rN 6), rC, rR, dO, dC, tS, tO, tC, re, qN, qT, qK, qA, an, cR, sk),
    fun r v => r = 5 ∧ ∃ li2 ll2 sz2 wa2, tg_LI (tg_del L m) li2 ∧ tg_LY (tg_g' g m (tg_del L m) b) ll2 sz2 ∧ v = ((nI b), fk, (tg_dL (tg_lz g m) lo 6), ex, vh, vw, oc, li2, ll2, sz2, (tg_dE (tg_lz g m) eT 6), va, (tg_dN (tg_lz g m) rN 6), rC, rR, yo, yg, le, pa, st, qN, qT, qK, qA, on, cR, wa2),
    fun post hp => hX post (fun ls2 h2 => hp _ _ ⟨rfl, ls2, h2, rfl⟩),
    fun post hp => hY post (fun li2 ll2 sz2 wa2 h1 h2 => hp _ _ ⟨rfl, li2, ll2, sz2, wa2, h1, h2, rfl⟩), ?_⟩
  intro r u r' v a c
  obtain ⟨rfl, ls2, h2, rfl⟩ := a
  obtain ⟨rfl, li2, ll2, sz2, wa2, h3, h4, rfl⟩ := c
  exact ⟨rfl, i_mk ⟨b, tg_del L m, tg_g' g m (tg_del L m) b, hb, (tg_anb L hL m hm).1, rfl, rfl, h3, tg_C_dr hb hL hm hg, h2, h4⟩ (tg_dE_D hD 6) hP hQ hF⟩
theorem tg_Q_an {k c : Nat} (hQ : tg_Q k qN qK an on) (hc : c < 3) : tg_Q k qN qK (upd an c 1) (upd on c 0) := by
  intro d hd
  obtain ⟨j, q, h1, h2, h3, h4, h5⟩ := hQ d hd
  by_cases e : d = c
  · subst e
    exact ⟨j, q, h1, h2, h3, h4, Or.inr ⟨pk_us, Or.inr pk_us⟩⟩
  · exact ⟨j, q, h1, h2, h3, h4, by rw [pk_un e, pk_un e]; exact h5⟩
theorem sd_1 {k b L m c f q : Nat} {g : Nat → List Nat} {co : Int32} (hc : c < 3) (hq : q < 18) (hf : f = 0 ∨ f = 3 ∨ f = 4) (hb : b ≤ 2) (hL : L < 32) (hm : m < 5) (hli : tg_LI L li) (hg : ∀ p, p < 6 → tg_G L (g p) ∧ (g p = [] ↔ L = 0)) (hx : tg_LX g ls) (hy : tg_LY g ll sz)
    (hD : tg_D eT eV va) (hP : tg_Pr ds dO dC tS tO tC yo yg le) (hQ : tg_Q k qN qK an on) (hF : tg_F fk) (e1 : rC q = co) (e2 : rR q = oc) :
    tg_B k (fun post => wX_send_136 post (nI c) (nI f) (nI q) (nI m) (nI b) (nI L) ds fk lo ex ht vt vv rc rr ls eT eV rN rC rR dO dC tS tO tC re qN qT qK qA an cR sk) (fun post => wY_send_292 post (nI c) (nI f) (nI m) co (nI b) fk lo ex vh vw oc li ll sz eT va rN rC rR yo yg le pa st qN qT qK qA on cR wa) := by
  have i18 : vp_in (nI q) 18 := vp_in_nI hq (by decide)
  have i3 : vp_in (nI c) 3 := vp_in_nI hc (by decide)
  subst e1
  subst e2
  rcases hf with rfl | rfl | rfl
  · refine tg_B_1 (r := rC q) (u := ((nI b), (nI L), ds, fk, lo, ex, ht, vt, vv, rc, rr, ls, eT, eV, rN, rC, rR, dO, dC, tS, tO, tC, re, qN, qT, qK, qA, (upd an c 1), (vp_updL cR c (rR q)), sk)) (v := ((nI b), fk, lo, ex, vh, vw, (rR q), li, ll, sz, eT, va, rN, rC, rR, yo, yg, le, pa, st, qN, qT, qK, qA, (upd on c 0), (vp_updL cR c (rR q)), wa)) (i_mk ⟨b, L, g, hb, hL, rfl, rfl, hli, hg, hx, hy⟩ hD hP (tg_Q_an hQ hc) hF) (fun post hp => ?_) (fun post hp => ?_)
    · refine br_f (by decide) (br_f (by decide) ⟨i3, nm_r (tg_u rfl (by omega) tg_vb1) ⟨i18, i3, nm_r (tg_uL rfl (by omega) (tg_rdL rfl (by omega))) ⟨i18, ?_⟩⟩⟩)
      rw [nI_clamp (n := q) (by omega)]
      exact hp
    · exact br_f (by decide) (br_t (by decide) ⟨i3, nm_r (tg_uL rfl (by omega) rfl) ⟨i3, nm_r (tg_u rfl (by omega) tg_vb0) hp⟩⟩)
  · have hg1 : ∀ p, p < 6 → tg_G L (g p) := fun p hp => (hg p hp).1
    exact sd_dr hb hL hm hli hg1 hx hy hD hP hQ hF (fun post hp => br_t rfl (tx_dr hm hL hb (tg_hg hg1) hx hp)) (fun post hp => br_t rfl (ty_dr hm hL hb hli (tg_hg hg1) hy (fun li2 ll2 sz2 wa2 h1 h2 => br_f (by decide) (hp li2 ll2 sz2 wa2 h1 h2))))
  · exact tg_B_1 (r := 5) (u := ((nI b), (nI L), ds, fk, lo, ex, ht, vt, vv, rc, rr, ls, eT, eV, rN, rC, rR, dO, dC, tS, tO, tC, re, qN, qT, qK, qA, an, cR, sk)) (v := ((nI b), fk, lo, ex, vh, vw, (rR q), li, ll, sz, eT, va, rN, rC, rR, yo, yg, le, pa, st, qN, qT, qK, qA, on, cR, wa)) (i_mk ⟨b, L, g, hb, hL, rfl, rfl, hli, hg, hx, hy⟩ hD hP hQ hF) (fun post hp => br_f (by decide) (br_t rfl hp)) (fun post hp => br_f (by decide) (br_f (by decide) hp))
theorem sd_2 {k b L m c f q key : Nat} {g : Nat → List Nat} {co : Int32} (hc : c < 3) (hq : q < 18) (hf : f = 0 ∨ f = 2 ∨ f = 3 ∨ f = 4) (hb : b ≤ 2) (hL : L < 32) (hm : m < 5) (hli : tg_LI L li) (hg : ∀ p, p < 6 → tg_G L (g p) ∧ (g p = [] ↔ L = 0)) (hx : tg_LX g ls) (hy : tg_LY g ll sz)
    (hD : tg_D eT eV va) (hP : tg_Pr ds dO dC tS tO tC yo yg le) (hQ : tg_Q k qN qK an on) (hF : tg_F fk) (e1 : rC q = co) (e2 : rR q = oc) :
    tg_B k (fun post => wX_send_105 post (nI c) (nI f) (nI key) (nI q) (nI m) 0 (nI b) (nI L) ds fk lo ex ht vt vv rc rr ls eT eV rN rC rR dO dC tS tO tC re qN qT qK qA an cR sk) (fun post => wY_send_211 post (nI c) (nI f) (nI key) (nI m) (nI q) co 0 (nI b) fk lo ex vh vw oc li ll sz eT va rN rC rR yo yg le pa st qN qT qK qA on cR wa) := by
  by_cases f2 : f = 2
  · subst f2
    have hg1 : ∀ p, p < 6 → tg_G L (g p) := fun p hp => (hg p hp).1
    exact sd_dr hb hL hm hli hg1 hx hy hD hP hQ hF (fun post hp => br_t rfl (tx_dr hm hL hb (tg_hg hg1) hx hp)) (fun post hp => br_t rfl (ty_dr hm hL hb hli (tg_hg hg1) hy (fun li2 ll2 sz2 wa2 h1 h2 => br_t rfl (hp li2 ll2 sz2 wa2 h1 h2))))
  · have n2 : ¬ nI f = 2 := tg_neI (b := 2) f2 (by omega) (by decide)
    exact tg_B_m (sd_1 hc hq (by omega) hb hL hm hli hg hx hy hD hP hQ hF e1 e2) (fun post h => br_f n2 (br_t rfl h)) (fun post h => br_f n2 (br_f n2 (br_t rfl h)))
theorem sd_3 {k b L m c f q key : Nat} {g : Nat → List Nat} (hc : c < 3) (hq : q < 18) (hkey : key < 18) (hf : f = 0 ∨ f = 2 ∨ f = 3 ∨ f = 4) (hb : b ≤ 2) (hL : L < 32) (hm : m < 5) (hli : tg_LI L li) (hg : ∀ p, p < 6 → tg_G L (g p) ∧ (g p = [] ↔ L = 0)) (hx : tg_LX g ls) (hy : tg_LY g ll sz)
    (hD : tg_D eT eV va) (hP : tg_Pr ds dO dC tS tO tC yo yg le) (hQ : tg_Q k qN qK an on) (hF : tg_F fk) (hvw : rc = 0 → tg_VW vt vv vw ∧ vh = vt) :
    tg_B k (fun post => wX_send_105 post (nI c) (nI f) (nI key) (nI q) (nI m) 1 (nI b) (nI L) ds fk lo ex ht vt vv rc rr ls eT eV rN rC rR dO dC tS tO tC re qN qT qK qA an cR sk) (fun post => wY_send_211 post (nI c) (nI f) (nI key) (nI m) (nI q) rc 1 (nI b) fk lo ex vh vw rr li ll sz eT va rN rC rR yo yg le pa st qN qT qK qA on cR wa) := by
  by_cases f2 : f = 2
  · subst f2
    have hg1 : ∀ p, p < 6 → tg_G L (g p) := fun p hp => (hg p hp).1
    exact sd_dr hb hL hm hli hg1 hx hy hD hP hQ hF (fun post hp => br_t rfl (tx_dr hm hL hb (tg_hg hg1) hx hp)) (fun post hp => br_t rfl (ty_dr hm hL hb hli (tg_hg hg1) hy (fun li2 ll2 sz2 wa2 h1 h2 => br_t rfl (hp li2 ll2 sz2 wa2 h1 h2))))
  · have n2 : ¬ nI f = 2 := tg_neI (b := 2) f2 (by omega) (by decide)
    have i18 : vp_in (nI q) 18 := vp_in_nI hq (by decide)
    have ik : vp_in (nI key) 18 := vp_in_nI hkey (by decide)
    have i3 : vp_in (nI c) 3 := vp_in_nI hc (by decide)
    by_cases r0 : rc = 0
    · obtain ⟨hv, rfl⟩ := hvw r0
      have v01 := tg_VW01 hv
      refine tg_B_m (sd_1 (rC := upd rC q rc) (rR := vp_updL rR q rr) (rN := upd rN q (qN c)) (eT := upd eT key vh) (eV := vp_updL eV key vv) (va := vp_updL va key vw) (ht := ht) (vt := vh) (vv := vv) (rc := rc) (rr := rr) (re := re) (sk := sk) (f := f) hc hq (by omega) hb hL hm hli hg hx hy (fun x hx => ?_) hP hQ hF pk_us pk_uLs) (fun post h => br_f n2 (br_f tg_d1 ⟨i3, ?_⟩)) (fun post h => br_f n2 (br_f n2 (br_f tg_d1 ⟨i3, i18, nm_r (tg_u rfl (by omega) (tg_rd rfl (by omega))) ⟨i18, nm_r (tg_u rfl (by omega) rfl) ⟨i18, nm_r (tg_uL rfl (by omega) rfl) (br_t r0 ⟨ik, nm_r (tg_u rfl (by omega) (tg_vbl v01)) ⟨ik, nm_r (tg_uL rfl (by omega) rfl) h⟩⟩)⟩⟩⟩)))
      · by_cases e : x = key
        · subst e
          rw [pk_us, pk_uLs, pk_uLs]
          exact hv
        · rw [pk_un e, pk_uLn e, pk_uLn e]
          exact hD x hx
      · exact br_t r0 ⟨ik, nm_r (tg_u rfl (by omega) (tg_vbl v01)) ⟨ik, nm_r (tg_uL rfl (by omega) rfl) ⟨i18, nm_r (tg_u rfl (by omega) (tg_rd rfl (by omega))) ⟨i18, nm_r (tg_u rfl (by omega) rfl) ⟨i18, nm_r (tg_uL rfl (by omega) rfl) h⟩⟩⟩⟩⟩
    · refine tg_B_m (sd_1 (rC := upd rC q rc) (rR := vp_updL rR q rr) (rN := upd rN q (qN c)) (ht := ht) (vt := vt) (vv := vv) (rc := rc) (rr := rr) (re := re) (sk := sk) (f := f) hc hq (by omega) hb hL hm hli hg hx hy hD hP hQ hF pk_us pk_uLs) (fun post h => br_f n2 (br_f tg_d1 ⟨i3, ?_⟩)) (fun post h => br_f n2 (br_f n2 (br_f tg_d1 ⟨i3, i18, nm_r (tg_u rfl (by omega) (tg_rd rfl (by omega))) ⟨i18, nm_r (tg_u rfl (by omega) rfl) ⟨i18, nm_r (tg_uL rfl (by omega) rfl) (br_f r0 h)⟩⟩⟩)))
      exact br_f r0 ⟨i18, nm_r (tg_u rfl (by omega) (tg_rd rfl (by omega))) ⟨i18, nm_r (tg_u rfl (by omega) rfl) ⟨i18, nm_r (tg_uL rfl (by omega) rfl) h⟩⟩⟩
theorem sd_send {k c : Nat} (hc : c < 3) (hC : tg_C bk lv ls li ll sz) (hD : tg_D eT eV va) (hP : tg_Pr ds dO dC tS tO tC yo yg le) (hQ : tg_Q k qN qK an on) (hF : tg_F fk) :
    tg_B k (fun post => wpX_send post (bk, lv, ds, fk, lo, ex, ht, vt, vv, rc, rr, ls, eT, eV, rN, rC, rR, dO, dC, tS, tO, tC, re, qN, qT, qK, qA, an, cR, sk) (nI c)) (fun post => wpY_send post (bk, fk, lo, ex, vh, vw, oc, li, ll, sz, eT, va, rN, rC, rR, yo, yg, le, pa, st, qN, qT, qK, qA, on, cR, wa) (nI c)) := by
  have hC0 := hC
  obtain ⟨b, L, g, hb, hL, rfl, rfl, hli, hg, hx, hy⟩ := hC
  obtain ⟨f, hf, rfl⟩ := hF
  obtain ⟨j, key, hj, ej, hkey, ekey, -⟩ := hQ c hc
  have hF0 : tg_F 0 := ⟨0, by decide, rfl⟩
  have i3 : vp_in (nI c) 3 := vp_in_nI hc (by decide)
  have cc : (nI c).toNatClampNeg = c := nI_clamp (by omega)
  have e6 : nI key - nI key / 6 * 6 = nI (key % 6) := pk_rem (d := 6) (by omega) (by decide) (by decide)
  have p6 : key % 6 < 6 := Nat.mod_lt _ (by decide)
  have ip : vp_in (nI (key % 6)) 6 := vp_in_nI p6 (by decide)
  have cp : (nI (key % 6)).toNatClampNeg = key % 6 := nI_clamp (by omega)
  have G := (hg _ p6).1
  have gl := G.1
  have ek : qK (nI c).toNatClampNeg = nI key := by rw [cc]; exact ekey
  by_cases hL0 : L = 0
  · subst hL0
    have g0 : g (key % 6) = [] := (hg _ p6).2.mpr rfl
    refine tg_B_1 (r := 4) (u := ((nI b), (nI 0), ds, 0, lo, ex, ht, vt, vv, rc, rr, ls, eT, eV, rN, rC, rR, dO, dC, tS, tO, tC, re, qN, qT, qK, qA, an, cR, sk)) (v := ((nI b), 0, lo, ex, vh, vw, oc, li, ll, sz, eT, va, rN, rC, rR, yo, yg, le, pa, st, qN, qT, qK, qA, on, cR, wa)) (i_mk hC0 hD hP hQ hF0) (fun post hp => br_t rfl hp) (fun post hp => ⟨i3, nm_r ek ⟨tg_d6, nm_r e6 ⟨ip, br_t ?_ hp⟩⟩⟩)
    rw [cp, (hy _ p6).1, g0]; rfl
  · have gn : ¬ g (key % 6) = [] := fun e => hL0 ((hg _ p6).2.mp e)
    have l0 := tg_len0 gn
    have hlv : ¬ nI L = 0 := nI_ne0 (by omega) (by omega)
    have hsz : ¬ sz (nI (key % 6)).toNatClampNeg = 0 := by rw [cp, (hy _ p6).1]; exact nI_ne0 l0 (by omega)
    by_cases hf1 : f = 1
    · subst hf1
      exact tg_B_1 (r := 5) (u := ((nI b), (nI L), ds, 0, lo, ex, ht, vt, vv, rc, rr, ls, eT, eV, rN, rC, rR, dO, dC, tS, tO, tC, re, qN, qT, qK, qA, an, cR, sk)) (v := ((nI b), 0, lo, ex, vh, vw, oc, li, ll, sz, eT, va, rN, rC, rR, yo, yg, le, pa, st, qN, qT, qK, qA, on, cR, wa)) (i_mk hC0 hD hP hQ hF0) (fun post hp => br_f hlv (br_t rfl hp)) (fun post hp => ⟨i3, nm_r ek ⟨tg_d6, nm_r e6 ⟨ip, br_f hsz (br_t rfl hp)⟩⟩⟩)
    · have n1 : ¬ nI f = 1 := tg_neI (b := 1) hf1 (by omega) (by decide)
      have q18 : 3 * (key % 6) + c < 18 := by omega
      have iq : vp_in (nI (3 * (key % 6) + c)) 18 := vp_in_nI q18 (by decide)
      have cq : (nI (3 * (key % 6) + c)).toNatClampNeg = 3 * (key % 6) + c := nI_clamp (by omega)
      have c5 : (5 * nI (key % 6)).toNatClampNeg = 5 * (key % 6) := by rw [tg_5p, nI_clamp (by omega)]
      have o5 : ll (5 * nI (key % 6)).toNatClampNeg = nI ((g (key % 6)).getD 0 0) := by rw [c5]; exact (hy _ p6).2 0 l0
      have m5 := G.lt _ (tg_getD l0)
      have XO : ∀ post : Int32 → SX → Prop, ((rN (3 * (key % 6) + c) = qN c → wX_send_81 post (nI c) (nI f) (nI key) (nI (3 * (key % 6) + c)) (nI ((g (key % 6)).getD 0 0)) 0 (nI b) (nI L) ds 0 lo ex ht vt vv rc rr ls eT eV rN rC rR dO dC tS tO tC re qN qT qK qA an cR sk) ∧ (¬ rN (3 * (key % 6) + c) = qN c → wX_send_81 post (nI c) (nI f) (nI key) (nI (3 * (key % 6) + c)) (nI ((g (key % 6)).getD 0 0)) 1 (nI b) (nI L) ds 0 lo ex ht vt vv rc rr ls eT eV rN rC rR dO dC tS tO tC re qN qT qK qA an cR sk)) → wpX_send post ((nI b), (nI L), ds, (nI f), lo, ex, ht, vt, vv, rc, rr, ls, eT, eV, rN, rC, rR, dO, dC, tS, tO, tC, re, qN, qT, qK, qA, an, cR, sk) (nI c) := by
        intro post h
        refine br_f hlv (br_f n1 ⟨i3, nm_r ek ⟨tg_d6, nm_r e6 (nm_r (tg_i3 _ _) ⟨ip, ?_⟩)⟩⟩)
        rw [cp, hx _ p6]
        refine tx_mem1 (j := 0) G.1 G.lt l0 ⟨iq, i3, ?_⟩
        rw [cq, cc]
        exact h
      have YO : ∀ post : Int32 → SY → Prop, ((rN (3 * (key % 6) + c) = qN c → wY_send_102 post (nI c) (nI f) (nI key) (nI ((g (key % 6)).getD 0 0)) (nI (3 * (key % 6) + c)) (rC (3 * (key % 6) + c)) 0 (nI b) 0 lo ex vh vw (rR (3 * (key % 6) + c)) li ll sz eT va rN rC rR yo yg le pa st qN qT qK qA on cR wa) ∧ (¬ rN (3 * (key % 6) + c) = qN c → wY_send_102 post (nI c) (nI f) (nI key) (nI ((g (key % 6)).getD 0 0)) (nI (3 * (key % 6) + c)) (rC (3 * (key % 6) + c)) 1 (nI b) 0 lo ex vh vw (rR (3 * (key % 6) + c)) li ll sz eT va rN rC rR yo yg le pa st qN qT qK qA on cR wa)) → wpY_send post ((nI b), (nI f), lo, ex, vh, vw, oc, li, ll, sz, eT, va, rN, rC, rR, yo, yg, le, pa, st, qN, qT, qK, qA, on, cR, wa) (nI c) := by
        intro post h
        refine ⟨i3, nm_r ek ⟨tg_d6, nm_r e6 ⟨ip, br_f hsz (br_f n1 ⟨tg_vi (tg_5p _) (by omega) (by decide), nm_r o5 (nm_r (tg_3i _ _) ⟨iq, nm_r (tg_rd rfl (by omega)) ⟨iq, nm_r (tg_rdL rfl (by omega)) ⟨iq, i3, ?_⟩⟩⟩)⟩)⟩⟩⟩
        rw [cq, cc]
        exact h
      by_cases hn : rN (3 * (key % 6) + c) = qN c
      · exact tg_B_m (sd_2 (f := f) (key := key) (fk := 0) (q := 3 * (key % 6) + c) (m := (g (key % 6)).getD 0 0) hc q18 (by omega) hb hL m5 hli hg hx hy hD hP hQ hF0 rfl rfl) (fun post h => XO post (br_t hn (br_t rfl h))) (fun post h => YO post (br_t hn (br_t rfl h)))
      · obtain ⟨co, res, vt9, ht9, vv9, vw9, sk9, st9, vh9, a1, a2, a3⟩ := ex_all (c := c) (key := key) (bk := nI b) (lv := nI L) (ds := ds) (fk := 0) (lo := lo) (ex := ex) (ht := ht) (vt := vt) (vv := vv) (rc := rc) (rr := rr) (ls := ls) (eT := eT) (eV := eV) (rN := rN) (rC := rC) (rR := rR) (dO := dO) (dC := dC) (tS := tS) (tO := tO) (tC := tC) (re := re) (qN := qN) (qT := qT) (qK := qK) (qA := qA) (an := an) (cR := cR) (sk := sk) (vh := vh) (vw := vw) (oc := rR (3 * (key % 6) + c)) (li := li) (ll := ll) (sz := sz) (va := va) (yo := yo) (yg := yg) (le := le) (pa := pa) (st := st) (on := on) (wa := wa) hP hD hc hkey
        refine tg_B_m (sd_3 (f := f) (key := key) (fk := 0) (q := 3 * (key % 6) + c) (m := (g (key % 6)).getD 0 0) (ht := ht9) (vt := vt9) (vv := vv9) (rc := co) (rr := res) (re := re) (sk := sk9) (ex := ex + 1) (vh := vh9) (vw := vw9) (st := st9) hc q18 hkey (by omega) hb hL m5 hli hg hx hy hD hP hQ hF0 a1) (fun post h => XO post (br_f hn (br_f tg_d1 ⟨i3, i3, ?_⟩))) (fun post h => YO post (br_f hn (a3 post _ _ _ _ h)))
        rw [cc]
        exact a2 _ h
end ST
theorem i_vc_retry {k : Nat} {u : SX} {v : SY} (I : i_Rel k u v) (hk : k + 5 ≤ 2561) (v1 : Int32) : wpX_retry (fun r u' => wpY_retry (fun r' v' => r' = r ∧ i_Rel (k + 5) u' v') v v1) u v1 := by
  have J := i_up I
  obtain ⟨bk, lv, ds, fk, lo, ex, ht, vt, vv, rc, rr, ls, eT, eV, rN, rC, rR, dO, dC, tS, tO, tC, re, qN, qT, qK, qA, an, cR, sk, vh, vw, oc, li, ll, sz, va, yo, yg, le, pa, st, on, wa, rfl, rfl, hC, hD, hP, hQ, hF⟩ := I
  unfold wpX_retry
  rcases pk_ix v1 (n := 3) (by decide) with h | h | ⟨c, hc, rfl⟩
  · exact tx_isC0 (Or.inl h) (br_t rfl (br_t h ⟨rfl, J⟩))
  · have B := tg_big h (by decide)
    exact tx_isC0 (Or.inr h) (br_t rfl (br_f B.1 (br_t (B.2 2 (by decide)).2 ⟨rfl, J⟩)))
  · have i3 : vp_in (nI c) 3 := vp_in_nI hc (by decide)
    have cc : (nI c).toNatClampNeg = c := nI_clamp (by omega)
    have y1 : ¬ nI c < 0 := nI_pos (by omega)
    have y2 : ¬ (2 : Int32) < nI c := nI_nlt (a := 2) (b := c) (by omega) (by decide)
    obtain ⟨j, q, hj, ej, hq, eq, ho⟩ := hQ c hc
    refine tx_isC1 hc (br_f tg_d1 ⟨i3, ?_⟩)
    rw [cc, ej]
    rcases ho with ⟨o1, j0, a0⟩ | ⟨o0, ja⟩
    · obtain ⟨QX, QY, b1, b2, b3⟩ := sd_send (bk := bk) (lv := lv) (ds := ds) (fk := fk) (lo := lo) (ex := ex) (ht := ht) (vt := vt) (vv := vv) (rc := rc) (rr := rr) (ls := ls) (eT := eT) (eV := eV) (rN := rN) (rC := rC) (rR := rR) (dO := dO) (dC := dC) (tS := tS) (tO := tO) (tC := tC) (re := re) (qN := qN) (qT := qT) (qK := qK) (qA := qA) (an := an) (cR := cR) (sk := sk) (vh := vh) (vw := vw) (oc := oc) (li := li) (ll := ll) (sz := sz) (va := va) (yo := yo) (yg := yg) (le := le) (pa := pa) (st := st) (on := on) (wa := wa) hc hC hD hP (tg_Q_up (d := 5) hQ) hF
      refine br_f (nI_ne0 (by omega) (by omega)) ⟨i3, br_t a0 (b1 _ (fun r u hr => ?_))⟩
      exact br_f y1 (br_f y2 ⟨i3, br_f (by rw [cc, o1]; exact tg_d1) (b2 _ (fun r' v hv => b3 _ _ _ _ hr hv))⟩)
    · have Y : ∀ r : Int32, r = -1 → wpY_retry (fun r' v' => r' = r ∧ i_Rel (k + 5) (bk, lv, ds, fk, lo, ex, ht, vt, vv, rc, rr, ls, eT, eV, rN, rC, rR, dO, dC, tS, tO, tC, re, qN, qT, qK, qA, an, cR, sk) v') (bk, fk, lo, ex, vh, vw, oc, li, ll, sz, eT, va, rN, rC, rR, yo, yg, le, pa, st, qN, qT, qK, qA, on, cR, wa) (nI c) := fun r hr => br_f y1 (br_f y2 ⟨i3, br_t (by rw [cc]; exact o0) ⟨hr.symm, J⟩⟩)
      by_cases j0 : j = 0
      · subst j0
        exact br_t rfl (Y _ rfl)
      · refine br_f (nI_ne0 (by omega) (by omega)) ⟨i3, br_f ?_ (Y _ rfl)⟩
        rw [ja.resolve_left j0]; exact tg_d1
theorem i_vc_submit {k : Nat} {u : SX} {v : SY} (I : i_Rel k u v) (hk : k + 5 ≤ 2561) (v1 : Int32) (v2 : Int32) (v3 : Int32) (v4 : Int32) : wpX_submit (fun r u' => wpY_submit (fun r' v' => r' = r ∧ i_Rel (k + 5) u' v') v v1 v2 v3 v4) u v1 v2 v3 v4 := by
  have J := i_up I
  obtain ⟨bk, lv, ds, fk, lo, ex, ht, vt, vv, rc, rr, ls, eT, eV, rN, rC, rR, dO, dC, tS, tO, tC, re, qN, qT, qK, qA, an, cR, sk, vh, vw, oc, li, ll, sz, va, yo, yg, le, pa, st, on, wa, rfl, rfl, hC, hD, hP, hQ, hF⟩ := I
  unfold wpX_submit
  rcases pk_ix v1 (n := 3) (by decide) with h | h | ⟨c, hc, rfl⟩
  · exact tx_isC0 (Or.inl h) (br_t rfl (br_t h ⟨rfl, J⟩))
  · have B := tg_big h (by decide)
    exact tx_isC0 (Or.inr h) (br_t rfl (br_f B.1 (br_t (B.2 2 (by decide)).2 ⟨rfl, J⟩)))
  · have i3 : vp_in (nI c) 3 := vp_in_nI hc (by decide)
    have cc : (nI c).toNatClampNeg = c := nI_clamp (by omega)
    have y1 : ¬ nI c < 0 := nI_pos (by omega)
    have y2 : ¬ (2 : Int32) < nI c := nI_nlt (a := 2) (b := c) (by omega) (by decide)
    refine tx_isC1 hc (br_f tg_d1 ?_)
    rcases pk_ix v3 (n := 18) (by decide) with h | h | ⟨key, hkey, rfl⟩
    · exact tx_isK0 (Or.inl h) (br_t rfl (br_f y1 (br_f y2 (br_t h ⟨rfl, J⟩))))
    · have B := tg_big h (by decide)
      exact tx_isK0 (Or.inr h) (br_t rfl (br_f y1 (br_f y2 (br_f B.1 (br_f (B.2 17 (by decide)).1 ⟨rfl, J⟩)))))
    · have hQ2 : tg_Q (k + 5) (upd qN c (qN c + 1)) (upd qK c (nI key)) (upd an c 0) (upd on c 1) := by
        intro d hd
        obtain ⟨j, q, h1, h2, h3, h4, h5⟩ := hQ d hd
        by_cases e : d = c
        · subst e
          exact ⟨j + 1, key, by omega, by rw [pk_us, h2, nI_1], hkey, pk_us, Or.inl ⟨pk_us, by omega, pk_us⟩⟩
        · exact ⟨j, q, by omega, by rw [pk_un e]; exact h2, h3, by rw [pk_un e]; exact h4, by rw [pk_un e, pk_un e]; exact h5⟩
      obtain ⟨QX, QY, b1, b2, b3⟩ := sd_send (bk := bk) (lv := lv) (ds := ds) (fk := fk) (lo := lo) (ex := ex) (ht := ht) (vt := vt) (vv := vv) (rc := rc) (rr := rr) (ls := ls) (eT := eT) (eV := eV) (rN := rN) (rC := rC) (rR := rR) (dO := dO) (dC := dC) (tS := tS) (tO := tO) (tC := tC) (re := re) (qN := upd qN c (qN c + 1)) (qT := upd qT c v2) (qK := upd qK c (nI key)) (qA := upd qA c v4) (an := upd an c 0) (cR := cR) (sk := sk) (vh := vh) (vw := vw) (oc := oc) (li := li) (ll := ll) (sz := sz) (va := va) (yo := yo) (yg := yg) (le := le) (pa := pa) (st := st) (on := upd on c 1) (wa := wa) hc hC hD hP hQ2 hF
      have e1 : upd qN (nI c).toNatClampNeg (qN (nI c).toNatClampNeg + 1) = upd qN c (qN c + 1) := by rw [cc]
      refine tx_isK1 hkey (br_f tg_d1 ⟨i3, i3, nm_r e1 ⟨i3, nm_r (tg_u rfl (by omega) rfl) ⟨i3, nm_r (tg_u rfl (by omega) rfl) ⟨i3, nm_r (tg_u rfl (by omega) rfl) ⟨i3, nm_r (tg_u rfl (by omega) tg_vb0) (b1 _ (fun r u hr => ?_))⟩⟩⟩⟩⟩)
      exact br_f y1 (br_f y2 (br_f (nI_pos (by omega)) (br_t (nI_le (b := 17) (by omega) (by decide)) ⟨i3, i3, nm_r e1 ⟨i3, nm_r (tg_u rfl (by omega) rfl) ⟨i3, nm_r (tg_u rfl (by omega) rfl) ⟨i3, nm_r (tg_u rfl (by omega) rfl) ⟨i3, nm_r (tg_u rfl (by omega) tg_vb1) (b2 _ (fun r' v hv => b3 _ _ _ _ hr hv))⟩⟩⟩⟩⟩)))
end
section
/-! 17: the check of a draft, X (begun by gendep.py) -/
theorem tg_tk_le (o : Nat) : tg_tk o ≤ 2 := by unfold tg_tk; split <;> (try split) <;> omega
theorem tg_gv_le (o : Nat) : tg_gv o ≤ 2 := by unfold tg_gv; split <;> (try split) <;> omega
theorem tg_tk_b {o : Nat} (h : 4 ≤ o ∧ o ≤ 14) : tg_tk o = 2 := if_pos (Or.inl h)
theorem tg_gv_b {o : Nat} (h : 4 ≤ o ∧ o ≤ 14) : tg_gv o = 1 := by unfold tg_gv; rw [if_neg (by omega), if_pos (by omega)]
theorem tg_nb {o : Nat} (ho : o < 24) (h : ¬ (4 ≤ o ∧ o ≤ 14)) : o = 0 ∨ o = 1 ∨ o = 2 ∨ o = 3 ∨ o = 15 ∨ o = 16 ∨ o = 17 ∨ o = 18 ∨ o = 19 ∨ o = 20 ∨ o = 21 ∨ o = 22 ∨ o = 23 := by omega
theorem tx_tk {post : Int32 → Prop} {o : Nat} (ho : o < 24) (h : post (nI (tg_tk o))) : wpX_takenBy post (nI o) := by
  unfold wpX_takenBy
  by_cases b : 4 ≤ o ∧ o ≤ 14
  · rw [tg_tk_b b] at h
    exact xb1 b.1 b.2 (br_f tg_d1 h)
  · rcases tg_nb ho b with rfl | rfl | rfl | rfl | rfl | rfl | rfl | rfl | rfl | rfl | rfl | rfl | rfl
    · exact xb0 (by decide) (br_t rfl (br_f (by decide) (br_f (by decide) (br_f (by decide) (br_f (by decide) (br_f (by decide) (br_f (by decide) (br_t rfl h))))))))
    · exact xb0 (by decide) (br_t rfl (br_f (by decide) (br_f (by decide) (br_f (by decide) (br_f (by decide) (br_f (by decide) (br_f (by decide) (br_t rfl h))))))))
    · exact xb0 (by decide) (br_t rfl (br_f (by decide) (br_f (by decide) (br_f (by decide) (br_f (by decide) (br_f (by decide) (br_f (by decide) (br_t rfl h))))))))
    · exact xb0 (by decide) (br_t rfl (br_f (by decide) (br_f (by decide) (br_f (by decide) (br_f (by decide) (br_f (by decide) (br_f (by decide) (br_t rfl h))))))))
    · exact xb0 (by decide) (br_t rfl (br_f (by decide) (br_t (by decide) (br_f (by decide) h))))
    · exact xb0 (by decide) (br_t rfl (br_t (by decide) (h)))
    · exact xb0 (by decide) (br_t rfl (br_f (by decide) (br_f (by decide) (br_t (by decide) (br_f (by decide) h)))))
    · exact xb0 (by decide) (br_t rfl (br_f (by decide) (br_f (by decide) (br_f (by decide) (br_t (by decide) (br_f (by decide) h))))))
    · exact xb0 (by decide) (br_t rfl (br_f (by decide) (br_f (by decide) (br_f (by decide) (br_f (by decide) (br_f (by decide) (br_f (by decide) (br_t rfl h))))))))
    · exact xb0 (by decide) (br_t rfl (br_f (by decide) (br_f (by decide) (br_f (by decide) (br_f (by decide) (br_f (by decide) (br_f (by decide) (br_t rfl h))))))))
    · exact xb0 (by decide) (br_t rfl (br_f (by decide) (br_f (by decide) (br_f (by decide) (br_f (by decide) (br_t (by decide) (br_f (by decide) h)))))))
    · exact xb0 (by decide) (br_t rfl (br_f (by decide) (br_f (by decide) (br_f (by decide) (br_f (by decide) (br_f (by decide) (br_f (by decide) (br_t rfl h))))))))
    · exact xb0 (by decide) (br_t rfl (br_f (by decide) (br_f (by decide) (br_f (by decide) (br_f (by decide) (br_f (by decide) (br_t (by decide) (br_f (by decide) h))))))))
theorem tx_gv {post : Int32 → Prop} {o : Nat} (ho : o < 24) (h : post (nI (tg_gv o))) : wpX_givenBy post (nI o) := by
  by_cases b : 4 ≤ o ∧ o ≤ 14
  · rw [tg_gv_b b] at h
    exact br_f (tg_neI (b := 15) (by omega) (by omega) (by decide)) (br_f (tg_neI (b := 16) (by omega) (by omega) (by decide)) (br_f (nI_ge (a := 3) (b := o) (by omega) (by omega)) (xb1 b.1 b.2 (br_f tg_d1 (br_f tg_d1 h)))))
  · rcases tg_nb ho b with rfl | rfl | rfl | rfl | rfl | rfl | rfl | rfl | rfl | rfl | rfl | rfl | rfl
    · exact br_f (by decide) (br_f (by decide) (br_t (by decide) (br_f tg_d1 h)))
    · exact br_f (by decide) (br_f (by decide) (br_t (by decide) (br_f tg_d1 h)))
    · exact br_f (by decide) (br_f (by decide) (br_t (by decide) (br_f tg_d1 h)))
    · exact br_f (by decide) (br_f (by decide) (br_t (by decide) (br_f tg_d1 h)))
    · exact br_t (by decide) (h)
    · exact br_f (by decide) (br_t (by decide) (h))
    · exact br_f (by decide) (br_f (by decide) (br_f (by decide) (xb0 (by decide) (br_t rfl (br_t rfl h)))))
    · exact br_f (by decide) (br_f (by decide) (br_f (by decide) (xb0 (by decide) (br_t rfl (br_t rfl h)))))
    · exact br_f (by decide) (br_f (by decide) (br_f (by decide) (xb0 (by decide) (br_t rfl (br_t rfl h)))))
    · exact br_f (by decide) (br_f (by decide) (br_f (by decide) (xb0 (by decide) (br_t rfl (br_t rfl h)))))
    · exact br_f (by decide) (br_f (by decide) (br_f (by decide) (xb0 (by decide) (br_t rfl (br_t rfl h)))))
    · exact br_f (by decide) (br_f (by decide) (br_f (by decide) (xb0 (by decide) (br_t rfl (br_t rfl h)))))
    · exact br_f (by decide) (br_f (by decide) (br_f (by decide) (xb0 (by decide) (br_t rfl (br_t rfl h)))))
def tg_ha (o d : Nat) : Int32 := if tg_fit o d = true then nI (tg_e o d) else -1
theorem tg_fit_iff {o d : Nat} : tg_fit o d = true ↔ tg_tk o ≤ d ∧ tg_e o d ≤ 4 := by
  unfold tg_fit
  rw [Bool.and_eq_true, decide_eq_true_eq, decide_eq_true_eq]
theorem tx_ha {post : Int32 → Prop} {o d : Nat} (ho : o < 24) (hd : d < 5) (h : post (tg_ha o d)) : wpX_heightAfter post (nI o) (nI d) := by
  have a := tg_tk_le o
  have b := tg_gv_le o
  unfold wpX_heightAfter
  refine tx_tk ho (tx_gv ho (nm_e ?_))
  unfold tg_ha at h
  by_cases c : tg_tk o ≤ d
  · have e : (nI d - nI (tg_tk o)) + nI (tg_gv o) = nI (tg_e o d) := by rw [pk_sub c, nI_add]; rfl
    refine br_f (nI_nlt c (by omega)) ?_
    rw [e]
    have e9 : tg_e o d < 9 := by unfold tg_e; omega
    by_cases f : tg_e o d ≤ 4
    · rw [if_pos (tg_fit_iff.mpr ⟨c, f⟩)] at h
      exact br_t (nI_le (b := 4) f (by decide)) h
    · rw [if_neg (fun z => f (tg_fit_iff.mp z).2)] at h
      exact br_f (nI_ge (a := 4) (by omega) (by omega)) h
  · rw [if_neg (fun z => c (tg_fit_iff.mp z).1)] at h
    exact br_t (nI_lt (by omega) (by omega)) h
/-- the pairs of an array -/
def tg_A (re : Nat → Int32) (P : Nat → Prop) : Prop := ∀ q, q < 80 → (P q ∧ re q = 1) ∨ (¬ P q ∧ re q = 0)
theorem tg_A_c {re : Nat → Int32} {P Q : Nat → Prop} (h : tg_A re P) (e : ∀ q, q < 80 → (P q ↔ Q q)) : tg_A re Q := by
  intro q hq
  rcases h q hq with ⟨a, b⟩ | ⟨a, b⟩
  · exact Or.inl ⟨(e q hq).mp a, b⟩
  · exact Or.inr ⟨fun z => a ((e q hq).mpr z), b⟩
theorem tg_A_u {re : Nat → Int32} {P : Nat → Prop} {k : Nat} (h : tg_A re P) : tg_A (upd re k 1) (fun q => P q ∨ q = k) := by
  intro q hq
  by_cases e : q = k
  · exact Or.inl ⟨Or.inr e, by rw [e, pk_us]⟩
  · rw [pk_un e]
    rcases h q hq with ⟨a, b⟩ | ⟨a, b⟩
    · exact Or.inl ⟨Or.inl a, b⟩
    · exact Or.inr ⟨fun z => z.elim a e, b⟩
theorem tg_A_0 {re : Nat → Int32} {P : Nat → Prop} {q : Nat} (h : tg_A re P) (hq : q < 80) : re q = 0 ↔ ¬ P q := by
  rcases h q hq with ⟨a, b⟩ | ⟨a, b⟩
  · rw [b]; exact ⟨fun z => absurd z tg_d1, fun z => absurd a z⟩
  · exact ⟨fun _ => a, fun _ => b⟩
theorem tg_s_iff {w : Nat → Nat} {c : Nat → Int64} {n k q : Nat} {R : Nat → Bool} : tg_s w c n R k q = true ↔ R q = true ∨ (R k = true ∧ tg_fit (w (k / 5)) (k % 5) = true ∧ q / 5 < n ∧ tg_nx w c (k / 5) (q / 5) = true ∧ q % 5 = tg_e (w (k / 5)) (k % 5)) := by
  unfold tg_s
  simp only [Bool.or_eq_true, Bool.and_eq_true, decide_eq_true_eq, and_assoc]
theorem tg_nx_iff {w : Nat → Nat} {c : Nat → Int64} {i j : Nat} : tg_nx w c i j = true ↔ (w i ≠ 20 ∧ w i < 22 ∧ j = i + 1) ∨ ((w i = 20 ∨ w i = 21) ∧ c i = lN j) := by
  unfold tg_nx
  simp only [Bool.or_eq_true, Bool.and_eq_true, decide_eq_true_eq, and_assoc]
section XK
variable {bk : Int32} {lv : Int32} {ds : Int32} {fk : Int32} {lo : Int32} {ex : Int32} {ht : Int32} {vt : Int32} {vv : Int64} {rc : Int32} {rr : Int64} {ls : Nat → Int32} {eT : Nat → Int32} {eV : Nat → Int64} {rN : Nat → Int32} {rC : Nat → Int32} {rR : Nat → Int64} {dO : Nat → Int32} {dC : Nat → Int64} {tS : Nat → Int32} {tO : Nat → Int32} {tC : Nat → Int64} {re : Nat → Int32} {qN : Nat → Int32} {qT : Nat → Int32} {qK : Nat → Int32} {qA : Nat → Int32} {an : Nat → Int32} {cR : Nat → Int64} {sk : Nat → Int64} {vh : Int32} {vw : Int64} {oc : Int64} {li : Nat → Int32} {ll : Nat → Int32} {sz : Nat → Int32} {va : Nat → Int64} {yo : Nat → Int32} {yg : Nat → Int64} {le : Nat → Int32} {pa : Nat → Int32} {st : Nat → Int64} {on : Nat → Int32} {wa : Nat → Int32} {n : Nat} {w : Nat → Nat}
theorem tg_ind_iff {x : Int64} (hn : n ≤ 16) : tg_ind n x = true ↔ ∃ j, j < n ∧ x = lN j := by
  constructor
  · exact tg_ind_e (by omega)
  · rintro ⟨j, hj, rfl⟩
    unfold tg_ind
    rw [Bool.and_eq_true, decide_eq_true_eq, decide_eq_true_eq]
    exact ⟨(pk_lLE (a := 0) (by decide) (by omega)).mpr (by omega), (pk_lLT (by omega) (by omega)).mpr hj⟩
theorem tx_id1 {post : Int32 → Prop} {j : Nat} (hn : n ≤ 16) (hj : j < n) (h : post 1) : wpX_isInDraft post (bk, lv, (nI n), fk, lo, ex, ht, vt, vv, rc, rr, ls, eT, eV, rN, rC, rR, dO, dC, tS, tO, tC, re, qN, qT, qK, qA, an, cR, sk) (lN j) := by
  refine br_f (fun z => ?_) (br_f (fun z => ?_) h)
  · have := (pk_lLT (a := j) (b := 0) (by omega) (by decide)).mp z; omega
  · rw [nI_l (by omega)] at z
    have := (pk_lLE (by omega) (by omega)).mp z; omega
theorem tx_id0 {post : Int32 → Prop} {x : Int64} (hn : n ≤ 16) (hx : tg_ind n x = false) (h : post 0) : wpX_isInDraft post (bk, lv, (nI n), fk, lo, ex, ht, vt, vv, rc, rr, ls, eT, eV, rN, rC, rR, dO, dC, tS, tO, tC, re, qN, qT, qK, qA, an, cR, sk) x := by
  by_cases z : x < 0
  · exact br_t z h
  · refine br_f z (br_t ?_ h)
    rw [nI_l (by omega)]
    unfold tg_ind at hx
    rw [decide_eq_true (Int64.not_lt.mp z), Bool.true_and, decide_eq_false_iff_not] at hx
    exact Int64.not_lt.mp hx
theorem tg_j5 (j e : Nat) : nI j * 5 + nI e = nI (5 * j + e) := by
  have h : nI j * 5 = nI (j * 5) := pk_mul j 5
  rw [h, nI_add, Nat.mul_comm]
theorem tx_reach {post : SX → Prop} {x : Int64} {e : Nat} {P : Nat → Prop} (hn : n ≤ 16) (he : e ≤ 4) (hA : tg_A re P)
    (h : ∀ re, tg_A re (fun q => P q ∨ (q / 5 < n ∧ x = lN (q / 5) ∧ q % 5 = e)) → post (bk, lv, (nI n), fk, lo, ex, ht, vt, vv, rc, rr, ls, eT, eV, rN, rC, rR, dO, dC, tS, tO, tC, re, qN, qT, qK, qA, an, cR, sk)) : wpX_reach post (bk, lv, (nI n), fk, lo, ex, ht, vt, vv, rc, rr, ls, eT, eV, rN, rC, rR, dO, dC, tS, tO, tC, re, qN, qT, qK, qA, an, cR, sk) x (nI e) := by
  unfold wpX_reach
  by_cases c : tg_ind n x = true
  · obtain ⟨j, hj, rfl⟩ := (tg_ind_iff hn).mp c
    have ee : (lN j).toInt32 * 5 + nI e = nI (5 * j + e) := by rw [lN_i, tg_j5]
    refine tx_id1 hn hj (br_f tg_d1 (br_f (nI_pos (by omega)) (br_f (nI_nlt (a := 4) (b := e) (by omega) (by decide)) ⟨tg_vi ee (by omega) (by decide), nm_r (tg_u ee (by omega) tg_vb1) (h _ (tg_A_c (tg_A_u hA) (fun q hq => ?_)))⟩)))
    constructor
    · rintro (z | z)
      · exact Or.inl z
      · refine Or.inr ⟨by omega, ?_, by omega⟩
        rw [show q / 5 = j from by omega]
    · rintro (z | ⟨z1, z2, z3⟩)
      · exact Or.inl z
      · have := (pk_lEQ (by omega) (by omega)).mp z2
        exact Or.inr (by omega)
  · refine tx_id0 hn (tg_nf c) (br_t rfl (h _ (tg_A_c hA (fun q hq => ⟨Or.inl, ?_⟩))))
    rintro (z | ⟨z1, z2, z3⟩)
    · exact z
    · exact absurd ((tg_ind_iff hn).mpr ⟨q / 5, z1, z2⟩) c
/-- the draft, as both sides read it -/
def tg_Dr (n : Nat) (w : Nat → Nat) (dO : Nat → Int32) : Prop := ∀ i, i < n → w i < 24 ∧ dO i = nI (w i)
theorem tx_rn {post : SX → Prop} {R : Nat → Bool} {k : Nat} (hn : n ≤ 16) (hw : tg_Dr n w dO) (hk : k < 5 * n) (hR : R k = true) (hA : tg_A re (fun q => R q = true))
    (h : ∀ re, tg_A re (fun q => tg_s w dC n R k q = true) → post (bk, lv, (nI n), fk, lo, ex, ht, vt, vv, rc, rr, ls, eT, eV, rN, rC, rR, dO, dC, tS, tO, tC, re, qN, qT, qK, qA, an, cR, sk)) : wpX_reachNext post (bk, lv, (nI n), fk, lo, ex, ht, vt, vv, rc, rr, ls, eT, eV, rN, rC, rR, dO, dC, tS, tO, tC, re, qN, qT, qK, qA, an, cR, sk) (nI (k / 5)) (nI (k % 5)) := by
  obtain ⟨w24, hdO⟩ := hw (k / 5) (by omega)
  have i16 : vp_in (nI (k / 5)) 16 := vp_in_nI (by omega) (by decide)
  have cl : (nI (k / 5)).toNatClampNeg = k / 5 := nI_clamp (by omega)
  have d5 : k % 5 < 5 := Nat.mod_lt _ (by decide)
  have same : (∀ q, q < 80 → ¬ (tg_fit (w (k / 5)) (k % 5) = true ∧ q / 5 < n ∧ tg_nx w dC (k / 5) (q / 5) = true ∧ q % 5 = tg_e (w (k / 5)) (k % 5))) → post (bk, lv, (nI n), fk, lo, ex, ht, vt, vv, rc, rr, ls, eT, eV, rN, rC, rR, dO, dC, tS, tO, tC, re, qN, qT, qK, qA, an, cR, sk) := by
    intro z
    refine h _ (tg_A_c hA (fun q hq => ?_))
    rw [tg_s_iff]
    exact ⟨Or.inl, fun y => y.elim id (fun y => absurd y.2 (z q hq))⟩
  refine ⟨i16, nm_r (by rw [cl]; exact hdO) (tx_ha w24 d5 ?_)⟩
  by_cases c22 : w (k / 5) = 22
  · refine br_t (by rw [c22]; rfl) (same (fun q _ z => ?_))
    have := tg_nx_iff.mp z.2.2.1
    omega
  refine br_f (tg_neI (b := 22) c22 (by omega) (by decide)) ?_
  by_cases c23 : w (k / 5) = 23
  · refine br_t (by rw [c23]; rfl) (same (fun q _ z => ?_))
    have := tg_nx_iff.mp z.2.2.1
    omega
  refine br_f (tg_neI (b := 23) c23 (by omega) (by decide)) ?_
  by_cases cf : tg_fit (w (k / 5)) (k % 5) = true
  · have e4 := (tg_fit_iff.mp cf).2
    have ha : tg_ha (w (k / 5)) (k % 5) = nI (tg_e (w (k / 5)) (k % 5)) := if_pos cf
    rw [ha]
    refine br_f (fun z => ?_) ?_
    · have := nI_pos (n := tg_e (w (k / 5)) (k % 5)) (by omega)
      rw [z] at this
      exact this tg_nm1
    have fin : ∀ P : Nat → Prop, (∀ q, q < 80 → (P q ↔ (R q = true ∨ (q / 5 < n ∧ tg_nx w dC (k / 5) (q / 5) = true ∧ q % 5 = tg_e (w (k / 5)) (k % 5))))) → ∀ re, tg_A re P → post (bk, lv, (nI n), fk, lo, ex, ht, vt, vv, rc, rr, ls, eT, eV, rN, rC, rR, dO, dC, tS, tO, tC, re, qN, qT, qK, qA, an, cR, sk) := by
      intro P hP re2 h2
      refine h _ (tg_A_c h2 (fun q hq => ?_))
      rw [tg_s_iff, hP q hq]
      constructor
      · rintro (z | z)
        · exact Or.inl z
        · exact Or.inr ⟨hR, cf, z⟩
      · rintro (z | z)
        · exact Or.inl z
        · exact Or.inr z.2.2
    by_cases c20 : w (k / 5) = 20
    · refine br_t (by rw [c20]; rfl) (br_t (by rw [c20]; rfl) ⟨i16, ?_⟩)
      rw [cl]
      refine tx_reach hn e4 hA (fun re2 h2 => fin _ (fun q hq => ?_) re2 h2)
      rw [tg_nx_iff]
      constructor
      · rintro (z | z)
        · exact Or.inl z
        · exact Or.inr ⟨z.1, Or.inr ⟨Or.inl c20, z.2.1⟩, z.2.2⟩
      · rintro (z | ⟨z1, z2, z3⟩)
        · exact Or.inl z
        · exact Or.inr ⟨z1, z2.elim (fun y => absurd c20 y.1) (fun y => y.2), z3⟩
    · refine br_f (tg_neI (b := 20) c20 (by omega) (by decide)) ?_
      have ei : (nI (k / 5) + 1).toInt64 = lN (k / 5 + 1) := by rw [nI_1, nI_l (by omega)]
      rw [ei]
      refine tx_reach hn e4 hA (fun re2 h2 => ?_)
      refine br_f (tg_neI (b := 20) c20 (by omega) (by decide)) ?_
      by_cases c21 : w (k / 5) = 21
      · refine br_t (by rw [c21]; rfl) ⟨i16, ?_⟩
        rw [cl]
        refine tx_reach hn e4 h2 (fun re3 h3 => fin _ (fun q hq => ?_) re3 h3)
        rw [tg_nx_iff]
        constructor
        · rintro ((z | z) | z)
          · exact Or.inl z
          · have := (pk_lEQ (by omega) (by omega)).mp z.2.1
            exact Or.inr ⟨z.1, Or.inl ⟨c20, by omega, by omega⟩, z.2.2⟩
          · exact Or.inr ⟨z.1, Or.inr ⟨Or.inr c21, z.2.1⟩, z.2.2⟩
        · rintro (z | ⟨z1, z2, z3⟩)
          · exact Or.inl (Or.inl z)
          · rcases z2 with y | y
            · exact Or.inl (Or.inr ⟨z1, by rw [y.2.2], z3⟩)
            · exact Or.inr ⟨z1, y.2, z3⟩
      · refine br_f (tg_neI (b := 21) c21 (by omega) (by decide)) (fin _ (fun q hq => ?_) re2 h2)
        rw [tg_nx_iff]
        constructor
        · rintro (z | z)
          · exact Or.inl z
          · have := (pk_lEQ (by omega) (by omega)).mp z.2.1
            exact Or.inr ⟨z.1, Or.inl ⟨c20, by omega, by omega⟩, z.2.2⟩
        · rintro (z | ⟨z1, z2, z3⟩)
          · exact Or.inl z
          · rcases z2 with y | y
            · exact Or.inr ⟨z1, by rw [y.2.2], z3⟩
            · exact absurd y.1 (by omega)
  · have ha : tg_ha (w (k / 5)) (k % 5) = -1 := if_neg cf
    rw [ha]
    exact br_t rfl (same (fun q _ z => cf z.1))
end XK
end
section
/-! 18: the check of a draft, X: its loops -/
def tg_rk (w : Nat → Nat) (c : Nat → Int64) (n : Nat) (S : Nat → Bool) (k : Nat) : Nat → Bool := if k ≤ 5 * n then tg_r w c n S k else tg_r w c n S (5 * n)
section XL
variable {bk : Int32} {lv : Int32} {ds : Int32} {fk : Int32} {lo : Int32} {ex : Int32} {ht : Int32} {vt : Int32} {vv : Int64} {rc : Int32} {rr : Int64} {ls : Nat → Int32} {eT : Nat → Int32} {eV : Nat → Int64} {rN : Nat → Int32} {rC : Nat → Int32} {rR : Nat → Int64} {dO : Nat → Int32} {dC : Nat → Int64} {tS : Nat → Int32} {tO : Nat → Int32} {tC : Nat → Int64} {re : Nat → Int32} {qN : Nat → Int32} {qT : Nat → Int32} {qK : Nat → Int32} {qA : Nat → Int32} {an : Nat → Int32} {cR : Nat → Int64} {sk : Nat → Int64} {vh : Int32} {vw : Int64} {oc : Int64} {li : Nat → Int32} {ll : Nat → Int32} {sz : Nat → Int32} {va : Nat → Int64} {yo : Nat → Int32} {yg : Nat → Int64} {le : Nat → Int32} {pa : Nat → Int32} {st : Nat → Int64} {on : Nat → Int32} {wa : Nat → Int32} {n : Nat} {w : Nat → Nat}
theorem tg_rk_le {c : Nat → Int64} {S : Nat → Bool} {k : Nat} (h : k ≤ 5 * n) : tg_rk w c n S k = tg_r w c n S k := if_pos h
theorem tg_rk_gt {c : Nat → Int64} {S : Nat → Bool} {k : Nat} (h : 5 * n ≤ k) : tg_rk w c n S k = tg_r w c n S (5 * n) := by
  by_cases e : k = 5 * n
  · rw [e]; exact if_pos (Nat.le_refl _)
  · exact if_neg (by omega)
theorem tg_s_id {c : Nat → Int64} {R : Nat → Bool} {k : Nat} (h : ¬ R k = true) : tg_s w c n R k = R := by
  funext q
  unfold tg_s
  rw [tg_nf h]
  simp
theorem tx_38 {post : SX → Prop} {J : Int32 → Int32 → Int32 → Int32 → Int32 → Int32 → Int32 → Int32 → Int32 → Int64 → Int32 → Int64 → (Nat → Int32) → (Nat → Int32) → (Nat → Int64) → (Nat → Int32) → (Nat → Int32) → (Nat → Int64) → (Nat → Int32) → (Nat → Int64) → (Nat → Int32) → (Nat → Int32) → (Nat → Int64) → (Nat → Int32) → (Nat → Int32) → (Nat → Int32) → (Nat → Int32) → (Nat → Int32) → (Nat → Int32) → (Nat → Int64) → (Nat → Int64) → Prop} {r : Nat} (hn0 : 0 < n) (hn : n ≤ 16) (hw : tg_Dr n w dO)
    (hJ : ∀ re, tg_A re (fun q => tg_sp w dC n (r + 1) q = true) → J (nI (r + 1)) bk lv (nI n) fk lo ex ht vt vv rc rr ls eT eV rN rC rR dO dC tS tO tC re qN qT qK qA an cR sk) :
    ∀ d k N re, k + d = 80 → d < N → tg_A re (fun q => tg_rk w dC n (tg_sp w dC n r) k q = true) → wX_findReached_38 post J (nI r) N (nI k) bk lv (nI n) fk lo ex ht vt vv rc rr ls eT eV rN rC rR dO dC tS tO tC re qN qT qK qA an cR sk := by
  intro d
  induction d with
  | zero =>
    intro k N re hk hN hA
    obtain ⟨N, rfl⟩ : ∃ k, N = k + 1 := ⟨N - 1, by omega⟩
    obtain rfl : k = 80 := by omega
    rw [tg_rk_gt (by omega)] at hA
    exact br_t (nI_le (a := 80) (b := 80) (by omega) (by decide)) (nm_r (nI_1 r) (hJ re hA))
  | succ d ih =>
    intro k N re hk hN hA
    obtain ⟨N, rfl⟩ : ∃ k, N = k + 1 := ⟨N - 1, by omega⟩
    have cl : (nI k).toNatClampNeg = k := nI_clamp (by omega)
    have z := tg_A_0 hA (q := k) (by omega)
    refine br_f (nI_ge (b := 80) (by omega) (by decide)) ⟨vp_in_nI (by omega) (by decide), ?_⟩
    rw [cl]
    by_cases c : k < 5 * n
    · rw [tg_rk_le (by omega)] at hA z
      by_cases hR : tg_r w dC n (tg_sp w dC n r) k k = true
      · have e1 : nI k / 5 = nI (k / 5) := pk_div (d := 5) (by omega) (by decide) (by decide)
        have e2 : nI k - nI k / 5 * 5 = nI (k % 5) := pk_rem (d := 5) (by omega) (by decide) (by decide)
        refine br_f (fun y => z.mp y hR) ⟨tg_d5, tg_d5, ?_⟩
        rw [e2, e1]
        exact tx_rn hn hw c hR hA (fun re2 h2 => nm_r (nI_1 k) (ih (k + 1) N re2 (by omega) (by omega) (by rw [tg_rk_le (by omega)]; exact h2)))
      · refine br_t (z.mpr hR) (nm_r (nI_1 k) (ih (k + 1) N re (by omega) (by omega) ?_))
        rw [tg_rk_le (by omega)]
        show tg_A re (fun q => tg_s w dC n (tg_r w dC n (tg_sp w dC n r) k) k q = true)
        rw [tg_s_id hR]
        exact hA
    · rw [tg_rk_gt (by omega)] at hA z
      have sf := tg_r_sup (w := w) (c := dC) (tg_sp_sup (w := w) (c := dC) hn0 r) (5 * n) k (by omega)
      refine br_t (z.mpr (by rw [sf]; decide)) (nm_r (nI_1 k) (ih (k + 1) N re (by omega) (by omega) ?_))
      rw [tg_rk_gt (by omega)]
      exact hA
theorem tx_30 {post : SX → Prop} (hn0 : 0 < n) (hn : n ≤ 16) (hw : tg_Dr n w dO)
    (h : ∀ re, tg_A re (fun q => tg_sp w dC n 80 q = true) → post (bk, lv, (nI n), fk, lo, ex, ht, vt, vv, rc, rr, ls, eT, eV, rN, rC, rR, dO, dC, tS, tO, tC, re, qN, qT, qK, qA, an, cR, sk)) :
    ∀ d r N re, r + d = 80 → d < N → tg_A re (fun q => tg_sp w dC n r q = true) → wX_findReached_30 post N (nI r) bk lv (nI n) fk lo ex ht vt vv rc rr ls eT eV rN rC rR dO dC tS tO tC re qN qT qK qA an cR sk := by
  intro d
  induction d with
  | zero =>
    intro r N re hr hN hA
    obtain ⟨N, rfl⟩ : ∃ k, N = k + 1 := ⟨N - 1, by omega⟩
    obtain rfl : r = 80 := by omega
    exact br_t (nI_le (a := 80) (b := 80) (by omega) (by decide)) (h re hA)
  | succ d ih =>
    intro r N re hr hN hA
    obtain ⟨N, rfl⟩ : ∃ k, N = k + 1 := ⟨N - 1, by omega⟩
    exact br_f (nI_ge (b := 80) (by omega) (by decide)) ⟨81, tx_38 hn0 hn hw (fun re2 h2 => ih (r + 1) N re2 (by omega) (by omega) h2) 80 0 81 re (by omega) (by omega) hA⟩
theorem tx_2 {post : SX → Prop} (hn0 : 0 < n) (hn : n ≤ 16) (hw : tg_Dr n w dO)
    (h : ∀ re, tg_A re (fun q => tg_sp w dC n 80 q = true) → post (bk, lv, (nI n), fk, lo, ex, ht, vt, vv, rc, rr, ls, eT, eV, rN, rC, rR, dO, dC, tS, tO, tC, re, qN, qT, qK, qA, an, cR, sk)) :
    ∀ d k N re, k + d = 80 → d < N → (∀ q, q < k → re q = 0) → wX_findReached_2 post bk lv (nI n) fk lo ex ht vt vv rc rr N (nI k) ls eT eV rN rC rR dO dC tS tO tC re qN qT qK qA an cR sk := by
  intro d
  induction d with
  | zero =>
    intro k N re hk hN h0
    obtain ⟨N, rfl⟩ : ∃ k, N = k + 1 := ⟨N - 1, by omega⟩
    obtain rfl : k = 80 := by omega
    refine br_t (nI_le (a := 80) (b := 80) (by omega) (by decide)) (nm_r (e' := upd re 0 1) (by rw [tg_vb1]) ⟨81, tx_30 hn0 hn hw h 80 0 81 _ (by omega) (by omega) (fun q hq => ?_)⟩)
    show (decide (q = 0) = true ∧ _) ∨ (¬ decide (q = 0) = true ∧ _)
    by_cases e : q = 0
    · exact Or.inl ⟨decide_eq_true e, by rw [e, pk_us]⟩
    · exact Or.inr ⟨by rw [decide_eq_true_eq]; exact e, by rw [pk_un e]; exact h0 q hq⟩
  | succ d ih =>
    intro k N re hk hN h0
    obtain ⟨N, rfl⟩ : ∃ k, N = k + 1 := ⟨N - 1, by omega⟩
    refine br_f (nI_ge (b := 80) (by omega) (by decide)) ⟨vp_in_nI (by omega) (by decide), nm_r (tg_u rfl (by omega) tg_vb0) (nm_r (nI_1 k) (ih (k + 1) N _ (by omega) (by omega) (fun q hq => ?_)))⟩
    by_cases e : q = k
    · rw [e, pk_us]
    · rw [pk_un e]; exact h0 q (by omega)
theorem tx_fr {post : SX → Prop} (hn0 : 0 < n) (hn : n ≤ 16) (hw : tg_Dr n w dO)
    (h : ∀ re, tg_A re (fun q => tg_sp w dC n 80 q = true) → post (bk, lv, (nI n), fk, lo, ex, ht, vt, vv, rc, rr, ls, eT, eV, rN, rC, rR, dO, dC, tS, tO, tC, re, qN, qT, qK, qA, an, cR, sk)) : wpX_findReached post (bk, lv, (nI n), fk, lo, ex, ht, vt, vv, rc, rr, ls, eT, eV, rN, rC, rR, dO, dC, tS, tO, tC, re, qN, qT, qK, qA, an, cR, sk) :=
  ⟨81, tx_2 hn0 hn hw h 80 0 81 re (by omega) (by omega) (fun q hq => absurd hq (by omega))⟩
theorem tg_out_iff {c : Nat → Int64} {i : Nat} : tg_out w c n i = true ↔ ((w i = 20 ∨ w i = 21) ∧ tg_ind n (c i) = false) ∨ (w i ≠ 20 ∧ w i < 22 ∧ i + 1 = n) := by
  unfold tg_out
  simp only [Bool.or_eq_true, Bool.and_eq_true, decide_eq_true_eq, and_assoc, Bool.not_eq_true']
def tg_bi (b : Bool) : Int32 := if b = true then 1 else 0
theorem tg_bi_t {b : Bool} {post : Int32 → Prop} (h : post (tg_bi b)) (e : b = true) : post 1 := by rw [e] at h; exact h
theorem tg_bi_f {b : Bool} {post : Int32 → Prop} (h : post (tg_bi b)) (e : ¬ b = true) : post 0 := by rw [tg_nf e] at h; exact h
theorem tx_mr {post : Int32 → Prop} {i : Nat} (hn : n ≤ 16) (hw : tg_Dr n w dO) (hi : i < n) (h : post (tg_bi (tg_out w dC n i))) : wpX_mayRunOut post (bk, lv, (nI n), fk, lo, ex, ht, vt, vv, rc, rr, ls, eT, eV, rN, rC, rR, dO, dC, tS, tO, tC, re, qN, qT, qK, qA, an, cR, sk) (nI i) := by
  obtain ⟨w24, hdO⟩ := hw i hi
  have i16 : vp_in (nI i) 16 := vp_in_nI (by omega) (by decide)
  have cl : (nI i).toNatClampNeg = i := nI_clamp (by omega)
  have ei : (nI i + 1).toInt64 = lN (i + 1) := by rw [nI_1, nI_l (by omega)]
  -- the last join: falls out or not
  have last : ∀ z0 : Int32, ¬ w i = 20 → w i < 22 → (i + 1 = n → (z0 = 0 → post 1) ∧ (¬ z0 = 0 → post 1)) → (¬ i + 1 = n → (z0 = 0 → post 0) ∧ (¬ z0 = 0 → post 1)) → wX_mayRunOut_51 post (nI i) (nI (w i)) z0 bk lv (nI n) fk lo ex ht vt vv rc rr ls eT eV rN rC rR dO dC tS tO tC re qN qT qK qA an cR sk := by
    intro z0 c20 c22 a b
    refine br_f (tg_neI (b := 20) c20 (by omega) (by decide)) ?_
    rw [ei]
    by_cases e : i + 1 = n
    · refine tx_id0 hn (tg_nf (fun y => ?_)) (br_t rfl ?_)
      · obtain ⟨j, hj, e2⟩ := (tg_ind_iff hn).mp y
        have := (pk_lEQ (by omega) (by omega)).mp e2
        omega
      · exact br_c (fun y => br_f tg_d1 ((a e).1 y)) (fun y => (a e).2 y)
    · refine tx_id1 hn (by omega) (br_f tg_d1 ?_)
      exact br_c (fun y => br_t rfl ((b e).1 y)) (fun y => (b e).2 y)
  refine ⟨i16, nm_r (e' := nI (w i)) (by rw [cl]; exact hdO) ?_⟩
  by_cases c22 : w i = 22
  · exact br_t (by rw [c22]; rfl) (tg_bi_f h (fun z => by have := tg_out_iff.mp z; omega))
  refine br_f (tg_neI (b := 22) c22 (by omega) (by decide)) ?_
  by_cases c23 : w i = 23
  · exact br_t (by rw [c23]; rfl) (tg_bi_f h (fun z => by have := tg_out_iff.mp z; omega))
  refine br_f (tg_neI (b := 23) c23 (by omega) (by decide)) ?_
  by_cases c20 : w i = 20
  · refine br_t (by rw [c20]; rfl) ⟨i16, ?_⟩
    rw [cl]
    by_cases d : tg_ind n (dC i) = true
    · obtain ⟨j, hj, ej⟩ := (tg_ind_iff hn).mp d
      rw [ej]
      refine tx_id1 hn hj (br_f tg_d1 (br_t (by rw [c20]; rfl) (br_t rfl (br_t rfl (tg_bi_f h (fun z => ?_))))))
      rcases tg_out_iff.mp z with y | y
      · rw [d] at y; exact absurd y.2 (by decide)
      · exact y.1 c20
    · exact tx_id0 hn (tg_nf d) (br_t rfl (br_t (by rw [c20]; rfl) (br_f tg_d1 (tg_bi_t h (tg_out_iff.mpr (Or.inl ⟨Or.inl c20, tg_nf d⟩))))))
  refine br_f (tg_neI (b := 20) c20 (by omega) (by decide)) ?_
  by_cases c21 : w i = 21
  · refine br_t (by rw [c21]; rfl) ⟨i16, ?_⟩
    rw [cl]
    by_cases d : tg_ind n (dC i) = true
    · obtain ⟨j, hj, ej⟩ := (tg_ind_iff hn).mp d
      rw [ej]
      refine tx_id1 hn hj (br_f tg_d1 (last 0 c20 (by omega) (fun e => ⟨fun _ => tg_bi_t h (tg_out_iff.mpr (Or.inr ⟨c20, by omega, e⟩)), fun y => absurd rfl y⟩) (fun e => ⟨fun _ => tg_bi_f h (fun z => ?_), fun y => absurd rfl y⟩)))
      rcases tg_out_iff.mp z with y | y
      · rw [d] at y; exact absurd y.2 (by decide)
      · exact e y.2.2
    · have t : tg_out w dC n i = true := tg_out_iff.mpr (Or.inl ⟨Or.inr c21, tg_nf d⟩)
      exact tx_id0 hn (tg_nf d) (br_t rfl (last 1 c20 (by omega) (fun e => ⟨fun y => absurd y tg_d1, fun _ => tg_bi_t h t⟩) (fun e => ⟨fun y => absurd y tg_d1, fun _ => tg_bi_t h t⟩)))
  refine br_f (tg_neI (b := 21) c21 (by omega) (by decide)) (last 0 c20 (by omega) (fun e => ⟨fun _ => tg_bi_t h (tg_out_iff.mpr (Or.inr ⟨c20, by omega, e⟩)), fun y => absurd rfl y⟩) (fun e => ⟨fun _ => tg_bi_f h (fun z => ?_), fun y => absurd rfl y⟩))
  rcases tg_out_iff.mp z with y | y
  · omega
  · exact e y.2.2
theorem tg_h_le {R : Nat → Bool} {i : Nat} (d : Nat) : tg_h R i d ≤ d := by
  induction d with
  | zero => exact Nat.le_refl 0
  | succ d ih => unfold tg_h; split <;> omega
theorem tg_b_up {R : Nat → Bool} {i d : Nat} (h : tg_b w R i d = true) (e : Nat) : tg_b w R i (d + e) = true := by
  induction e with
  | zero => exact h
  | succ e ih =>
    show (tg_b w R i (d + e) || _) = true
    rw [ih, Bool.true_or]
theorem tx_if_l {post : Int32 → Prop} {i : Nat} {R : Nat → Bool} (hn : n ≤ 16) (hw : tg_Dr n w dO) (hi : i < n) (hA : tg_A re (fun q => R q = true)) (h : post (tg_bi (tg_f w dC n R i))) :
    ∀ e d N, d + e = 5 → e < N → tg_b w R i d = false → wX_isFaulty_4 post (nI i) bk lv (nI n) fk lo ex ht vt vv rc rr ls eT eV rN rC rR dO dC tS tO tC re qN qT qK qA an cR sk N (nI (tg_h R i d)) (nI d) := by
  obtain ⟨w24, hdO⟩ := hw i hi
  have cl : (nI i).toNatClampNeg = i := nI_clamp (by omega)
  intro e
  induction e with
  | zero =>
    intro d N hd hN hb
    obtain ⟨N, rfl⟩ : ∃ k, N = k + 1 := ⟨N - 1, by omega⟩
    obtain rfl : d = 5 := by omega
    have hl := tg_h_le (R := R) (i := i) 5
    refine br_t (by decide) ?_
    unfold tg_f at h
    rw [hb, Bool.false_or] at h
    by_cases c1 : 1 < tg_h R i 5
    · rw [decide_eq_true c1, Bool.true_or] at h
      exact br_t (nI_lt (a := 1) c1 (by omega)) h
    · rw [decide_eq_false c1, Bool.false_or] at h
      refine br_f (nI_nlt (a := 1) (b := tg_h R i 5) (by omega) (by decide)) ?_
      by_cases c2 : tg_h R i 5 = 1
      · rw [c2, decide_eq_true (by decide), Bool.true_and] at h
        refine br_t (by rw [c2]; rfl) (tx_mr hn hw hi ?_)
        by_cases o : tg_out w dC n i = true
        · rw [o]; exact br_f tg_d1 (tg_bi_t h o)
        · rw [tg_nf o]; exact br_t rfl (tg_bi_f h o)
      · rw [decide_eq_false (by omega), Bool.false_and] at h
        exact br_f (tg_neI (b := 1) c2 (by omega) (by decide)) h
  | succ e ih =>
    intro d N hd hN hb
    obtain ⟨N, rfl⟩ : ∃ k, N = k + 1 := ⟨N - 1, by omega⟩
    have c5 : (nI i * 5 + nI d).toNatClampNeg = 5 * i + d := by rw [tg_j5, nI_clamp (by omega)]
    have z := tg_A_0 hA (q := 5 * i + d) (by omega)
    refine br_f (nI_ge (b := 5) (by omega) (by decide)) ⟨tg_vi (tg_j5 i d) (by omega) (by decide), ?_⟩
    rw [c5]
    by_cases hR : R (5 * i + d) = true
    · have hh : tg_h R i (d + 1) = tg_h R i d + 1 := by
        show tg_h R i d + (if R (5 * i + d) = true then 1 else 0) = _
        rw [if_pos hR]
      refine br_f (fun y => z.mp y hR) (nm_r (nI_1 _) ⟨vp_in_nI (by omega) (by decide), ?_⟩)
      rw [cl, hdO]
      refine tx_ha w24 (by omega) ?_
      by_cases cf : tg_fit (w i) d = true
      · rw [show tg_ha (w i) d = nI (tg_e (w i) d) from if_pos cf]
        have e4 := (tg_fit_iff.mp cf).2
        have hb2 : tg_b w R i (d + 1) = false := by
          show (tg_b w R i d || (R (5 * i + d) && !tg_fit (w i) d)) = false
          rw [hb, cf]; simp
        have I := ih (d + 1) N (by omega) (by omega) hb2
        rw [hh] at I
        refine br_f (fun y => ?_) (nm_r (nI_1 d) I)
        have := nI_pos (n := tg_e (w i) d) (by omega)
        rw [y] at this
        exact this tg_nm1
      · rw [show tg_ha (w i) d = -1 from if_neg cf]
        have hb2 : tg_b w R i (d + 1) = true := by
          show (tg_b w R i d || (R (5 * i + d) && !tg_fit (w i) d)) = true
          rw [hR, tg_nf cf]; simp
        have hb5 := tg_b_up hb2 e
        rw [show d + 1 + e = 5 from by omega] at hb5
        refine br_t rfl (tg_bi_t h ?_)
        unfold tg_f
        rw [hb5]; simp
    · have hh : tg_h R i (d + 1) = tg_h R i d := by
        show tg_h R i d + (if R (5 * i + d) = true then 1 else 0) = _
        rw [if_neg hR]; omega
      have hb2 : tg_b w R i (d + 1) = false := by
        show (tg_b w R i d || (R (5 * i + d) && !tg_fit (w i) d)) = false
        rw [hb, tg_nf hR]; simp
      have I := ih (d + 1) N (by omega) (by omega) hb2
      rw [hh] at I
      exact br_t (z.mpr hR) (nm_r (nI_1 d) I)
theorem tx_if {post : Int32 → Prop} {i : Nat} {R : Nat → Bool} (hn : n ≤ 16) (hw : tg_Dr n w dO) (hi : i < n) (hA : tg_A re (fun q => R q = true)) (h : post (tg_bi (tg_f w dC n R i))) : wpX_isFaulty post (bk, lv, (nI n), fk, lo, ex, ht, vt, vv, rc, rr, ls, eT, eV, rN, rC, rR, dO, dC, tS, tO, tC, re, qN, qT, qK, qA, an, cR, sk) (nI i) :=
  ⟨6, tx_if_l hn hw hi hA h 5 0 6 (by omega) (by omega) rfl⟩
def tg_lf (f : Nat → Bool) (n : Nat) : Nat → Nat
  | 0 => n
  | d + 1 => if f (n - (d + 1)) = true then n - (d + 1) else tg_lf f n d
theorem tg_lf_le {f : Nat → Bool} (d : Nat) : tg_lf f n d ≤ n := by
  induction d with
  | zero => exact Nat.le_refl _
  | succ d ih => unfold tg_lf; split <;> omega
theorem tg_lf_n {f : Nat → Bool} (d : Nat) (hd : d ≤ n) (h : tg_lf f n d = n) : ∀ i, n - d ≤ i → i < n → f i = false := by
  induction d with
  | zero => intro i h1 h2; omega
  | succ d ih =>
    intro i h1 h2
    unfold tg_lf at h
    by_cases c : f (n - (d + 1)) = true
    · rw [if_pos c] at h; omega
    · rw [if_neg c] at h
      by_cases e : i = n - (d + 1)
      · rw [e]; exact tg_nf c
      · exact ih (by omega) h i (by omega) h2
theorem tx_lf_l {post : Int32 → Prop} {R : Nat → Bool} (hn : n ≤ 16) (hw : tg_Dr n w dO) (hA : tg_A re (fun q => R q = true)) :
    ∀ d N, d ≤ n → d < N → post (nI (tg_lf (tg_f w dC n R) n d)) → wX_leastFaulty_2 post bk lv (nI n) fk lo ex ht vt vv rc rr ls eT eV rN rC rR dO dC tS tO tC re qN qT qK qA an cR sk N (nI (n - d)) := by
  intro d
  induction d with
  | zero =>
    intro N hd hN h
    obtain ⟨N, rfl⟩ : ∃ k, N = k + 1 := ⟨N - 1, by omega⟩
    exact br_t (nI_le (by omega) (by omega)) h
  | succ d ih =>
    intro N hd hN h
    obtain ⟨N, rfl⟩ : ∃ k, N = k + 1 := ⟨N - 1, by omega⟩
    unfold tg_lf at h
    refine br_f (nI_ge (by omega) (by omega)) (tx_if hn hw (by omega) hA ?_)
    by_cases c : tg_f w dC n R (n - (d + 1)) = true
    · rw [if_pos c] at h
      rw [c]
      exact br_f tg_d1 h
    · rw [if_neg c] at h
      rw [tg_nf c]
      refine br_t rfl (nm_r (nI_1 _) ?_)
      have I := ih N (by omega) (by omega) h
      rw [show n - (d + 1) + 1 = n - d from by omega]
      exact I
theorem tx_lf {post : Int32 → Prop} {R : Nat → Bool} (hn : n ≤ 16) (hw : tg_Dr n w dO) (hA : tg_A re (fun q => R q = true)) (h : post (nI (tg_lf (tg_f w dC n R) n n))) : wpX_leastFaulty post (bk, lv, (nI n), fk, lo, ex, ht, vt, vv, rc, rr, ls, eT, eV, rN, rC, rR, dO, dC, tS, tO, tC, re, qN, qT, qK, qA, an, cR, sk) := by
  have I := tx_lf_l (n := n) (bk := bk) (lv := lv) (fk := fk) (lo := lo) (ex := ex) (ht := ht) (vt := vt) (vv := vv) (rc := rc) (rr := rr) (ls := ls) (eT := eT) (eV := eV) (rN := rN) (rC := rC) (rR := rR) (dO := dO) (dC := dC) (tS := tS) (tO := tO) (tC := tC) (re := re) (qN := qN) (qT := qT) (qK := qK) (qA := qA) (an := an) (cR := cR) (sk := sk) hn hw hA n (n + 1) (Nat.le_refl _) (by omega) h
  rw [Nat.sub_self] at I
  exact ⟨n + 1, I⟩
theorem tx_td_l {post : SX → Prop} {t : Nat} {o0 : Nat → Int32} {c0 : Nat → Int64} (ht4 : t < 4)
    (h : ∀ tO tC, (∀ i, i < 16 → tO (16 * t + i) = dO i ∧ tC (16 * t + i) = dC i) → (∀ q, q < 16 * t ∨ 16 * t + 16 ≤ q → tO q = o0 q ∧ tC q = c0 q) → post (bk, lv, ds, fk, lo, ex, ht, vt, vv, rc, rr, ls, eT, eV, rN, rC, rR, dO, dC, (upd tS t ds), tO, tC, re, qN, qT, qK, qA, an, cR, sk)) :
    ∀ d i N tO tC, i + d = 16 → d < N → (∀ j, j < i → tO (16 * t + j) = dO j ∧ tC (16 * t + j) = dC j) → (∀ q, q < 16 * t ∨ 16 * t + 16 ≤ q → tO q = o0 q ∧ tC q = c0 q) → wX_takeDraft_2 post (nI t) bk lv ds fk lo ex ht vt vv rc rr N (nI i) ls eT eV rN rC rR dO dC tS tO tC re qN qT qK qA an cR sk := by
  intro d
  induction d with
  | zero =>
    intro i N tO tC hi hN h1 h2
    obtain ⟨N, rfl⟩ : ∃ k, N = k + 1 := ⟨N - 1, by omega⟩
    obtain rfl : i = 16 := by omega
    exact br_t (by decide) ⟨vp_in_nI ht4 (by decide), nm_r (tg_u rfl (by omega) rfl) (h tO tC h1 h2)⟩
  | succ d ih =>
    intro i N tO tC hi hN h1 h2
    obtain ⟨N, rfl⟩ : ∃ k, N = k + 1 := ⟨N - 1, by omega⟩
    have i16 : vp_in (nI i) 16 := vp_in_nI (by omega) (by decide)
    have i64 : vp_in (nI t * 16 + nI i) 64 := tg_vi (tg_i16 t i) (by omega) (by decide)
    refine br_f (nI_ge (b := 16) (by omega) (by decide)) ⟨i16, i64, nm_r (tg_u (tg_i16 t i) (by omega) (tg_rd rfl (by omega))) ⟨i16, i64, nm_r (tg_uL (tg_i16 t i) (by omega) (tg_rdL rfl (by omega))) (nm_r (nI_1 i) (ih (i + 1) N _ _ (by omega) (by omega) (fun j hj => ?_) (fun q hq => ?_)))⟩⟩
    · by_cases e : j = i
      · rw [e, pk_us, pk_uLs]; exact ⟨rfl, rfl⟩
      · rw [pk_un (by omega), pk_uLn (by omega)]; exact h1 j (by omega)
    · rw [pk_un (by omega), pk_uLn (by omega)]; exact h2 q hq
theorem tx_td {post : SX → Prop} {t : Nat} (ht4 : t < 4)
    (h : ∀ tO2 tC2, (∀ i, i < 16 → tO2 (16 * t + i) = dO i ∧ tC2 (16 * t + i) = dC i) → (∀ q, q < 16 * t ∨ 16 * t + 16 ≤ q → tO2 q = tO q ∧ tC2 q = tC q) → post (bk, lv, ds, fk, lo, ex, ht, vt, vv, rc, rr, ls, eT, eV, rN, rC, rR, dO, dC, (upd tS t ds), tO2, tC2, re, qN, qT, qK, qA, an, cR, sk)) : wpX_takeDraft post (bk, lv, ds, fk, lo, ex, ht, vt, vv, rc, rr, ls, eT, eV, rN, rC, rR, dO, dC, tS, tO, tC, re, qN, qT, qK, qA, an, cR, sk) (nI t) :=
  ⟨17, tx_td_l ht4 h 16 0 17 tO tC (by omega) (by omega) (fun j hj => absurd hj (by omega)) (fun q _ => ⟨rfl, rfl⟩)⟩
end XL
end
section
/-! 19: the check of a draft, Y (begun by gendepy.py) -/
def tg_ch (o : Nat) : Int32 := if o < 4 ∨ o = 15 then 1 else if o ≤ 14 ∨ o = 17 ∨ o = 18 ∨ o = 21 then -1 else 0
def tg_ye (o d : Nat) : Nat := if o = 23 then d else tg_e o d
section YK
variable {bk : Int32} {lv : Int32} {ds : Int32} {fk : Int32} {lo : Int32} {ex : Int32} {ht : Int32} {vt : Int32} {vv : Int64} {rc : Int32} {rr : Int64} {ls : Nat → Int32} {eT : Nat → Int32} {eV : Nat → Int64} {rN : Nat → Int32} {rC : Nat → Int32} {rR : Nat → Int64} {dO : Nat → Int32} {dC : Nat → Int64} {tS : Nat → Int32} {tO : Nat → Int32} {tC : Nat → Int64} {re : Nat → Int32} {qN : Nat → Int32} {qT : Nat → Int32} {qK : Nat → Int32} {qA : Nat → Int32} {an : Nat → Int32} {cR : Nat → Int64} {sk : Nat → Int64} {vh : Int32} {vw : Int64} {oc : Int64} {li : Nat → Int32} {ll : Nat → Int32} {sz : Nat → Int32} {va : Nat → Int64} {yo : Nat → Int32} {yg : Nat → Int64} {le : Nat → Int32} {pa : Nat → Int32} {st : Nat → Int64} {on : Nat → Int32} {wa : Nat → Int32} {n : Nat} {w : Nat → Nat}
theorem ty_tk {post : Int32 → Prop} {o : Nat} (ho : o < 24) (h : post (nI (tg_tk o))) : wpY_takes post (bk, fk, lo, ex, vh, vw, oc, li, ll, sz, eT, va, rN, rC, rR, yo, yg, le, pa, st, qN, qT, qK, qA, on, cR, wa) (nI o) := by
  by_cases b : 4 ≤ o ∧ o ≤ 14
  · rw [tg_tk_b b] at h
    exact br_f (nI_nlt (b := 4) b.1 (by omega)) (br_t (nI_le (b := 14) b.2 (by decide)) h)
  · rcases tg_nb ho b with rfl | rfl | rfl | rfl | rfl | rfl | rfl | rfl | rfl | rfl | rfl | rfl | rfl
    · exact br_t (by decide) (br_f (by decide) (br_f (by decide) (br_f (by decide) (br_f (by decide) (br_f (by decide) (br_f (by decide) (h)))))))
    · exact br_t (by decide) (br_f (by decide) (br_f (by decide) (br_f (by decide) (br_f (by decide) (br_f (by decide) (br_f (by decide) (h)))))))
    · exact br_t (by decide) (br_f (by decide) (br_f (by decide) (br_f (by decide) (br_f (by decide) (br_f (by decide) (br_f (by decide) (h)))))))
    · exact br_t (by decide) (br_f (by decide) (br_f (by decide) (br_f (by decide) (br_f (by decide) (br_f (by decide) (br_f (by decide) (h)))))))
    · exact br_f (by decide) (br_f (by decide) (br_f (by decide) (br_t (by decide) (h))))
    · exact br_f (by decide) (br_f (by decide) (br_t (by decide) (h)))
    · exact br_f (by decide) (br_f (by decide) (br_f (by decide) (br_f (by decide) (br_t (by decide) (h)))))
    · exact br_f (by decide) (br_f (by decide) (br_f (by decide) (br_f (by decide) (br_f (by decide) (br_t (by decide) (h))))))
    · exact br_f (by decide) (br_f (by decide) (br_f (by decide) (br_f (by decide) (br_f (by decide) (br_f (by decide) (br_f (by decide) (br_f (by decide) (h))))))))
    · exact br_f (by decide) (br_f (by decide) (br_f (by decide) (br_f (by decide) (br_f (by decide) (br_f (by decide) (br_f (by decide) (br_f (by decide) (h))))))))
    · exact br_f (by decide) (br_f (by decide) (br_f (by decide) (br_f (by decide) (br_f (by decide) (br_f (by decide) (br_t (by decide) (h)))))))
    · exact br_f (by decide) (br_f (by decide) (br_f (by decide) (br_f (by decide) (br_f (by decide) (br_f (by decide) (br_f (by decide) (br_f (by decide) (h))))))))
    · exact br_f (by decide) (br_f (by decide) (br_f (by decide) (br_f (by decide) (br_f (by decide) (br_f (by decide) (br_f (by decide) (br_t (by decide) (h))))))))
theorem ty_ch {post : Int32 → Prop} {o : Nat} (ho : o < 24) (h : post (tg_ch o)) : wpY_change post (bk, fk, lo, ex, vh, vw, oc, li, ll, sz, eT, va, rN, rC, rR, yo, yg, le, pa, st, qN, qT, qK, qA, on, cR, wa) (nI o) := by
  by_cases b : 4 ≤ o ∧ o ≤ 14
  · rw [show tg_ch o = -1 from by unfold tg_ch; rw [if_neg (by omega), if_pos (by omega)]] at h
    exact br_f (nI_nlt (b := 4) b.1 (by omega)) (br_f (tg_neI (b := 15) (by omega) (by omega) (by decide)) (br_t (nI_le (b := 14) b.2 (by decide)) h))
  · rcases tg_nb ho b with rfl | rfl | rfl | rfl | rfl | rfl | rfl | rfl | rfl | rfl | rfl | rfl | rfl
    · exact br_t (by decide) (h)
    · exact br_t (by decide) (h)
    · exact br_t (by decide) (h)
    · exact br_t (by decide) (h)
    · exact br_f (by decide) (br_t (by decide) (h))
    · exact br_f (by decide) (br_f (by decide) (br_f (by decide) (br_f (by decide) (br_f (by decide) (br_f (by decide) (h))))))
    · exact br_f (by decide) (br_f (by decide) (br_f (by decide) (br_t (by decide) (h))))
    · exact br_f (by decide) (br_f (by decide) (br_f (by decide) (br_f (by decide) (br_t (by decide) (h)))))
    · exact br_f (by decide) (br_f (by decide) (br_f (by decide) (br_f (by decide) (br_f (by decide) (br_f (by decide) (h))))))
    · exact br_f (by decide) (br_f (by decide) (br_f (by decide) (br_f (by decide) (br_f (by decide) (br_f (by decide) (h))))))
    · exact br_f (by decide) (br_f (by decide) (br_f (by decide) (br_f (by decide) (br_f (by decide) (br_t (by decide) (h))))))
    · exact br_f (by decide) (br_f (by decide) (br_f (by decide) (br_f (by decide) (br_f (by decide) (br_f (by decide) (h))))))
    · exact br_f (by decide) (br_f (by decide) (br_f (by decide) (br_f (by decide) (br_f (by decide) (br_f (by decide) (h))))))
theorem tg_m1s {d : Nat} (h : 1 ≤ d) : nI d + (-1) = nI (d - 1) := by
  obtain ⟨e, rfl⟩ : ∃ e, d = e + 1 := ⟨d - 1, by omega⟩
  exact pk_m1 e
theorem tg_ye_eq {o d : Nat} (ho : o < 24) (h : tg_tk o ≤ d) : nI d + tg_ch o = nI (tg_ye o d) := by
  unfold tg_ye tg_e
  by_cases b : 4 ≤ o ∧ o ≤ 14
  · rw [tg_tk_b b] at h
    rw [show tg_ch o = -1 from by unfold tg_ch; rw [if_neg (by omega), if_pos (by omega)], if_neg (by omega), tg_tk_b b, tg_gv_b b, tg_m1s (by omega)]
    exact congrArg nI (by omega)
  · rcases tg_nb ho b with rfl | rfl | rfl | rfl | rfl | rfl | rfl | rfl | rfl | rfl | rfl | rfl | rfl
    · exact nI_1 d
    · exact nI_1 d
    · exact nI_1 d
    · exact nI_1 d
    · have h1 : 1 ≤ d := h
      show nI d + 1 = nI (d - 1 + 2)
      rw [nI_1]; exact congrArg nI (by omega)
    · have h1 : 2 ≤ d := h
      show nI d + nI 0 = nI (d - 2 + 2)
      rw [nI_add]; exact congrArg nI (by omega)
    · have h1 : 1 ≤ d := h
      show nI d + (-1) = nI (d - 1 + 0)
      exact tg_m1s h1
    · have h1 : 1 ≤ d := h
      show nI d + (-1) = nI (d - 1 + 0)
      exact tg_m1s h1
    · show nI d + nI 0 = nI (d - 0 + 0)
      rw [nI_add]; exact congrArg nI (by omega)
    · show nI d + nI 0 = nI (d - 0 + 0)
      rw [nI_add]; exact congrArg nI (by omega)
    · have h1 : 1 ≤ d := h
      show nI d + (-1) = nI (d - 1 + 0)
      exact tg_m1s h1
    · show nI d + nI 0 = nI (d - 0 + 0)
      rw [nI_add]; exact congrArg nI (by omega)
    · show nI d + nI 0 = nI d
      rw [nI_add]; exact congrArg nI (by omega)
theorem tg_ye4 {o d : Nat} (hd : d < 5) : tg_ye o d ≤ 4 ↔ tg_e o d ≤ 4 := by
  unfold tg_ye
  by_cases c : o = 23
  · subst c
    rw [if_pos rfl]
    have : tg_e 23 d = d - 1 + 0 := rfl
    omega
  · rw [if_neg c]
theorem tg_ye9 {o d : Nat} (hd : d < 5) : tg_ye o d < 9 := by
  have a := tg_gv_le o
  unfold tg_ye tg_e
  split <;> omega
/-- Y's draft -/
def tg_Dy (n : Nat) (w : Nat → Nat) (dC : Nat → Int64) (yo : Nat → Int32) (yg : Nat → Int64) (le : Nat → Int32) : Prop := le 4 = nI n ∧ ∀ i, i < n → w i < 24 ∧ yo (64 + i) = nI (w i) ∧ yg (64 + i) = dC i
theorem tg_64 (i : Nat) : 64 + nI i = nI (64 + i) := nI_add 64 i
theorem ty_nx {post : Int32 → Prop} {i m : Nat} (hn : n ≤ 16) (hy : tg_Dy n w dC yo yg le) (hi : i < n) (hm : m < n) (h : post (tg_bi (tg_nx w dC i m))) : wpY_next post (bk, fk, lo, ex, vh, vw, oc, li, ll, sz, eT, va, rN, rC, rR, yo, yg, le, pa, st, qN, qT, qK, qA, on, cR, wa) (nI i) (lN m) := by
  obtain ⟨hl, hy2⟩ := hy
  obtain ⟨w24, e1, e2⟩ := hy2 i hi
  have i80 : vp_in (64 + nI i) 80 := tg_vi (tg_64 i) (by omega) (by decide)
  have c64 : (64 + nI i).toNatClampNeg = 64 + i := by rw [tg_64, nI_clamp (by omega)]
  have ei : (nI i + 1).toInt64 = lN (i + 1) := by rw [nI_1, nI_l (by omega)]
  have em : lN m = lN (i + 1) ↔ m = i + 1 := pk_lEQ (by omega) (by omega)
  have j46 : (w i = 20 ∨ w i = 21 → ¬ lN m = dC i) → wY_next_46 post (nI i) (lN m) (nI (w i)) bk fk lo ex vh vw oc li ll sz eT va rN rC rR yo yg le pa st qN qT qK qA on cR wa := by
    intro nj
    by_cases c20 : w i = 20
    · refine br_t (by rw [c20]; rfl) (tg_bi_f h (fun z => ?_))
      rcases tg_nx_iff.mp z with y | y
      · exact y.1 c20
      · exact nj y.1 y.2.symm
    refine br_f (tg_neI (b := 20) c20 (by omega) (by decide)) ?_
    by_cases c22 : 22 ≤ w i
    · refine br_t (nI_le (a := 22) c22 (by omega)) (tg_bi_f h (fun z => ?_))
      have := tg_nx_iff.mp z
      omega
    refine br_f (nI_ge (b := 22) (by omega) (by decide)) ?_
    rw [ei]
    by_cases c : m = i + 1
    · exact br_t (em.mpr c) (tg_bi_t h (tg_nx_iff.mpr (Or.inl ⟨c20, by omega, c⟩)))
    · refine br_f (fun z => c (em.mp z)) (tg_bi_f h (fun z => ?_))
      rcases tg_nx_iff.mp z with y | y
      · exact c y.2.2
      · exact nj y.1 y.2.symm
  have j32 : w i = 20 ∨ w i = 21 → wY_next_32 post (nI i) (lN m) (nI (w i)) bk fk lo ex vh vw oc li ll sz eT va rN rC rR yo yg le pa st qN qT qK qA on cR wa := by
    intro c
    refine ⟨i80, ?_⟩
    rw [c64, e2]
    by_cases d : lN m = dC i
    · exact br_t d (tg_bi_t h (tg_nx_iff.mpr (Or.inr ⟨c, d.symm⟩)))
    · exact br_f d (j46 (fun _ => d))
  refine ⟨i80, nm_r (e' := nI (w i)) (by rw [c64]; exact e1) ?_⟩
  by_cases c22 : 22 ≤ w i
  · exact br_t (nI_le (a := 22) c22 (by omega)) (j46 (fun z => by omega))
  refine br_f (nI_ge (b := 22) (by omega) (by decide)) ?_
  by_cases c20 : w i = 20
  · exact br_t (by rw [c20]; rfl) (j32 (Or.inl c20))
  refine br_f (tg_neI (b := 20) c20 (by omega) (by decide)) ?_
  by_cases c21 : w i = 21
  · exact br_t (by rw [c21]; rfl) (j32 (Or.inr c21))
  exact br_f (tg_neI (b := 21) c21 (by omega) (by decide)) (j46 (fun z => by omega))
theorem ty_106 {post : SY → Prop} {J31 J39 : Int32 → (Nat → Int32) → (Nat → Int32) → (Nat → Int32) → (Nat → Int32) → (Nat → Int64) → (Nat → Int32) → (Nat → Int32) → (Nat → Int64) → (Nat → Int32) → (Nat → Int64) → (Nat → Int32) → (Nat → Int32) → (Nat → Int64) → (Nat → Int32) → (Nat → Int32) → (Nat → Int32) → (Nat → Int32) → (Nat → Int32) → (Nat → Int64) → (Nat → Int32) → Prop} {x1 : Int32} {k d4 : Nat} {P : Nat → Prop} (hn : n ≤ 16) (hy : tg_Dy n w dC yo yg le) (hk : k < 5 * n) (h4 : d4 ≤ 4)
    (hJ : ∀ pa, tg_A pa (fun q => P q ∨ (q / 5 < n ∧ tg_nx w dC (k / 5) (q / 5) = true ∧ q % 5 = d4)) → J39 (nI (k + 1)) li ll sz eT va rN rC rR yo yg le pa st qN qT qK qA on cR wa) :
    ∀ e m N pa, m + e = n → e < N → tg_A pa (fun q => P q ∨ (q / 5 < m ∧ tg_nx w dC (k / 5) (q / 5) = true ∧ q % 5 = d4)) → wY_spread_106 post J31 J39 x1 (nI k) (nI d4) bk fk lo ex vh vw oc N (nI m) li ll sz eT va rN rC rR yo yg le pa st qN qT qK qA on cR wa := by
  have e5 : nI k / 5 = nI (k / 5) := pk_div (d := 5) (by omega) (by decide) (by decide)
  intro e
  induction e with
  | zero =>
    intro m N pa hm hN hA
    obtain ⟨N, rfl⟩ : ∃ k, N = k + 1 := ⟨N - 1, by omega⟩
    obtain rfl : m = n := by omega
    exact br_t (by rw [hy.1]; exact nI_le (Nat.le_refl _) (by omega)) (nm_r (nI_1 k) (hJ pa hA))
  | succ e ih =>
    intro m N pa hm hN hA
    obtain ⟨N, rfl⟩ : ∃ k, N = k + 1 := ⟨N - 1, by omega⟩
    refine br_f (by rw [hy.1]; exact nI_ge (by omega) (by omega)) ⟨tg_d5, ?_⟩
    rw [e5, nI_l (by omega)]
    refine ty_nx hn hy (by omega) (by omega) ?_
    by_cases c : tg_nx w dC (k / 5) m = true
    · rw [c]
      refine br_f tg_d1 ⟨tg_vi (tg_5i m d4) (by omega) (by decide), nm_r (tg_u (tg_5i m d4) (by omega) tg_vb1) (nm_r (nI_1 m) (ih (m + 1) N _ (by omega) (by omega) (tg_A_c (tg_A_u hA) (fun q hq => ?_))))⟩
      constructor
      · rintro ((z | z) | z)
        · exact Or.inl z
        · exact Or.inr ⟨by omega, z.2⟩
        · refine Or.inr ⟨by omega, ?_, by omega⟩
          rw [show q / 5 = m from by omega]; exact c
      · rintro (z | ⟨z1, z2, z3⟩)
        · exact Or.inl (Or.inl z)
        · by_cases y : q / 5 = m
          · exact Or.inr (by omega)
          · exact Or.inl (Or.inr ⟨by omega, z2, z3⟩)
    · rw [tg_nf c]
      refine br_t rfl (nm_r (nI_1 m) (ih (m + 1) N _ (by omega) (by omega) (tg_A_c hA (fun q hq => ?_))))
      constructor
      · rintro (z | z)
        · exact Or.inl z
        · exact Or.inr ⟨by omega, z.2⟩
      · rintro (z | ⟨z1, z2, z3⟩)
        · exact Or.inl z
        · by_cases y : q / 5 = m
          · rw [y] at z2; exact absurd z2 c
          · exact Or.inr ⟨by omega, z2, z3⟩
theorem ty_39 {post : SY → Prop} {J31 : Int32 → (Nat → Int32) → (Nat → Int32) → (Nat → Int32) → (Nat → Int32) → (Nat → Int64) → (Nat → Int32) → (Nat → Int32) → (Nat → Int64) → (Nat → Int32) → (Nat → Int64) → (Nat → Int32) → (Nat → Int32) → (Nat → Int64) → (Nat → Int32) → (Nat → Int32) → (Nat → Int32) → (Nat → Int32) → (Nat → Int32) → (Nat → Int64) → (Nat → Int32) → Prop} {r : Nat} {S : Nat → Bool} (hn : n ≤ 16) (hy : tg_Dy n w dC yo yg le)
    (hJ : ∀ pa, tg_A pa (fun q => tg_r w dC n S (5 * n) q = true) → J31 (nI (r + 1)) li ll sz eT va rN rC rR yo yg le pa st qN qT qK qA on cR wa) :
    ∀ d k N pa, k + d = 5 * n → d < N → tg_A pa (fun q => tg_r w dC n S k q = true) → wY_spread_39 post J31 (nI r) bk fk lo ex vh vw oc N (nI k) li ll sz eT va rN rC rR yo yg le pa st qN qT qK qA on cR wa := by
  have l5 : 5 * le 4 = nI (5 * n) := by rw [hy.1]; exact tg_5p n
  intro d
  induction d with
  | zero =>
    intro k N pa hk hN hA
    obtain ⟨N, rfl⟩ : ∃ k, N = k + 1 := ⟨N - 1, by omega⟩
    obtain rfl : k = 5 * n := by omega
    exact br_t (by rw [l5]; exact nI_le (Nat.le_refl _) (by omega)) (nm_r (nI_1 r) (hJ pa hA))
  | succ d ih =>
    intro k N pa hk hN hA
    obtain ⟨N, rfl⟩ : ∃ k, N = k + 1 := ⟨N - 1, by omega⟩
    have k5 : k < 5 * n := by omega
    have i80 : vp_in (nI k) 80 := vp_in_nI (by omega) (by decide)
    have cl : (nI k).toNatClampNeg = k := nI_clamp (by omega)
    have e1 : nI k / 5 = nI (k / 5) := pk_div (d := 5) (by omega) (by decide) (by decide)
    have e2 : nI k - nI k / 5 * 5 = nI (k % 5) := pk_rem (d := 5) (by omega) (by decide) (by decide)
    have e64 : 64 + nI k / 5 = nI (64 + k / 5) := by rw [e1]; exact tg_64 _
    obtain ⟨w24, eo, eg⟩ := hy.2 (k / 5) (by omega)
    have d5 : k % 5 < 5 := Nat.mod_lt _ (by decide)
    have z := tg_A_0 hA (q := k) (by omega)
    have skip : (tg_r w dC n S k k = true → tg_fit (w (k / 5)) (k % 5) = true → False) → ∀ pa2, pa2 = pa → wY_spread_39 post J31 (nI r) bk fk lo ex vh vw oc N (nI (k + 1)) li ll sz eT va rN rC rR yo yg le pa2 st qN qT qK qA on cR wa := by
      intro y pa2 ep
      subst ep
      refine ih (k + 1) N _ (by omega) (by omega) (tg_A_c hA (fun q hq => ?_))
      show _ ↔ tg_s w dC n (tg_r w dC n S k) k q = true
      rw [tg_s_iff]
      exact ⟨Or.inl, fun x => x.elim id (fun x => absurd x.2.1 (y x.1))⟩
    refine br_f (by rw [l5]; exact nI_ge (by omega) (by omega)) ⟨tg_d5, tg_vi e64 (by omega) (by decide), nm_r (e' := nI (w (k / 5))) (by rw [e64, nI_clamp (by omega)]; exact eo) ⟨tg_d5, ty_ch w24 (nm_e ⟨i80, ?_⟩)⟩⟩
    rw [cl]
    by_cases hR : tg_r w dC n S k k = true
    · refine br_f (fun y => z.mp y hR) ⟨tg_d5, ty_tk w24 ?_⟩
      rw [e2]
      have tl := tg_tk_le (w (k / 5))
      by_cases c1 : tg_tk (w (k / 5)) ≤ k % 5
      · refine br_f (nI_nlt c1 (by omega)) ?_
        rw [tg_ye_eq w24 c1]
        have y9 := tg_ye9 (o := w (k / 5)) d5
        by_cases c2 : tg_ye (w (k / 5)) (k % 5) ≤ 4
        · have cf : tg_fit (w (k / 5)) (k % 5) = true := tg_fit_iff.mpr ⟨c1, (tg_ye4 d5).mp c2⟩
          refine br_t (nI_le (b := 4) c2 (by decide)) ⟨n + 1, ty_106 (P := fun q => tg_r w dC n S k q = true) hn hy k5 c2 (fun pa2 h2 => ih (k + 1) N pa2 (by omega) (by omega) (tg_A_c h2 (fun q hq => ?_))) n 0 _ pa (by omega) (by omega) (tg_A_c hA (fun q hq => ⟨Or.inl, fun x => x.elim id (fun x => absurd x.1 (by omega))⟩))⟩
          show _ ↔ tg_s w dC n (tg_r w dC n S k) k q = true
          rw [tg_s_iff]
          have yy : tg_nx w dC (k / 5) (q / 5) = true → tg_ye (w (k / 5)) (k % 5) = tg_e (w (k / 5)) (k % 5) := by
            intro x
            have := tg_nx_iff.mp x
            exact if_neg (by omega)
          constructor
          · rintro (x | ⟨x1, x2, x3⟩)
            · exact Or.inl x
            · exact Or.inr ⟨hR, cf, x1, x2, by rw [← yy x2]; exact x3⟩
          · rintro (x | ⟨x1, x2, x3, x4, x5⟩)
            · exact Or.inl x
            · exact Or.inr ⟨x3, x4, by rw [yy x4]; exact x5⟩
        · refine br_f (nI_ge (a := 4) (by omega) (by omega)) (nm_r (nI_1 k) (skip (fun _ y => c2 ((tg_ye4 d5).mpr (tg_fit_iff.mp y).2)) pa rfl))
      · exact br_t (nI_lt (by omega) (by omega)) (nm_r (nI_1 k) (skip (fun _ y => c1 (tg_fit_iff.mp y).1) pa rfl))
    · exact br_t (z.mpr hR) (nm_r (nI_1 k) (skip (fun y _ => hR y) pa rfl))
theorem ty_31 {post : SY → Prop} (hn : n ≤ 16) (hy : tg_Dy n w dC yo yg le)
    (h : ∀ pa, tg_A pa (fun q => tg_sp w dC n 80 q = true) → post (bk, fk, lo, ex, vh, vw, oc, li, ll, sz, eT, va, rN, rC, rR, yo, yg, le, pa, st, qN, qT, qK, qA, on, cR, wa)) :
    ∀ d r N pa, r + d = 80 → d < N → tg_A pa (fun q => tg_sp w dC n r q = true) → wY_spread_31 post bk fk lo ex vh vw oc N (nI r) li ll sz eT va rN rC rR yo yg le pa st qN qT qK qA on cR wa := by
  intro d
  induction d with
  | zero =>
    intro r N pa hr hN hA
    obtain ⟨N, rfl⟩ : ∃ k, N = k + 1 := ⟨N - 1, by omega⟩
    obtain rfl : r = 80 := by omega
    exact br_t (nI_le (a := 80) (b := 80) (by omega) (by decide)) (h pa hA)
  | succ d ih =>
    intro r N pa hr hN hA
    obtain ⟨N, rfl⟩ : ∃ k, N = k + 1 := ⟨N - 1, by omega⟩
    exact br_f (nI_ge (b := 80) (by omega) (by decide)) ⟨5 * n + 1, ty_39 (S := tg_sp w dC n r) hn hy (fun pa2 h2 => ih (r + 1) N pa2 (by omega) (by omega) h2) (5 * n) 0 _ pa (by omega) (by omega) hA⟩
theorem ty_2 {post : SY → Prop} (hn : n ≤ 16) (hy : tg_Dy n w dC yo yg le)
    (h : ∀ pa, tg_A pa (fun q => tg_sp w dC n 80 q = true) → post (bk, fk, lo, ex, vh, vw, oc, li, ll, sz, eT, va, rN, rC, rR, yo, yg, le, pa, st, qN, qT, qK, qA, on, cR, wa)) :
    ∀ d k N pa, k + d = 80 → d < N → (∀ q, q < k → pa q = if q = 0 then 1 else 0) → wY_spread_2 post bk fk lo ex vh vw oc N (nI k) li ll sz eT va rN rC rR yo yg le pa st qN qT qK qA on cR wa := by
  intro d
  induction d with
  | zero =>
    intro k N pa hk hN h0
    obtain ⟨N, rfl⟩ : ∃ k, N = k + 1 := ⟨N - 1, by omega⟩
    obtain rfl : k = 80 := by omega
    refine br_t (nI_le (a := 80) (b := 80) (by omega) (by decide)) ⟨81, ty_31 hn hy h 80 0 81 pa (by omega) (by omega) (fun q hq => ?_)⟩
    show (decide (q = 0) = true ∧ _) ∨ (¬ decide (q = 0) = true ∧ _)
    rw [h0 q hq]
    by_cases e : q = 0
    · exact Or.inl ⟨decide_eq_true e, if_pos e⟩
    · exact Or.inr ⟨by rw [decide_eq_true_eq]; exact e, if_neg e⟩
  | succ d ih =>
    intro k N pa hk hN h0
    obtain ⟨N, rfl⟩ : ∃ k, N = k + 1 := ⟨N - 1, by omega⟩
    have i80 : vp_in (nI k) 80 := vp_in_nI (by omega) (by decide)
    refine br_f (nI_ge (b := 80) (by omega) (by decide)) ?_
    by_cases c : k = 0
    · refine br_t (by rw [c]; rfl) ⟨i80, nm_r (tg_u rfl (by omega) tg_vb1) (nm_r (nI_1 k) (ih (k + 1) N _ (by omega) (by omega) (fun q hq => ?_)))⟩
      rw [show q = k from by omega, pk_us, if_pos c]
    · refine br_f (tg_neI (b := 0) c (by omega) (by decide)) ⟨i80, nm_r (tg_u rfl (by omega) tg_vb0) (nm_r (nI_1 k) (ih (k + 1) N _ (by omega) (by omega) (fun q hq => ?_)))⟩
      by_cases e : q = k
      · rw [e, pk_us, if_neg c]
      · rw [pk_un e]; exact h0 q (by omega)
theorem ty_sp {post : SY → Prop} (hn : n ≤ 16) (hy : tg_Dy n w dC yo yg le)
    (h : ∀ pa, tg_A pa (fun q => tg_sp w dC n 80 q = true) → post (bk, fk, lo, ex, vh, vw, oc, li, ll, sz, eT, va, rN, rC, rR, yo, yg, le, pa, st, qN, qT, qK, qA, on, cR, wa)) : wpY_spread post (bk, fk, lo, ex, vh, vw, oc, li, ll, sz, eT, va, rN, rC, rR, yo, yg, le, pa, st, qN, qT, qK, qA, on, cR, wa) :=
  ⟨81, ty_2 hn hy h 80 0 81 pa (by omega) (by omega) (fun q hq => absurd hq (by omega))⟩
theorem ty_out {post : Int32 → Prop} {i : Nat} (hn : n ≤ 16) (hy : tg_Dy n w dC yo yg le) (hi : i < n) (h : post (tg_bi (tg_out w dC n i))) : wpY_out post (bk, fk, lo, ex, vh, vw, oc, li, ll, sz, eT, va, rN, rC, rR, yo, yg, le, pa, st, qN, qT, qK, qA, on, cR, wa) (nI i) := by
  obtain ⟨hl, hy2⟩ := hy
  obtain ⟨w24, e1, e2⟩ := hy2 i hi
  have i80 : vp_in (64 + nI i) 80 := tg_vi (tg_64 i) (by omega) (by decide)
  have c64 : (64 + nI i).toNatClampNeg = 64 + i := by rw [tg_64, nI_clamp (by omega)]
  have j66 : (w i = 20 ∨ w i = 21 → tg_ind n (dC i) = true) → wY_out_66 post (nI i) (nI (w i)) bk fk lo ex vh vw oc li ll sz eT va rN rC rR yo yg le pa st qN qT qK qA on cR wa := by
    intro nj
    have nn : ∀ P : Prop, ((w i = 20 ∨ w i = 21) ∧ tg_ind n (dC i) = false) → P := fun P y => by
      have := nj y.1
      rw [y.2] at this
      exact absurd this (by decide)
    by_cases c20 : w i = 20
    · refine br_t (by rw [c20]; rfl) (tg_bi_f h (fun z => ?_))
      rcases tg_out_iff.mp z with y | y
      · exact nn _ y
      · exact y.1 c20
    refine br_f (tg_neI (b := 20) c20 (by omega) (by decide)) ?_
    by_cases c22 : 22 ≤ w i
    · refine br_t (nI_le (a := 22) c22 (by omega)) (tg_bi_f h (fun z => ?_))
      rcases tg_out_iff.mp z with y | y
      · exact nn _ y
      · omega
    refine br_f (nI_ge (b := 22) (by omega) (by decide)) ?_
    rw [hl, nI_1]
    by_cases c : i + 1 = n
    · exact br_t (by rw [c]) (tg_bi_t h (tg_out_iff.mpr (Or.inr ⟨c20, by omega, c⟩)))
    · refine br_f (tg_neI c (by omega) (by omega)) (tg_bi_f h (fun z => ?_))
      rcases tg_out_iff.mp z with y | y
      · exact nn _ y
      · exact c y.2.2
  have j27 : w i = 20 ∨ w i = 21 → wY_out_27 post (nI i) (nI (w i)) 1 bk fk lo ex vh vw oc li ll sz eT va rN rC rR yo yg le pa st qN qT qK qA on cR wa := by
    intro c
    refine br_f tg_d1 ⟨i80, ?_⟩
    rw [c64, e2]
    by_cases d0 : dC i < 0
    · refine br_t d0 (tg_bi_t h (tg_out_iff.mpr (Or.inl ⟨c, ?_⟩)))
      unfold tg_ind
      rw [decide_eq_false (Int64.not_le.mpr d0), Bool.false_and]
    · refine br_f d0 ⟨i80, ?_⟩
      rw [hl, nI_l (by omega)]
      by_cases d1 : lN n ≤ dC i
      · refine br_t d1 (tg_bi_t h (tg_out_iff.mpr (Or.inl ⟨c, ?_⟩)))
        unfold tg_ind
        rw [decide_eq_false (Int64.not_lt.mpr d1), Bool.and_false]
      · refine br_f d1 (j66 (fun _ => ?_))
        unfold tg_ind
        rw [decide_eq_true (Int64.not_lt.mp d0), decide_eq_true (Int64.not_le.mp d1)]
        rfl
  refine ⟨i80, nm_r (e' := nI (w i)) (by rw [c64]; exact e1) ?_⟩
  by_cases c20 : w i = 20
  · exact br_t (by rw [c20]; rfl) (j27 (Or.inl c20))
  refine br_f (tg_neI (b := 20) c20 (by omega) (by decide)) ?_
  by_cases c21 : w i = 21
  · exact br_t (by rw [c21]; rfl) (j27 (Or.inr c21))
  exact br_f (tg_neI (b := 21) c21 (by omega) (by decide)) (br_t rfl (j66 (fun z => by omega)))
theorem ty_fa_l {post : Int32 → Prop} {i : Nat} {R : Nat → Bool} (hn : n ≤ 16) (hy : tg_Dy n w dC yo yg le) (hi : i < n) (hA : tg_A pa (fun q => R q = true)) (h : post (tg_bi (tg_f w dC n R i))) :
    ∀ e d N, d + e = 5 → e < N → wY_faulty_7 post (nI i) bk fk lo ex vh vw oc li ll sz eT va rN rC rR yo yg le pa st qN qT qK qA on cR wa N (nI (tg_h R i d)) (tg_bi (tg_b w R i d)) (nI d) := by
  obtain ⟨w24, e1, e2⟩ := hy.2 i hi
  have i80 : vp_in (64 + nI i) 80 := tg_vi (tg_64 i) (by omega) (by decide)
  have c64 : (64 + nI i).toNatClampNeg = 64 + i := by rw [tg_64, nI_clamp (by omega)]
  intro e
  induction e with
  | zero =>
    intro d N hd hN
    obtain ⟨N, rfl⟩ : ∃ k, N = k + 1 := ⟨N - 1, by omega⟩
    obtain rfl : d = 5 := by omega
    have hl := tg_h_le (R := R) (i := i) 5
    refine br_t (by decide) ?_
    unfold tg_f at h
    by_cases hb : tg_b w R i 5 = true
    · rw [hb] at h ⊢
      rw [Bool.true_or, Bool.true_or] at h
      exact br_f tg_d1 h
    rw [tg_nf hb] at h ⊢
    rw [Bool.false_or] at h
    refine br_t rfl ?_
    by_cases c1 : 1 < tg_h R i 5
    · rw [decide_eq_true c1, Bool.true_or] at h
      exact br_t (nI_lt (a := 1) c1 (by omega)) h
    · rw [decide_eq_false c1, Bool.false_or] at h
      refine br_f (nI_nlt (a := 1) (b := tg_h R i 5) (by omega) (by decide)) ?_
      by_cases c2 : 0 < tg_h R i 5
      · rw [decide_eq_true c2, Bool.true_and] at h
        refine br_f (nI_nle c2 (by omega)) (ty_out hn hy hi ?_)
        by_cases o : tg_out w dC n i = true
        · rw [o]; exact br_f tg_d1 (tg_bi_t h o)
        · rw [tg_nf o]; exact br_t rfl (tg_bi_f h o)
      · rw [decide_eq_false c2, Bool.false_and] at h
        exact br_t (nI_le (b := 0) (by omega) (by decide)) h
  | succ e ih =>
    intro d N hd hN
    obtain ⟨N, rfl⟩ : ∃ k, N = k + 1 := ⟨N - 1, by omega⟩
    have c5 : (5 * nI i + nI d).toNatClampNeg = 5 * i + d := by rw [tg_5i, nI_clamp (by omega)]
    have z := tg_A_0 hA (q := 5 * i + d) (by omega)
    have I := ih (d + 1) N (by omega) (by omega)
    refine br_f (nI_ge (b := 5) (by omega) (by decide)) ⟨tg_vi (tg_5i i d) (by omega) (by decide), ?_⟩
    rw [c5]
    by_cases hR : R (5 * i + d) = true
    · have hh : tg_h R i (d + 1) = tg_h R i d + 1 := by
        show tg_h R i d + (if R (5 * i + d) = true then 1 else 0) = _
        rw [if_pos hR]
      have hb2 : tg_b w R i (d + 1) = (tg_b w R i d || !tg_fit (w i) d) := by
        show (tg_b w R i d || (R (5 * i + d) && !tg_fit (w i) d)) = _
        rw [hR, Bool.true_and]
      rw [hh, hb2] at I
      have tl := tg_tk_le (w i)
      have bad : ¬ tg_fit (w i) d = true → tg_bi (tg_b w R i d || !tg_fit (w i) d) = 1 := fun y => by rw [tg_nf y, Bool.not_false, Bool.or_true]; rfl
      refine br_f (fun y => z.mp y hR) (nm_r (nI_1 _) ⟨i80, ?_⟩)
      rw [c64, e1]
      refine ty_tk w24 ?_
      by_cases c1 : tg_tk (w i) ≤ d
      · refine br_f (nI_nlt c1 (by omega)) ⟨i80, ty_ch w24 ?_⟩
        rw [tg_ye_eq w24 c1]
        have y9 := tg_ye9 (o := w i) (d := d) (by omega)
        by_cases c2 : tg_ye (w i) d ≤ 4
        · have cf : tg_fit (w i) d = true := tg_fit_iff.mpr ⟨c1, (tg_ye4 (by omega)).mp c2⟩
          rw [cf, Bool.not_true, Bool.or_false] at I
          exact br_t (nI_le (b := 4) c2 (by decide)) (nm_r (nI_1 d) I)
        · rw [bad (fun y => c2 ((tg_ye4 (by omega)).mpr (tg_fit_iff.mp y).2))] at I
          exact br_f (nI_ge (a := 4) (by omega) (by omega)) (nm_r (nI_1 d) I)
      · rw [bad (fun y => c1 (tg_fit_iff.mp y).1)] at I
        exact br_t (nI_lt (by omega) (by omega)) (nm_r (nI_1 d) I)
    · have hh : tg_h R i (d + 1) = tg_h R i d := by
        show tg_h R i d + (if R (5 * i + d) = true then 1 else 0) = _
        rw [if_neg hR]; omega
      have hb2 : tg_b w R i (d + 1) = tg_b w R i d := by
        show (tg_b w R i d || (R (5 * i + d) && !tg_fit (w i) d)) = _
        rw [tg_nf hR]; simp
      rw [hh, hb2] at I
      exact br_t (z.mpr hR) (nm_r (nI_1 d) I)
theorem ty_fa {post : Int32 → Prop} {i : Nat} {R : Nat → Bool} (hn : n ≤ 16) (hy : tg_Dy n w dC yo yg le) (hi : i < n) (hA : tg_A pa (fun q => R q = true)) (h : post (tg_bi (tg_f w dC n R i))) : wpY_faulty post (bk, fk, lo, ex, vh, vw, oc, li, ll, sz, eT, va, rN, rC, rR, yo, yg, le, pa, st, qN, qT, qK, qA, on, cR, wa) (nI i) :=
  ⟨6, ty_fa_l hn hy hi hA h 5 0 6 (by omega) (by omega)⟩
end YK
end
section
/-! 20: deploy -/
def tg_ya (n r : Nat) : Int32 := if r < n then nI (16 + r) else 0
theorem tg_ya_n1 {n r : Nat} (hn : n ≤ 16) : ¬ tg_ya n r = -1 := by
  unfold tg_ya
  split
  · intro e
    have := nI_pos (n := 16 + r) (by omega)
    rw [e] at this
    exact this tg_nm1
  · decide
section DP
variable {bk : Int32} {lv : Int32} {ds : Int32} {fk : Int32} {lo : Int32} {ex : Int32} {ht : Int32} {vt : Int32} {vv : Int64} {rc : Int32} {rr : Int64} {ls : Nat → Int32} {eT : Nat → Int32} {eV : Nat → Int64} {rN : Nat → Int32} {rC : Nat → Int32} {rR : Nat → Int64} {dO : Nat → Int32} {dC : Nat → Int64} {tS : Nat → Int32} {tO : Nat → Int32} {tC : Nat → Int64} {re : Nat → Int32} {qN : Nat → Int32} {qT : Nat → Int32} {qK : Nat → Int32} {qA : Nat → Int32} {an : Nat → Int32} {cR : Nat → Int64} {sk : Nat → Int64} {vh : Int32} {vw : Int64} {oc : Int64} {li : Nat → Int32} {ll : Nat → Int32} {sz : Nat → Int32} {va : Nat → Int64} {yo : Nat → Int32} {yg : Nat → Int64} {le : Nat → Int32} {pa : Nat → Int32} {st : Nat → Int64} {on : Nat → Int32} {wa : Nat → Int32} {n : Nat} {w : Nat → Nat}
theorem ty_dl {post : Int32 → SY → Prop} {t : Nat} {R : Nat → Bool} (hn : n ≤ 16) (hy : tg_Dy n w dC yo yg le) (hA : tg_A pa (fun q => R q = true))
    (h : wY_deploy_70 post (nI t) (nI n) (tg_ya n (tg_lf (tg_f w dC n R) n n)) bk fk lo ex vh vw oc li ll sz eT va rN rC rR yo yg le pa st qN qT qK qA on cR wa) :
    ∀ m N, m ≤ n → m < N → wY_deploy_39 post (nI t) (nI n) bk fk lo ex vh vw oc li ll sz eT va rN rC rR yo yg le pa st qN qT qK qA on cR wa N (tg_ya n (tg_lf (tg_f w dC n R) n (n - m))) (nI m + (-1)) := by
  intro m
  induction m with
  | zero =>
    intro N hm hN
    obtain ⟨N, rfl⟩ : ∃ k, N = k + 1 := ⟨N - 1, by omega⟩
    exact br_t (by decide) h
  | succ m ih =>
    intro N hm hN
    obtain ⟨N, rfl⟩ : ∃ k, N = k + 1 := ⟨N - 1, by omega⟩
    have I := ih N (by omega) (by omega)
    have e : tg_lf (tg_f w dC n R) n (n - m) = if tg_f w dC n R m = true then m else tg_lf (tg_f w dC n R) n (n - (m + 1)) := by
      rw [show n - m = (n - (m + 1)) + 1 from by omega]
      show (if tg_f w dC n R (n - (n - (m + 1) + 1)) = true then n - (n - (m + 1) + 1) else _) = _
      rw [show n - (n - (m + 1) + 1) = m from by omega]
    rw [e] at I
    rw [pk_m1]
    refine br_f (nI_pos (by omega)) (br_f (tg_ya_n1 hn) (ty_fa hn hy (by omega) hA ?_))
    by_cases c : tg_f w dC n R m = true
    · rw [if_pos c] at I
      rw [c]
      refine br_f tg_d1 (nm_r (e' := tg_ya n m) ?_ (nm_e I))
      unfold tg_ya
      rw [if_pos (by omega)]
      exact nI_add 16 m
    · rw [if_neg c] at I
      rw [tg_nf c]
      exact br_t rfl (nm_e I)
theorem ty_dc {post : Int32 → SY → Prop} {t : Nat} {o0 : Nat → Int32} {c0 : Nat → Int64} (ht4 : t < 4) (hn : n ≤ 16) (hw : ∀ i, i < n → w i < 24 ∧ o0 (64 + i) = nI (w i))
    (h : ∀ yo yg, (∀ i, i < n → yo (16 * t + i) = o0 (64 + i) ∧ yg (16 * t + i) = c0 (64 + i)) → (∀ q, q < 16 * t ∨ 16 * t + 16 ≤ q → yo q = o0 q ∧ yg q = c0 q) → post 0 (bk, fk, lo, ex, vh, vw, oc, li, ll, sz, eT, va, rN, rC, rR, yo, yg, le, pa, st, qN, qT, qK, qA, on, cR, wa)) :
    ∀ d i N yo yg, i + d = n → d < N → (∀ j, j < i → yo (16 * t + j) = o0 (64 + j) ∧ yg (16 * t + j) = c0 (64 + j)) → (∀ q, q < 16 * t ∨ 16 * t + 16 ≤ q → yo q = o0 q ∧ yg q = c0 q) → wY_deploy_94 post (nI t) (nI n) bk fk lo ex vh vw oc N (nI i) li ll sz eT va rN rC rR yo yg le pa st qN qT qK qA on cR wa := by
  intro d
  induction d with
  | zero =>
    intro i N yo yg hi hN h1 h2
    obtain ⟨N, rfl⟩ : ∃ k, N = k + 1 := ⟨N - 1, by omega⟩
    obtain rfl : i = n := by omega
    exact br_t (nI_le (Nat.le_refl _) (by omega)) (h yo yg h1 h2)
  | succ d ih =>
    intro i N yo yg hi hN h1 h2
    obtain ⟨N, rfl⟩ : ∃ k, N = k + 1 := ⟨N - 1, by omega⟩
    have a80 : vp_in (64 + nI i) 80 := tg_vi (tg_64 i) (by omega) (by decide)
    have b80 : vp_in (16 * nI t + nI i) 80 := tg_vi (tg_16i t i) (by omega) (by decide)
    have c64 : (64 + nI i).toNatClampNeg = 64 + i := by rw [tg_64, nI_clamp (by omega)]
    obtain ⟨w24, ew⟩ := hw i (by omega)
    have s64 := h2 (64 + i) (by omega)
    refine br_f (nI_ge (by omega) (by omega)) ⟨a80, b80, nm_r (tg_u (w := o0 (64 + i)) (tg_16i t i) (by omega) (by rw [c64, s64.1, ew]; exact tg_vB (by omega))) ⟨a80, b80, nm_r (tg_uL (w := c0 (64 + i)) (tg_16i t i) (by omega) (by rw [c64, s64.2])) (nm_r (nI_1 i) (ih (i + 1) N _ _ (by omega) (by omega) (fun j hj => ?_) (fun q hq => ?_)))⟩⟩
    · by_cases e : j = i
      · rw [e, pk_us, pk_uLs]; exact ⟨rfl, rfl⟩
      · rw [pk_un (by omega), pk_uLn (by omega)]; exact h1 j (by omega)
    · rw [pk_un (by omega), pk_uLn (by omega)]; exact h2 q hq
theorem tg_T_keep {z t : Nat} {tO2 yo2 : Nat → Int32} {tC2 yg2 : Nat → Int64} (hz : z ≤ 16) (h : tg_T z t tO yo tC yg) (h1 : ∀ i, i < 16 → tO2 (16 * t + i) = tO (16 * t + i) ∧ tC2 (16 * t + i) = tC (16 * t + i)) (h2 : ∀ i, i < 16 → yo2 (16 * t + i) = yo (16 * t + i) ∧ yg2 (16 * t + i) = yg (16 * t + i)) : tg_T z t tO2 yo2 tC2 yg2 := by
  refine ⟨fun i hi => ?_, fun z0 => ?_⟩
  · have a := h.1 i hi
    have b := h1 i (by omega)
    have c := h2 i (by omega)
    rw [b.1, b.2, c.1, c.2]
    exact a
  · obtain ⟨w2, f1, f2⟩ := h.2 z0
    exact ⟨w2, fun i hi => by rw [(h2 i (by omega)).1]; exact f1 i hi, tg_Ver_c (fun i hi => (h2 i (by omega)).2.symm) f2⟩
end DP
theorem i_vc_deploy {k : Nat} {u : SX} {v : SY} (I : i_Rel k u v) (hk : k + 5 ≤ 2561) (v1 : Int32) : wpX_deploy (fun r u' => wpY_deploy (fun r' v' => r' = r ∧ i_Rel (k + 5) u' v') v v1) u v1 := by
  obtain ⟨bk, lv, ds, fk, lo, ex, ht, vt, vv, rc, rr, ls, eT, eV, rN, rC, rR, dO, dC, tS, tO, tC, re, qN, qT, qK, qA, an, cR, sk, vh, vw, oc, li, ll, sz, va, yo, yg, le, pa, st, on, wa, rfl, rfl, hC, hD, hP, hQ, hF⟩ := I
  obtain ⟨⟨n, hn, rfl, hl, hd⟩, hta⟩ := hP
  have hQ5 := tg_Q_up (d := 5) hQ
  -- a refused deployment
  have le4 : upd le 4 (vp_nar .byte 0) = upd le 4 0 := by rw [show vp_nar .byte (0 : Int32) = 0 from tg_vB (n := 0) (by decide)]
  have hP0 : tg_Pr 0 dO dC tS tO tC yo yg (upd le 4 0) := ⟨⟨0, by decide, rfl, pk_us, fun i hi => absurd hi (by omega)⟩, fun t h4 => by
    obtain ⟨z, hz, e1, e2, e3⟩ := hta t h4
    exact ⟨z, hz, e1, by rw [pk_un (by omega)]; exact e2, e3⟩⟩
  have bad : wY_deploy_20 (fun r' v' => r' = -1 ∧ i_Rel (k + 5) (bk, lv, 0, fk, lo, ex, ht, vt, vv, rc, rr, ls, eT, eV, rN, rC, rR, dO, dC, tS, tO, tC, re, qN, qT, qK, qA, an, cR, sk) v') v1 (nI n) bk fk lo ex vh vw oc li ll sz eT va rN rC rR yo yg le pa st qN qT qK qA on cR wa := by
    refine br_f (by decide) (nm_e ⟨1, ?_⟩)
    have Z : wY_deploy_70 (fun r' v' => r' = -1 ∧ i_Rel (k + 5) (bk, lv, 0, fk, lo, ex, ht, vt, vv, rc, rr, ls, eT, eV, rN, rC, rR, dO, dC, tS, tO, tC, re, qN, qT, qK, qA, an, cR, sk) v') v1 (nI n) (-1) bk fk lo ex vh vw oc li ll sz eT va rN rC rR yo yg le pa st qN qT qK qA on cR wa := nm_r le4 (br_f (by decide) ⟨rfl, i_mk hC hD hP0 hQ5 hF⟩)
    exact br_c (fun _ => Z) (fun _ => br_t rfl Z)
  rcases pk_ix v1 (n := 4) (by decide) with h | h | ⟨t, ht4, rfl⟩
  · exact br_t h (nm_r hl (br_t h bad))
  · have B := tg_big h (by decide)
    exact br_f B.1 (br_t h (nm_r hl (br_f B.1 (br_t (B.2 3 (by decide)).2 bad))))
  · have y1 : ¬ nI t < 0 := nI_pos (by omega)
    have y2 : ¬ (4 : Int32) ≤ nI t := nI_ge (b := 4) ht4 (by decide)
    have y3 : ¬ (3 : Int32) < nI t := nI_nlt (a := 3) (b := t) (by omega) (by decide)
    by_cases n0 : n = 0
    · subst n0
      exact br_f y1 (br_f y2 (br_t (by decide) (nm_r hl (br_f y1 (br_f y3 (br_t rfl bad))))))
    · have np : 0 < n := by omega
      -- the draft, read by both
      have hw : ∀ i, i < n → (dO i).toNatClampNeg < 24 ∧ dO i = nI (dO i).toNatClampNeg ∧ yo (64 + i) = nI (dO i).toNatClampNeg ∧ yg (64 + i) = dC i := by
        intro i hi
        obtain ⟨w, w24, a, b, c⟩ := hd i hi
        rw [a, nI_clamp (by omega)]
        exact ⟨w24, rfl, b, c⟩
      have hDr : tg_Dr n (fun i => (dO i).toNatClampNeg) dO := fun i hi => ⟨(hw i hi).1, (hw i hi).2.1⟩
      have hDy : tg_Dy n (fun i => (dO i).toNatClampNeg) dC yo yg le := ⟨hl, fun i hi => ⟨(hw i hi).1, (hw i hi).2.2.1, (hw i hi).2.2.2⟩⟩
      generalize hwd : (fun i => (dO i).toNatClampNeg) = w at hDr hDy
      have hlf := tg_lf_le (n := n) (f := tg_f w dC n (tg_sp w dC n 80)) n
      -- Y, from its start to what follows its check
      have Y : ∀ (post : Int32 → SY → Prop), (∀ pa, wY_deploy_70 post (nI t) (nI n) (tg_ya n (tg_lf (tg_f w dC n (tg_sp w dC n 80)) n n)) bk fk lo ex vh vw oc li ll sz eT va rN rC rR yo yg le pa st qN qT qK qA on cR wa) → wpY_deploy post (bk, fk, lo, ex, vh, vw, oc, li, ll, sz, eT, va, rN, rC, rR, yo, yg, le, pa, st, qN, qT, qK, qA, on, cR, wa) (nI t) := by
        intro post hp
        refine nm_r hl (br_f y1 (br_f y3 (br_f (nI_ne0 np (by omega)) (br_t rfl (ty_sp hn hDy (fun pa2 hA => nm_r (e' := nI n + (-1)) ?_ ⟨n + 1, ?_⟩))))))
        · rw [tg_m1s np]; exact pk_sub (b := 1) np
        · have L := ty_dl (t := t) hn hDy hA (hp pa2) n (n + 1) (Nat.le_refl _) (by omega)
          rw [Nat.sub_self] at L
          rw [show tg_ya n (tg_lf (tg_f w dC n (tg_sp w dC n 80)) n 0) = 0 from if_neg (Nat.lt_irrefl n)] at L
          exact L
      refine br_f y1 (br_f y2 (br_f (nI_nle np (by omega)) ?_))
      refine tx_fr np hn hDr (fun re2 hA => ?_)
      refine tx_lf hn hDr hA ?_
      by_cases c : tg_lf (tg_f w dC n (tg_sp w dC n 80)) n n < n
      · refine br_f (nI_ge c (by omega)) (nm_r (e' := nI (16 + tg_lf (tg_f w dC n (tg_sp w dC n 80)) n n)) (nI_add 16 _) (Y _ (fun pa2 => ?_)))
        rw [show tg_ya n (tg_lf (tg_f w dC n (tg_sp w dC n 80)) n n) = nI (16 + tg_lf (tg_f w dC n (tg_sp w dC n 80)) n n) from if_pos c]
        exact nm_r le4 (br_f (nI_ne0 (by omega) (by omega)) ⟨rfl, i_mk hC hD hP0 hQ5 hF⟩)
      · have cn : tg_lf (tg_f w dC n (tg_sp w dC n 80)) n n = n := by omega
        have ver : tg_Ver w dC n := tg_ver np hn (fun i hi => tg_lf_n n (Nat.le_refl _) cn i (by omega) hi)
        refine br_t (nI_le (by omega) (by omega)) (tx_td ht4 (fun tO2 tC2 x1 x2 => Y _ (fun pa2 => ?_)))
        rw [show tg_ya n (tg_lf (tg_f w dC n (tg_sp w dC n 80)) n n) = 0 from if_neg c]
        refine nm_r le4 (br_t rfl ⟨vp_in_nI (by omega) (by decide), nm_r (tg_u rfl (by omega) (tg_vB2 (by omega))) ⟨n + 1, ?_⟩⟩)
        refine ty_dc (o0 := yo) (c0 := yg) (w := w) ht4 hn (fun i hi => ⟨(hDr i hi).1, (hDy.2 i hi).2.1⟩) (fun yo2 yg2 z1 z2 => ?_) n 0 (n + 1) yo yg (by omega) (by omega) (fun j hj => absurd hj (by omega)) (fun q _ => ⟨rfl, rfl⟩)
        refine ⟨rfl, i_mk hC hD ⟨⟨0, by decide, rfl, by rw [pk_un (by omega), pk_us]; rfl, fun i hi => absurd hi (by omega)⟩, fun t2 h4 => ?_⟩ hQ5 hF⟩
        by_cases e : t2 = t
        · subst e
          refine ⟨n, hn, pk_us, pk_us, fun i hi => ?_, fun _ => ⟨w, fun i hi => ?_, tg_Ver_c (fun i hi => ?_) ver⟩⟩
          · rw [(x1 i (by omega)).1, (x1 i (by omega)).2, (z1 i hi).1, (z1 i hi).2, (hDy.2 i hi).2.1, (hDy.2 i hi).2.2, (hDr i hi).2]
            exact ⟨rfl, rfl⟩
          · rw [(z1 i hi).1, (hDy.2 i hi).2.1]
            exact ⟨(hDr i hi).1, rfl⟩
          · rw [(z1 i hi).2, (hDy.2 i hi).2.2]
        · obtain ⟨z, hz, e1, e2, e3⟩ := hta t2 h4
          refine ⟨z, hz, by rw [pk_un e]; exact e1, by rw [pk_un e, pk_un (by omega)]; exact e2, tg_T_keep hz e3 (fun i hi => x2 _ (by omega)) (fun i hi => z2 _ (by omega))⟩
end
