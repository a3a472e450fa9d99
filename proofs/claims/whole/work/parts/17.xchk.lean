/-! 17: the check of a draft, X (begun by gendep.py) -/
theorem tg_tk_le (o : Nat) : tg_tk o ≤ 2 := by unfold tg_tk; split <;> (try split) <;> omega
theorem tg_gv_le (o : Nat) : tg_gv o ≤ 2 := by unfold tg_gv; split <;> (try split) <;> omega
theorem tg_tk_b {o : Nat} (h : 4 ≤ o ∧ o ≤ 14) : tg_tk o = 2 := if_pos (Or.inl h)
theorem tg_gv_b {o : Nat} (h : 4 ≤ o ∧ o ≤ 14) : tg_gv o = 1 := by unfold tg_gv; rw [if_neg (by omega), if_pos (by omega)]
theorem tg_nb {o : Nat} (ho : o < 24) (h : ¬ (4 ≤ o ∧ o ≤ 14)) : o = 0 ∨ o = 1 ∨ o = 2 ∨ o = 3 ∨ o = 15 ∨ o = 16 ∨ o = 17 ∨ o = 18 ∨ o = 19 ∨ o = 20 ∨ o = 21 ∨ o = 22 ∨ o = 23 := by omega
theorem tx_tk {post : Int32 → Prop} {o : Nat} (ho : o < 24) (h : post (nI (tg_tk o))) : wpX_takenBy post (nI o) := by
  unfold wpX_takenBy
  by_cases b : 4 ≤ o ∧ o ≤ 14
  · rw [tg_tk_b b] at h
    exact xb1 b.1 b.2 (br_f tg_d1 h)
  · rcases tg_nb ho b with rfl | rfl | rfl | rfl | rfl | rfl | rfl | rfl | rfl | rfl | rfl | rfl | rfl
    · exact xb0 (by decide) (br_t rfl (br_f (by decide) (br_f (by decide) (br_f (by decide) (br_f (by decide) (br_f (by decide) (br_f (by decide) (br_t rfl h))))))))
    · exact xb0 (by decide) (br_t rfl (br_f (by decide) (br_f (by decide) (br_f (by decide) (br_f (by decide) (br_f (by decide) (br_f (by decide) (br_t rfl h))))))))
    · exact xb0 (by decide) (br_t rfl (br_f (by decide) (br_f (by decide) (br_f (by decide) (br_f (by decide) (br_f (by decide) (br_f (by decide) (br_t rfl h))))))))
    · exact xb0 (by decide) (br_t rfl (br_f (by decide) (br_f (by decide) (br_f (by decide) (br_f (by decide) (br_f (by decide) (br_f (by decide) (br_t rfl h))))))))
    · exact xb0 (by decide) (br_t rfl (br_f (by decide) (br_t (by decide) (br_f (by decide) h))))
    · exact xb0 (by decide) (br_t rfl (br_t (by decide) (h)))
    · exact xb0 (by decide) (br_t rfl (br_f (by decide) (br_f (by decide) (br_t (by decide) (br_f (by decide) h)))))
    · exact xb0 (by decide) (br_t rfl (br_f (by decide) (br_f (by decide) (br_f (by decide) (br_t (by decide) (br_f (by decide) h))))))
    · exact xb0 (by decide) (br_t rfl (br_f (by decide) (br_f (by decide) (br_f (by decide) (br_f (by decide) (br_f (by decide) (br_f (by decide) (br_t rfl h))))))))
    · exact xb0 (by decide) (br_t rfl (br_f (by decide) (br_f (by decide) (br_f (by decide) (br_f (by decide) (br_f (by decide) (br_f (by decide) (br_t rfl h))))))))
    · exact xb0 (by decide) (br_t rfl (br_f (by decide) (br_f (by decide) (br_f (by decide) (br_f (by decide) (br_t (by decide) (br_f (by decide) h)))))))
    · exact xb0 (by decide) (br_t rfl (br_f (by decide) (br_f (by decide) (br_f (by decide) (br_f (by decide) (br_f (by decide) (br_f (by decide) (br_t rfl h))))))))
    · exact xb0 (by decide) (br_t rfl (br_f (by decide) (br_f (by decide) (br_f (by decide) (br_f (by decide) (br_f (by decide) (br_t (by decide) (br_f (by decide) h))))))))
theorem tx_gv {post : Int32 → Prop} {o : Nat} (ho : o < 24) (h : post (nI (tg_gv o))) : wpX_givenBy post (nI o) := by
  by_cases b : 4 ≤ o ∧ o ≤ 14
  · rw [tg_gv_b b] at h
    exact br_f (tg_neI (b := 15) (by omega) (by omega) (by decide)) (br_f (tg_neI (b := 16) (by omega) (by omega) (by decide)) (br_f (nI_ge (a := 3) (b := o) (by omega) (by omega)) (xb1 b.1 b.2 (br_f tg_d1 (br_f tg_d1 h)))))
  · rcases tg_nb ho b with rfl | rfl | rfl | rfl | rfl | rfl | rfl | rfl | rfl | rfl | rfl | rfl | rfl
    · exact br_f (by decide) (br_f (by decide) (br_t (by decide) (br_f tg_d1 h)))
    · exact br_f (by decide) (br_f (by decide) (br_t (by decide) (br_f tg_d1 h)))
    · exact br_f (by decide) (br_f (by decide) (br_t (by decide) (br_f tg_d1 h)))
    · exact br_f (by decide) (br_f (by decide) (br_t (by decide) (br_f tg_d1 h)))
    · exact br_t (by decide) (h)
    · exact br_f (by decide) (br_t (by decide) (h))
    · exact br_f (by decide) (br_f (by decide) (br_f (by decide) (xb0 (by decide) (br_t rfl (br_t rfl h)))))
    · exact br_f (by decide) (br_f (by decide) (br_f (by decide) (xb0 (by decide) (br_t rfl (br_t rfl h)))))
    · exact br_f (by decide) (br_f (by decide) (br_f (by decide) (xb0 (by decide) (br_t rfl (br_t rfl h)))))
    · exact br_f (by decide) (br_f (by decide) (br_f (by decide) (xb0 (by decide) (br_t rfl (br_t rfl h)))))
    · exact br_f (by decide) (br_f (by decide) (br_f (by decide) (xb0 (by decide) (br_t rfl (br_t rfl h)))))
    · exact br_f (by decide) (br_f (by decide) (br_f (by decide) (xb0 (by decide) (br_t rfl (br_t rfl h)))))
    · exact br_f (by decide) (br_f (by decide) (br_f (by decide) (xb0 (by decide) (br_t rfl (br_t rfl h)))))
def tg_ha (o d : Nat) : Int32 := if tg_fit o d = true then nI (tg_e o d) else -1
theorem tg_fit_iff {o d : Nat} : tg_fit o d = true ↔ tg_tk o ≤ d ∧ tg_e o d ≤ 4 := by
  unfold tg_fit
  rw [Bool.and_eq_true, decide_eq_true_eq, decide_eq_true_eq]
theorem tx_ha {post : Int32 → Prop} {o d : Nat} (ho : o < 24) (hd : d < 5) (h : post (tg_ha o d)) : wpX_heightAfter post (nI o) (nI d) := by
  have a := tg_tk_le o
  have b := tg_gv_le o
  unfold wpX_heightAfter
  refine tx_tk ho (tx_gv ho (nm_e ?_))
  unfold tg_ha at h
  by_cases c : tg_tk o ≤ d
  · have e : (nI d - nI (tg_tk o)) + nI (tg_gv o) = nI (tg_e o d) := by rw [pk_sub c, nI_add]; rfl
    refine br_f (nI_nlt c (by omega)) ?_
    rw [e]
    have e9 : tg_e o d < 9 := by unfold tg_e; omega
    by_cases f : tg_e o d ≤ 4
    · rw [if_pos (tg_fit_iff.mpr ⟨c, f⟩)] at h
      exact br_t (nI_le (b := 4) f (by decide)) h
    · rw [if_neg (fun z => f (tg_fit_iff.mp z).2)] at h
      exact br_f (nI_ge (a := 4) (by omega) (by omega)) h
  · rw [if_neg (fun z => c (tg_fit_iff.mp z).1)] at h
    exact br_t (nI_lt (by omega) (by omega)) h
/-- the pairs of an array -/
def tg_A (re : Nat → Int32) (P : Nat → Prop) : Prop := ∀ q, q < 80 → (P q ∧ re q = 1) ∨ (¬ P q ∧ re q = 0)
theorem tg_A_c {re : Nat → Int32} {P Q : Nat → Prop} (h : tg_A re P) (e : ∀ q, q < 80 → (P q ↔ Q q)) : tg_A re Q := by
  intro q hq
  rcases h q hq with ⟨a, b⟩ | ⟨a, b⟩
  · exact Or.inl ⟨(e q hq).mp a, b⟩
  · exact Or.inr ⟨fun z => a ((e q hq).mpr z), b⟩
theorem tg_A_u {re : Nat → Int32} {P : Nat → Prop} {k : Nat} (h : tg_A re P) : tg_A (upd re k 1) (fun q => P q ∨ q = k) := by
  intro q hq
  by_cases e : q = k
  · exact Or.inl ⟨Or.inr e, by rw [e, pk_us]⟩
  · rw [pk_un e]
    rcases h q hq with ⟨a, b⟩ | ⟨a, b⟩
    · exact Or.inl ⟨Or.inl a, b⟩
    · exact Or.inr ⟨fun z => z.elim a e, b⟩
theorem tg_A_0 {re : Nat → Int32} {P : Nat → Prop} {q : Nat} (h : tg_A re P) (hq : q < 80) : re q = 0 ↔ ¬ P q := by
  rcases h q hq with ⟨a, b⟩ | ⟨a, b⟩
  · rw [b]; exact ⟨fun z => absurd z tg_d1, fun z => absurd a z⟩
  · exact ⟨fun _ => a, fun _ => b⟩
theorem tg_s_iff {w : Nat → Nat} {c : Nat → Int64} {n k q : Nat} {R : Nat → Bool} : tg_s w c n R k q = true ↔ R q = true ∨ (R k = true ∧ tg_fit (w (k / 5)) (k % 5) = true ∧ q / 5 < n ∧ tg_nx w c (k / 5) (q / 5) = true ∧ q % 5 = tg_e (w (k / 5)) (k % 5)) := by
  unfold tg_s
  simp only [Bool.or_eq_true, Bool.and_eq_true, decide_eq_true_eq, and_assoc]
theorem tg_nx_iff {w : Nat → Nat} {c : Nat → Int64} {i j : Nat} : tg_nx w c i j = true ↔ (w i ≠ 20 ∧ w i < 22 ∧ j = i + 1) ∨ ((w i = 20 ∨ w i = 21) ∧ c i = lN j) := by
  unfold tg_nx
  simp only [Bool.or_eq_true, Bool.and_eq_true, decide_eq_true_eq, and_assoc]
section XK
variable {bk : Int32} {lv : Int32} {ds : Int32} {fk : Int32} {lo : Int32} {ex : Int32} {ht : Int32} {vt : Int32} {vv : Int64} {rc : Int32} {rr : Int64} {ls : Nat → Int32} {eT : Nat → Int32} {eV : Nat → Int64} {rN : Nat → Int32} {rC : Nat → Int32} {rR : Nat → Int64} {dO : Nat → Int32} {dC : Nat → Int64} {tS : Nat → Int32} {tO : Nat → Int32} {tC : Nat → Int64} {re : Nat → Int32} {qN : Nat → Int32} {qT : Nat → Int32} {qK : Nat → Int32} {qA : Nat → Int32} {an : Nat → Int32} {cR : Nat → Int64} {sk : Nat → Int64} {vh : Int32} {vw : Int64} {oc : Int64} {li : Nat → Int32} {ll : Nat → Int32} {sz : Nat → Int32} {va : Nat → Int64} {yo : Nat → Int32} {yg : Nat → Int64} {le : Nat → Int32} {pa : Nat → Int32} {st : Nat → Int64} {on : Nat → Int32} {wa : Nat → Int32} {n : Nat} {w : Nat → Nat}
theorem tg_ind_iff {x : Int64} (hn : n ≤ 16) : tg_ind n x = true ↔ ∃ j, j < n ∧ x = lN j := by
  constructor
  · exact tg_ind_e (by omega)
  · rintro ⟨j, hj, rfl⟩
    unfold tg_ind
    rw [Bool.and_eq_true, decide_eq_true_eq, decide_eq_true_eq]
    exact ⟨(pk_lLE (a := 0) (by decide) (by omega)).mpr (by omega), (pk_lLT (by omega) (by omega)).mpr hj⟩
theorem tx_id1 {post : Int32 → Prop} {j : Nat} (hn : n ≤ 16) (hj : j < n) (h : post 1) : wpX_isInDraft post (bk, lv, (nI n), fk, lo, ex, ht, vt, vv, rc, rr, ls, eT, eV, rN, rC, rR, dO, dC, tS, tO, tC, re, qN, qT, qK, qA, an, cR, sk) (lN j) := by
  refine br_f (fun z => ?_) (br_f (fun z => ?_) h)
  · have := (pk_lLT (a := j) (b := 0) (by omega) (by decide)).mp z; omega
  · rw [nI_l (by omega)] at z
    have := (pk_lLE (by omega) (by omega)).mp z; omega
theorem tx_id0 {post : Int32 → Prop} {x : Int64} (hn : n ≤ 16) (hx : tg_ind n x = false) (h : post 0) : wpX_isInDraft post (bk, lv, (nI n), fk, lo, ex, ht, vt, vv, rc, rr, ls, eT, eV, rN, rC, rR, dO, dC, tS, tO, tC, re, qN, qT, qK, qA, an, cR, sk) x := by
  by_cases z : x < 0
  · exact br_t z h
  · refine br_f z (br_t ?_ h)
    rw [nI_l (by omega)]
    unfold tg_ind at hx
    rw [decide_eq_true (Int64.not_lt.mp z), Bool.true_and, decide_eq_false_iff_not] at hx
    exact Int64.not_lt.mp hx
theorem tg_j5 (j e : Nat) : nI j * 5 + nI e = nI (5 * j + e) := by
  have h : nI j * 5 = nI (j * 5) := pk_mul j 5
  rw [h, nI_add, Nat.mul_comm]
theorem tx_reach {post : SX → Prop} {x : Int64} {e : Nat} {P : Nat → Prop} (hn : n ≤ 16) (he : e ≤ 4) (hA : tg_A re P)
    (h : ∀ re, tg_A re (fun q => P q ∨ (q / 5 < n ∧ x = lN (q / 5) ∧ q % 5 = e)) → post (bk, lv, (nI n), fk, lo, ex, ht, vt, vv, rc, rr, ls, eT, eV, rN, rC, rR, dO, dC, tS, tO, tC, re, qN, qT, qK, qA, an, cR, sk)) : wpX_reach post (bk, lv, (nI n), fk, lo, ex, ht, vt, vv, rc, rr, ls, eT, eV, rN, rC, rR, dO, dC, tS, tO, tC, re, qN, qT, qK, qA, an, cR, sk) x (nI e) := by
  unfold wpX_reach
  by_cases c : tg_ind n x = true
  · obtain ⟨j, hj, rfl⟩ := (tg_ind_iff hn).mp c
    have ee : (lN j).toInt32 * 5 + nI e = nI (5 * j + e) := by rw [lN_i, tg_j5]
    refine tx_id1 hn hj (br_f tg_d1 (br_f (nI_pos (by omega)) (br_f (nI_nlt (a := 4) (b := e) (by omega) (by decide)) ⟨tg_vi ee (by omega) (by decide), nm_r (tg_u ee (by omega) tg_vb1) (h _ (tg_A_c (tg_A_u hA) (fun q hq => ?_)))⟩)))
    constructor
    · rintro (z | z)
      · exact Or.inl z
      · refine Or.inr ⟨by omega, ?_, by omega⟩
        rw [show q / 5 = j from by omega]
    · rintro (z | ⟨z1, z2, z3⟩)
      · exact Or.inl z
      · have := (pk_lEQ (by omega) (by omega)).mp z2
        exact Or.inr (by omega)
  · refine tx_id0 hn (tg_nf c) (br_t rfl (h _ (tg_A_c hA (fun q hq => ⟨Or.inl, ?_⟩))))
    rintro (z | ⟨z1, z2, z3⟩)
    · exact z
    · exact absurd ((tg_ind_iff hn).mpr ⟨q / 5, z1, z2⟩) c
/-- the draft, as both sides read it -/
def tg_Dr (n : Nat) (w : Nat → Nat) (dO : Nat → Int32) : Prop := ∀ i, i < n → w i < 24 ∧ dO i = nI (w i)
theorem tx_rn {post : SX → Prop} {R : Nat → Bool} {k : Nat} (hn : n ≤ 16) (hw : tg_Dr n w dO) (hk : k < 5 * n) (hR : R k = true) (hA : tg_A re (fun q => R q = true))
    (h : ∀ re, tg_A re (fun q => tg_s w dC n R k q = true) → post (bk, lv, (nI n), fk, lo, ex, ht, vt, vv, rc, rr, ls, eT, eV, rN, rC, rR, dO, dC, tS, tO, tC, re, qN, qT, qK, qA, an, cR, sk)) : wpX_reachNext post (bk, lv, (nI n), fk, lo, ex, ht, vt, vv, rc, rr, ls, eT, eV, rN, rC, rR, dO, dC, tS, tO, tC, re, qN, qT, qK, qA, an, cR, sk) (nI (k / 5)) (nI (k % 5)) := by
  obtain ⟨w24, hdO⟩ := hw (k / 5) (by omega)
  have i16 : vp_in (nI (k / 5)) 16 := vp_in_nI (by omega) (by decide)
  have cl : (nI (k / 5)).toNatClampNeg = k / 5 := nI_clamp (by omega)
  have d5 : k % 5 < 5 := Nat.mod_lt _ (by decide)
  have same : (∀ q, q < 80 → ¬ (tg_fit (w (k / 5)) (k % 5) = true ∧ q / 5 < n ∧ tg_nx w dC (k / 5) (q / 5) = true ∧ q % 5 = tg_e (w (k / 5)) (k % 5))) → post (bk, lv, (nI n), fk, lo, ex, ht, vt, vv, rc, rr, ls, eT, eV, rN, rC, rR, dO, dC, tS, tO, tC, re, qN, qT, qK, qA, an, cR, sk) := by
    intro z
    refine h _ (tg_A_c hA (fun q hq => ?_))
    rw [tg_s_iff]
    exact ⟨Or.inl, fun y => y.elim id (fun y => absurd y.2 (z q hq))⟩
  refine ⟨i16, nm_r (by rw [cl]; exact hdO) (tx_ha w24 d5 ?_)⟩
  by_cases c22 : w (k / 5) = 22
  · refine br_t (by rw [c22]; rfl) (same (fun q _ z => ?_))
    have := tg_nx_iff.mp z.2.2.1
    omega
  refine br_f (tg_neI (b := 22) c22 (by omega) (by decide)) ?_
  by_cases c23 : w (k / 5) = 23
  · refine br_t (by rw [c23]; rfl) (same (fun q _ z => ?_))
    have := tg_nx_iff.mp z.2.2.1
    omega
  refine br_f (tg_neI (b := 23) c23 (by omega) (by decide)) ?_
  by_cases cf : tg_fit (w (k / 5)) (k % 5) = true
  · have e4 := (tg_fit_iff.mp cf).2
    have ha : tg_ha (w (k / 5)) (k % 5) = nI (tg_e (w (k / 5)) (k % 5)) := if_pos cf
    rw [ha]
    refine br_f (fun z => ?_) ?_
    · have := nI_pos (n := tg_e (w (k / 5)) (k % 5)) (by omega)
      rw [z] at this
      exact this tg_nm1
    have fin : ∀ P : Nat → Prop, (∀ q, q < 80 → (P q ↔ (R q = true ∨ (q / 5 < n ∧ tg_nx w dC (k / 5) (q / 5) = true ∧ q % 5 = tg_e (w (k / 5)) (k % 5))))) → ∀ re, tg_A re P → post (bk, lv, (nI n), fk, lo, ex, ht, vt, vv, rc, rr, ls, eT, eV, rN, rC, rR, dO, dC, tS, tO, tC, re, qN, qT, qK, qA, an, cR, sk) := by
      intro P hP re2 h2
      refine h _ (tg_A_c h2 (fun q hq => ?_))
      rw [tg_s_iff, hP q hq]
      constructor
      · rintro (z | z)
        · exact Or.inl z
        · exact Or.inr ⟨hR, cf, z⟩
      · rintro (z | z)
        · exact Or.inl z
        · exact Or.inr z.2.2
    by_cases c20 : w (k / 5) = 20
    · refine br_t (by rw [c20]; rfl) (br_t (by rw [c20]; rfl) ⟨i16, ?_⟩)
      rw [cl]
      refine tx_reach hn e4 hA (fun re2 h2 => fin _ (fun q hq => ?_) re2 h2)
      rw [tg_nx_iff]
      constructor
      · rintro (z | z)
        · exact Or.inl z
        · exact Or.inr ⟨z.1, Or.inr ⟨Or.inl c20, z.2.1⟩, z.2.2⟩
      · rintro (z | ⟨z1, z2, z3⟩)
        · exact Or.inl z
        · exact Or.inr ⟨z1, z2.elim (fun y => absurd c20 y.1) (fun y => y.2), z3⟩
    · refine br_f (tg_neI (b := 20) c20 (by omega) (by decide)) ?_
      have ei : (nI (k / 5) + 1).toInt64 = lN (k / 5 + 1) := by rw [nI_1, nI_l (by omega)]
      rw [ei]
      refine tx_reach hn e4 hA (fun re2 h2 => ?_)
      refine br_f (tg_neI (b := 20) c20 (by omega) (by decide)) ?_
      by_cases c21 : w (k / 5) = 21
      · refine br_t (by rw [c21]; rfl) ⟨i16, ?_⟩
        rw [cl]
        refine tx_reach hn e4 h2 (fun re3 h3 => fin _ (fun q hq => ?_) re3 h3)
        rw [tg_nx_iff]
        constructor
        · rintro ((z | z) | z)
          · exact Or.inl z
          · have := (pk_lEQ (by omega) (by omega)).mp z.2.1
            exact Or.inr ⟨z.1, Or.inl ⟨c20, by omega, by omega⟩, z.2.2⟩
          · exact Or.inr ⟨z.1, Or.inr ⟨Or.inr c21, z.2.1⟩, z.2.2⟩
        · rintro (z | ⟨z1, z2, z3⟩)
          · exact Or.inl (Or.inl z)
          · rcases z2 with y | y
            · exact Or.inl (Or.inr ⟨z1, by rw [y.2.2], z3⟩)
            · exact Or.inr ⟨z1, y.2, z3⟩
      · refine br_f (tg_neI (b := 21) c21 (by omega) (by decide)) (fin _ (fun q hq => ?_) re2 h2)
        rw [tg_nx_iff]
        constructor
        · rintro (z | z)
          · exact Or.inl z
          · have := (pk_lEQ (by omega) (by omega)).mp z.2.1
            exact Or.inr ⟨z.1, Or.inl ⟨c20, by omega, by omega⟩, z.2.2⟩
        · rintro (z | ⟨z1, z2, z3⟩)
          · exact Or.inl z
          · rcases z2 with y | y
            · exact Or.inr ⟨z1, by rw [y.2.2], z3⟩
            · exact absurd y.1 (by omega)
  · have ha : tg_ha (w (k / 5)) (k % 5) = -1 := if_neg cf
    rw [ha]
    exact br_t rfl (same (fun q _ z => cf z.1))
end XK
