/-! 18: the check of a draft, X: its loops -/
def tg_rk (w : Nat → Nat) (c : Nat → Int64) (n : Nat) (S : Nat → Bool) (k : Nat) : Nat → Bool := if k ≤ 5 * n then tg_r w c n S k else tg_r w c n S (5 * n)
section XL
variable {bk : Int32} {lv : Int32} {ds : Int32} {fk : Int32} {lo : Int32} {ex : Int32} {ht : Int32} {vt : Int32} {vv : Int64} {rc : Int32} {rr : Int64} {ls : Nat → Int32} {eT : Nat → Int32} {eV : Nat → Int64} {rN : Nat → Int32} {rC : Nat → Int32} {rR : Nat → Int64} {dO : Nat → Int32} {dC : Nat → Int64} {tS : Nat → Int32} {tO : Nat → Int32} {tC : Nat → Int64} {re : Nat → Int32} {qN : Nat → Int32} {qT : Nat → Int32} {qK : Nat → Int32} {qA : Nat → Int32} {an : Nat → Int32} {cR : Nat → Int64} {sk : Nat → Int64} {vh : Int32} {vw : Int64} {oc : Int64} {li : Nat → Int32} {ll : Nat → Int32} {sz : Nat → Int32} {va : Nat → Int64} {yo : Nat → Int32} {yg : Nat → Int64} {le : Nat → Int32} {pa : Nat → Int32} {st : Nat → Int64} {on : Nat → Int32} {wa : Nat → Int32} {n : Nat} {w : Nat → Nat}
theorem tg_rk_le {c : Nat → Int64} {S : Nat → Bool} {k : Nat} (h : k ≤ 5 * n) : tg_rk w c n S k = tg_r w c n S k := if_pos h
theorem tg_rk_gt {c : Nat → Int64} {S : Nat → Bool} {k : Nat} (h : 5 * n ≤ k) : tg_rk w c n S k = tg_r w c n S (5 * n) := by
  by_cases e : k = 5 * n
  · rw [e]; exact if_pos (Nat.le_refl _)
  · exact if_neg (by omega)
theorem tg_s_id {c : Nat → Int64} {R : Nat → Bool} {k : Nat} (h : ¬ R k = true) : tg_s w c n R k = R := by
  funext q
  unfold tg_s
  rw [tg_nf h]
  simp
theorem tx_38 {post : SX → Prop} {J : Int32 → Int32 → Int32 → Int32 → Int32 → Int32 → Int32 → Int32 → Int32 → Int64 → Int32 → Int64 → (Nat → Int32) → (Nat → Int32) → (Nat → Int64) → (Nat → Int32) → (Nat → Int32) → (Nat → Int64) → (Nat → Int32) → (Nat → Int64) → (Nat → Int32) → (Nat → Int32) → (Nat → Int64) → (Nat → Int32) → (Nat → Int32) → (Nat → Int32) → (Nat → Int32) → (Nat → Int32) → (Nat → Int32) → (Nat → Int64) → (Nat → Int64) → Prop} {r : Nat} (hn0 : 0 < n) (hn : n ≤ 16) (hw : tg_Dr n w dO)
    (hJ : ∀ re, tg_A re (fun q => tg_sp w dC n (r + 1) q = true) → J (nI (r + 1)) bk lv (nI n) fk lo ex ht vt vv rc rr ls eT eV rN rC rR dO dC tS tO tC re qN qT qK qA an cR sk) :
    ∀ d k N re, k + d = 80 → d < N → tg_A re (fun q => tg_rk w dC n (tg_sp w dC n r) k q = true) → wX_findReached_38 post J (nI r) N (nI k) bk lv (nI n) fk lo ex ht vt vv rc rr ls eT eV rN rC rR dO dC tS tO tC re qN qT qK qA an cR sk := by
  intro d
  induction d with
  | zero =>
    intro k N re hk hN hA
    obtain ⟨N, rfl⟩ : ∃ k, N = k + 1 := ⟨N - 1, by omega⟩
    obtain rfl : k = 80 := by omega
    rw [tg_rk_gt (by omega)] at hA
    exact br_t (nI_le (a := 80) (b := 80) (by omega) (by decide)) (nm_r (nI_1 r) (hJ re hA))
  | succ d ih =>
    intro k N re hk hN hA
    obtain ⟨N, rfl⟩ : ∃ k, N = k + 1 := ⟨N - 1, by omega⟩
    have cl : (nI k).toNatClampNeg = k := nI_clamp (by omega)
    have z := tg_A_0 hA (q := k) (by omega)
    refine br_f (nI_ge (b := 80) (by omega) (by decide)) ⟨vp_in_nI (by omega) (by decide), ?_⟩
    rw [cl]
    by_cases c : k < 5 * n
    · rw [tg_rk_le (by omega)] at hA z
      by_cases hR : tg_r w dC n (tg_sp w dC n r) k k = true
      · have e1 : nI k / 5 = nI (k / 5) := pk_div (d := 5) (by omega) (by decide) (by decide)
        have e2 : nI k - nI k / 5 * 5 = nI (k % 5) := pk_rem (d := 5) (by omega) (by decide) (by decide)
        refine br_f (fun y => z.mp y hR) ⟨tg_d5, tg_d5, ?_⟩
        rw [e2, e1]
        exact tx_rn hn hw c hR hA (fun re2 h2 => nm_r (nI_1 k) (ih (k + 1) N re2 (by omega) (by omega) (by rw [tg_rk_le (by omega)]; exact h2)))
      · refine br_t (z.mpr hR) (nm_r (nI_1 k) (ih (k + 1) N re (by omega) (by omega) ?_))
        rw [tg_rk_le (by omega)]
        show tg_A re (fun q => tg_s w dC n (tg_r w dC n (tg_sp w dC n r) k) k q = true)
        rw [tg_s_id hR]
        exact hA
    · rw [tg_rk_gt (by omega)] at hA z
      have sf := tg_r_sup (w := w) (c := dC) (tg_sp_sup (w := w) (c := dC) hn0 r) (5 * n) k (by omega)
      refine br_t (z.mpr (by rw [sf]; decide)) (nm_r (nI_1 k) (ih (k + 1) N re (by omega) (by omega) ?_))
      rw [tg_rk_gt (by omega)]
      exact hA
theorem tx_30 {post : SX → Prop} (hn0 : 0 < n) (hn : n ≤ 16) (hw : tg_Dr n w dO)
    (h : ∀ re, tg_A re (fun q => tg_sp w dC n 80 q = true) → post (bk, lv, (nI n), fk, lo, ex, ht, vt, vv, rc, rr, ls, eT, eV, rN, rC, rR, dO, dC, tS, tO, tC, re, qN, qT, qK, qA, an, cR, sk)) :
    ∀ d r N re, r + d = 80 → d < N → tg_A re (fun q => tg_sp w dC n r q = true) → wX_findReached_30 post N (nI r) bk lv (nI n) fk lo ex ht vt vv rc rr ls eT eV rN rC rR dO dC tS tO tC re qN qT qK qA an cR sk := by
  intro d
  induction d with
  | zero =>
    intro r N re hr hN hA
    obtain ⟨N, rfl⟩ : ∃ k, N = k + 1 := ⟨N - 1, by omega⟩
    obtain rfl : r = 80 := by omega
    exact br_t (nI_le (a := 80) (b := 80) (by omega) (by decide)) (h re hA)
  | succ d ih =>
    intro r N re hr hN hA
    obtain ⟨N, rfl⟩ : ∃ k, N = k + 1 := ⟨N - 1, by omega⟩
    exact br_f (nI_ge (b := 80) (by omega) (by decide)) ⟨81, tx_38 hn0 hn hw (fun re2 h2 => ih (r + 1) N re2 (by omega) (by omega) h2) 80 0 81 re (by omega) (by omega) hA⟩
theorem tx_2 {post : SX → Prop} (hn0 : 0 < n) (hn : n ≤ 16) (hw : tg_Dr n w dO)
    (h : ∀ re, tg_A re (fun q => tg_sp w dC n 80 q = true) → post (bk, lv, (nI n), fk, lo, ex, ht, vt, vv, rc, rr, ls, eT, eV, rN, rC, rR, dO, dC, tS, tO, tC, re, qN, qT, qK, qA, an, cR, sk)) :
    ∀ d k N re, k + d = 80 → d < N → (∀ q, q < k → re q = 0) → wX_findReached_2 post bk lv (nI n) fk lo ex ht vt vv rc rr N (nI k) ls eT eV rN rC rR dO dC tS tO tC re qN qT qK qA an cR sk := by
  intro d
  induction d with
  | zero =>
    intro k N re hk hN h0
    obtain ⟨N, rfl⟩ : ∃ k, N = k + 1 := ⟨N - 1, by omega⟩
    obtain rfl : k = 80 := by omega
    refine br_t (nI_le (a := 80) (b := 80) (by omega) (by decide)) (nm_r (e' := upd re 0 1) (by rw [tg_vb1]) ⟨81, tx_30 hn0 hn hw h 80 0 81 _ (by omega) (by omega) (fun q hq => ?_)⟩)
    show (decide (q = 0) = true ∧ _) ∨ (¬ decide (q = 0) = true ∧ _)
    by_cases e : q = 0
    · exact Or.inl ⟨decide_eq_true e, by rw [e, pk_us]⟩
    · exact Or.inr ⟨by rw [decide_eq_true_eq]; exact e, by rw [pk_un e]; exact h0 q hq⟩
  | succ d ih =>
    intro k N re hk hN h0
    obtain ⟨N, rfl⟩ : ∃ k, N = k + 1 := ⟨N - 1, by omega⟩
    refine br_f (nI_ge (b := 80) (by omega) (by decide)) ⟨vp_in_nI (by omega) (by decide), nm_r (tg_u rfl (by omega) tg_vb0) (nm_r (nI_1 k) (ih (k + 1) N _ (by omega) (by omega) (fun q hq => ?_)))⟩
    by_cases e : q = k
    · rw [e, pk_us]
    · rw [pk_un e]; exact h0 q (by omega)
theorem tx_fr {post : SX → Prop} (hn0 : 0 < n) (hn : n ≤ 16) (hw : tg_Dr n w dO)
    (h : ∀ re, tg_A re (fun q => tg_sp w dC n 80 q = true) → post (bk, lv, (nI n), fk, lo, ex, ht, vt, vv, rc, rr, ls, eT, eV, rN, rC, rR, dO, dC, tS, tO, tC, re, qN, qT, qK, qA, an, cR, sk)) : wpX_findReached post (bk, lv, (nI n), fk, lo, ex, ht, vt, vv, rc, rr, ls, eT, eV, rN, rC, rR, dO, dC, tS, tO, tC, re, qN, qT, qK, qA, an, cR, sk) :=
  ⟨81, tx_2 hn0 hn hw h 80 0 81 re (by omega) (by omega) (fun q hq => absurd hq (by omega))⟩
theorem tg_out_iff {c : Nat → Int64} {i : Nat} : tg_out w c n i = true ↔ ((w i = 20 ∨ w i = 21) ∧ tg_ind n (c i) = false) ∨ (w i ≠ 20 ∧ w i < 22 ∧ i + 1 = n) := by
  unfold tg_out
  simp only [Bool.or_eq_true, Bool.and_eq_true, decide_eq_true_eq, and_assoc, Bool.not_eq_true']
def tg_bi (b : Bool) : Int32 := if b = true then 1 else 0
theorem tg_bi_t {b : Bool} {post : Int32 → Prop} (h : post (tg_bi b)) (e : b = true) : post 1 := by rw [e] at h; exact h
theorem tg_bi_f {b : Bool} {post : Int32 → Prop} (h : post (tg_bi b)) (e : ¬ b = true) : post 0 := by rw [tg_nf e] at h; exact h
theorem tx_mr {post : Int32 → Prop} {i : Nat} (hn : n ≤ 16) (hw : tg_Dr n w dO) (hi : i < n) (h : post (tg_bi (tg_out w dC n i))) : wpX_mayRunOut post (bk, lv, (nI n), fk, lo, ex, ht, vt, vv, rc, rr, ls, eT, eV, rN, rC, rR, dO, dC, tS, tO, tC, re, qN, qT, qK, qA, an, cR, sk) (nI i) := by
  obtain ⟨w24, hdO⟩ := hw i hi
  have i16 : vp_in (nI i) 16 := vp_in_nI (by omega) (by decide)
  have cl : (nI i).toNatClampNeg = i := nI_clamp (by omega)
  have ei : (nI i + 1).toInt64 = lN (i + 1) := by rw [nI_1, nI_l (by omega)]
  -- the last join: falls out or not
  have last : ∀ z0 : Int32, ¬ w i = 20 → w i < 22 → (i + 1 = n → (z0 = 0 → post 1) ∧ (¬ z0 = 0 → post 1)) → (¬ i + 1 = n → (z0 = 0 → post 0) ∧ (¬ z0 = 0 → post 1)) → wX_mayRunOut_51 post (nI i) (nI (w i)) z0 bk lv (nI n) fk lo ex ht vt vv rc rr ls eT eV rN rC rR dO dC tS tO tC re qN qT qK qA an cR sk := by
    intro z0 c20 c22 a b
    refine br_f (tg_neI (b := 20) c20 (by omega) (by decide)) ?_
    rw [ei]
    by_cases e : i + 1 = n
    · refine tx_id0 hn (tg_nf (fun y => ?_)) (br_t rfl ?_)
      · obtain ⟨j, hj, e2⟩ := (tg_ind_iff hn).mp y
        have := (pk_lEQ (by omega) (by omega)).mp e2
        omega
      · exact br_c (fun y => br_f tg_d1 ((a e).1 y)) (fun y => (a e).2 y)
    · refine tx_id1 hn (by omega) (br_f tg_d1 ?_)
      exact br_c (fun y => br_t rfl ((b e).1 y)) (fun y => (b e).2 y)
  refine ⟨i16, nm_r (e' := nI (w i)) (by rw [cl]; exact hdO) ?_⟩
  by_cases c22 : w i = 22
  · exact br_t (by rw [c22]; rfl) (tg_bi_f h (fun z => by have := tg_out_iff.mp z; omega))
  refine br_f (tg_neI (b := 22) c22 (by omega) (by decide)) ?_
  by_cases c23 : w i = 23
  · exact br_t (by rw [c23]; rfl) (tg_bi_f h (fun z => by have := tg_out_iff.mp z; omega))
  refine br_f (tg_neI (b := 23) c23 (by omega) (by decide)) ?_
  by_cases c20 : w i = 20
  · refine br_t (by rw [c20]; rfl) ⟨i16, ?_⟩
    rw [cl]
    by_cases d : tg_ind n (dC i) = true
    · obtain ⟨j, hj, ej⟩ := (tg_ind_iff hn).mp d
      rw [ej]
      refine tx_id1 hn hj (br_f tg_d1 (br_t (by rw [c20]; rfl) (br_t rfl (br_t rfl (tg_bi_f h (fun z => ?_))))))
      rcases tg_out_iff.mp z with y | y
      · rw [d] at y; exact absurd y.2 (by decide)
      · exact y.1 c20
    · exact tx_id0 hn (tg_nf d) (br_t rfl (br_t (by rw [c20]; rfl) (br_f tg_d1 (tg_bi_t h (tg_out_iff.mpr (Or.inl ⟨Or.inl c20, tg_nf d⟩))))))
  refine br_f (tg_neI (b := 20) c20 (by omega) (by decide)) ?_
  by_cases c21 : w i = 21
  · refine br_t (by rw [c21]; rfl) ⟨i16, ?_⟩
    rw [cl]
    by_cases d : tg_ind n (dC i) = true
    · obtain ⟨j, hj, ej⟩ := (tg_ind_iff hn).mp d
      rw [ej]
      refine tx_id1 hn hj (br_f tg_d1 (last 0 c20 (by omega) (fun e => ⟨fun _ => tg_bi_t h (tg_out_iff.mpr (Or.inr ⟨c20, by omega, e⟩)), fun y => absurd rfl y⟩) (fun e => ⟨fun _ => tg_bi_f h (fun z => ?_), fun y => absurd rfl y⟩)))
      rcases tg_out_iff.mp z with y | y
      · rw [d] at y; exact absurd y.2 (by decide)
      · exact e y.2.2
    · have t : tg_out w dC n i = true := tg_out_iff.mpr (Or.inl ⟨Or.inr c21, tg_nf d⟩)
      exact tx_id0 hn (tg_nf d) (br_t rfl (last 1 c20 (by omega) (fun e => ⟨fun y => absurd y tg_d1, fun _ => tg_bi_t h t⟩) (fun e => ⟨fun y => absurd y tg_d1, fun _ => tg_bi_t h t⟩)))
  refine br_f (tg_neI (b := 21) c21 (by omega) (by decide)) (last 0 c20 (by omega) (fun e => ⟨fun _ => tg_bi_t h (tg_out_iff.mpr (Or.inr ⟨c20, by omega, e⟩)), fun y => absurd rfl y⟩) (fun e => ⟨fun _ => tg_bi_f h (fun z => ?_), fun y => absurd rfl y⟩))
  rcases tg_out_iff.mp z with y | y
  · omega
  · exact e y.2.2
theorem tg_h_le {R : Nat → Bool} {i : Nat} (d : Nat) : tg_h R i d ≤ d := by
  induction d with
  | zero => exact Nat.le_refl 0
  | succ d ih => unfold tg_h; split <;> omega
theorem tg_b_up {R : Nat → Bool} {i d : Nat} (h : tg_b w R i d = true) (e : Nat) : tg_b w R i (d + e) = true := by
  induction e with
  | zero => exact h
  | succ e ih =>
    show (tg_b w R i (d + e) || _) = true
    rw [ih, Bool.true_or]
theorem tx_if_l {post : Int32 → Prop} {i : Nat} {R : Nat → Bool} (hn : n ≤ 16) (hw : tg_Dr n w dO) (hi : i < n) (hA : tg_A re (fun q => R q = true)) (h : post (tg_bi (tg_f w dC n R i))) :
    ∀ e d N, d + e = 5 → e < N → tg_b w R i d = false → wX_isFaulty_4 post (nI i) bk lv (nI n) fk lo ex ht vt vv rc rr ls eT eV rN rC rR dO dC tS tO tC re qN qT qK qA an cR sk N (nI (tg_h R i d)) (nI d) := by
  obtain ⟨w24, hdO⟩ := hw i hi
  have cl : (nI i).toNatClampNeg = i := nI_clamp (by omega)
  intro e
  induction e with
  | zero =>
    intro d N hd hN hb
    obtain ⟨N, rfl⟩ : ∃ k, N = k + 1 := ⟨N - 1, by omega⟩
    obtain rfl : d = 5 := by omega
    have hl := tg_h_le (R := R) (i := i) 5
    refine br_t (by decide) ?_
    unfold tg_f at h
    rw [hb, Bool.false_or] at h
    by_cases c1 : 1 < tg_h R i 5
    · rw [decide_eq_true c1, Bool.true_or] at h
      exact br_t (nI_lt (a := 1) c1 (by omega)) h
    · rw [decide_eq_false c1, Bool.false_or] at h
      refine br_f (nI_nlt (a := 1) (b := tg_h R i 5) (by omega) (by decide)) ?_
      by_cases c2 : tg_h R i 5 = 1
      · rw [c2, decide_eq_true (by decide), Bool.true_and] at h
        refine br_t (by rw [c2]; rfl) (tx_mr hn hw hi ?_)
        by_cases o : tg_out w dC n i = true
        · rw [o]; exact br_f tg_d1 (tg_bi_t h o)
        · rw [tg_nf o]; exact br_t rfl (tg_bi_f h o)
      · rw [decide_eq_false (by omega), Bool.false_and] at h
        exact br_f (tg_neI (b := 1) c2 (by omega) (by decide)) h
  | succ e ih =>
    intro d N hd hN hb
    obtain ⟨N, rfl⟩ : ∃ k, N = k + 1 := ⟨N - 1, by omega⟩
    have c5 : (nI i * 5 + nI d).toNatClampNeg = 5 * i + d := by rw [tg_j5, nI_clamp (by omega)]
    have z := tg_A_0 hA (q := 5 * i + d) (by omega)
    refine br_f (nI_ge (b := 5) (by omega) (by decide)) ⟨tg_vi (tg_j5 i d) (by omega) (by decide), ?_⟩
    rw [c5]
    by_cases hR : R (5 * i + d) = true
    · have hh : tg_h R i (d + 1) = tg_h R i d + 1 := by
        show tg_h R i d + (if R (5 * i + d) = true then 1 else 0) = _
        rw [if_pos hR]
      refine br_f (fun y => z.mp y hR) (nm_r (nI_1 _) ⟨vp_in_nI (by omega) (by decide), ?_⟩)
      rw [cl, hdO]
      refine tx_ha w24 (by omega) ?_
      by_cases cf : tg_fit (w i) d = true
      · rw [show tg_ha (w i) d = nI (tg_e (w i) d) from if_pos cf]
        have e4 := (tg_fit_iff.mp cf).2
        have hb2 : tg_b w R i (d + 1) = false := by
          show (tg_b w R i d || (R (5 * i + d) && !tg_fit (w i) d)) = false
          rw [hb, cf]; simp
        have I := ih (d + 1) N (by omega) (by omega) hb2
        rw [hh] at I
        refine br_f (fun y => ?_) (nm_r (nI_1 d) I)
        have := nI_pos (n := tg_e (w i) d) (by omega)
        rw [y] at this
        exact this tg_nm1
      · rw [show tg_ha (w i) d = -1 from if_neg cf]
        have hb2 : tg_b w R i (d + 1) = true := by
          show (tg_b w R i d || (R (5 * i + d) && !tg_fit (w i) d)) = true
          rw [hR, tg_nf cf]; simp
        have hb5 := tg_b_up hb2 e
        rw [show d + 1 + e = 5 from by omega] at hb5
        refine br_t rfl (tg_bi_t h ?_)
        unfold tg_f
        rw [hb5]; simp
    · have hh : tg_h R i (d + 1) = tg_h R i d := by
        show tg_h R i d + (if R (5 * i + d) = true then 1 else 0) = _
        rw [if_neg hR]; omega
      have hb2 : tg_b w R i (d + 1) = false := by
        show (tg_b w R i d || (R (5 * i + d) && !tg_fit (w i) d)) = false
        rw [hb, tg_nf hR]; simp
      have I := ih (d + 1) N (by omega) (by omega) hb2
      rw [hh] at I
      exact br_t (z.mpr hR) (nm_r (nI_1 d) I)
theorem tx_if {post : Int32 → Prop} {i : Nat} {R : Nat → Bool} (hn : n ≤ 16) (hw : tg_Dr n w dO) (hi : i < n) (hA : tg_A re (fun q => R q = true)) (h : post (tg_bi (tg_f w dC n R i))) : wpX_isFaulty post (bk, lv, (nI n), fk, lo, ex, ht, vt, vv, rc, rr, ls, eT, eV, rN, rC, rR, dO, dC, tS, tO, tC, re, qN, qT, qK, qA, an, cR, sk) (nI i) :=
  ⟨6, tx_if_l hn hw hi hA h 5 0 6 (by omega) (by omega) rfl⟩
def tg_lf (f : Nat → Bool) (n : Nat) : Nat → Nat
  | 0 => n
  | d + 1 => if f (n - (d + 1)) = true then n - (d + 1) else tg_lf f n d
theorem tg_lf_le {f : Nat → Bool} (d : Nat) : tg_lf f n d ≤ n := by
  induction d with
  | zero => exact Nat.le_refl _
  | succ d ih => unfold tg_lf; split <;> omega
theorem tg_lf_n {f : Nat → Bool} (d : Nat) (hd : d ≤ n) (h : tg_lf f n d = n) : ∀ i, n - d ≤ i → i < n → f i = false := by
  induction d with
  | zero => intro i h1 h2; omega
  | succ d ih =>
    intro i h1 h2
    unfold tg_lf at h
    by_cases c : f (n - (d + 1)) = true
    · rw [if_pos c] at h; omega
    · rw [if_neg c] at h
      by_cases e : i = n - (d + 1)
      · rw [e]; exact tg_nf c
      · exact ih (by omega) h i (by omega) h2
theorem tx_lf_l {post : Int32 → Prop} {R : Nat → Bool} (hn : n ≤ 16) (hw : tg_Dr n w dO) (hA : tg_A re (fun q => R q = true)) :
    ∀ d N, d ≤ n → d < N → post (nI (tg_lf (tg_f w dC n R) n d)) → wX_leastFaulty_2 post bk lv (nI n) fk lo ex ht vt vv rc rr ls eT eV rN rC rR dO dC tS tO tC re qN qT qK qA an cR sk N (nI (n - d)) := by
  intro d
  induction d with
  | zero =>
    intro N hd hN h
    obtain ⟨N, rfl⟩ : ∃ k, N = k + 1 := ⟨N - 1, by omega⟩
    exact br_t (nI_le (by omega) (by omega)) h
  | succ d ih =>
    intro N hd hN h
    obtain ⟨N, rfl⟩ : ∃ k, N = k + 1 := ⟨N - 1, by omega⟩
    unfold tg_lf at h
    refine br_f (nI_ge (by omega) (by omega)) (tx_if hn hw (by omega) hA ?_)
    by_cases c : tg_f w dC n R (n - (d + 1)) = true
    · rw [if_pos c] at h
      rw [c]
      exact br_f tg_d1 h
    · rw [if_neg c] at h
      rw [tg_nf c]
      refine br_t rfl (nm_r (nI_1 _) ?_)
      have I := ih N (by omega) (by omega) h
      rw [show n - (d + 1) + 1 = n - d from by omega]
      exact I
theorem tx_lf {post : Int32 → Prop} {R : Nat → Bool} (hn : n ≤ 16) (hw : tg_Dr n w dO) (hA : tg_A re (fun q => R q = true)) (h : post (nI (tg_lf (tg_f w dC n R) n n))) : wpX_leastFaulty post (bk, lv, (nI n), fk, lo, ex, ht, vt, vv, rc, rr, ls, eT, eV, rN, rC, rR, dO, dC, tS, tO, tC, re, qN, qT, qK, qA, an, cR, sk) := by
  have I := tx_lf_l (n := n) (bk := bk) (lv := lv) (fk := fk) (lo := lo) (ex := ex) (ht := ht) (vt := vt) (vv := vv) (rc := rc) (rr := rr) (ls := ls) (eT := eT) (eV := eV) (rN := rN) (rC := rC) (rR := rR) (dO := dO) (dC := dC) (tS := tS) (tO := tO) (tC := tC) (re := re) (qN := qN) (qT := qT) (qK := qK) (qA := qA) (an := an) (cR := cR) (sk := sk) hn hw hA n (n + 1) (Nat.le_refl _) (by omega) h
  rw [Nat.sub_self] at I
  exact ⟨n + 1, I⟩
theorem tx_td_l {post : SX → Prop} {t : Nat} {o0 : Nat → Int32} {c0 : Nat → Int64} (ht4 : t < 4)
    (h : ∀ tO tC, (∀ i, i < 16 → tO (16 * t + i) = dO i ∧ tC (16 * t + i) = dC i) → (∀ q, q < 16 * t ∨ 16 * t + 16 ≤ q → tO q = o0 q ∧ tC q = c0 q) → post (bk, lv, ds, fk, lo, ex, ht, vt, vv, rc, rr, ls, eT, eV, rN, rC, rR, dO, dC, (upd tS t ds), tO, tC, re, qN, qT, qK, qA, an, cR, sk)) :
    ∀ d i N tO tC, i + d = 16 → d < N → (∀ j, j < i → tO (16 * t + j) = dO j ∧ tC (16 * t + j) = dC j) → (∀ q, q < 16 * t ∨ 16 * t + 16 ≤ q → tO q = o0 q ∧ tC q = c0 q) → wX_takeDraft_2 post (nI t) bk lv ds fk lo ex ht vt vv rc rr N (nI i) ls eT eV rN rC rR dO dC tS tO tC re qN qT qK qA an cR sk := by
  intro d
  induction d with
  | zero =>
    intro i N tO tC hi hN h1 h2
    obtain ⟨N, rfl⟩ : ∃ k, N = k + 1 := ⟨N - 1, by omega⟩
    obtain rfl : i = 16 := by omega
    exact br_t (by decide) ⟨vp_in_nI ht4 (by decide), nm_r (tg_u rfl (by omega) rfl) (h tO tC h1 h2)⟩
  | succ d ih =>
    intro i N tO tC hi hN h1 h2
    obtain ⟨N, rfl⟩ : ∃ k, N = k + 1 := ⟨N - 1, by omega⟩
    have i16 : vp_in (nI i) 16 := vp_in_nI (by omega) (by decide)
    have i64 : vp_in (nI t * 16 + nI i) 64 := tg_vi (tg_i16 t i) (by omega) (by decide)
    refine br_f (nI_ge (b := 16) (by omega) (by decide)) ⟨i16, i64, nm_r (tg_u (tg_i16 t i) (by omega) (tg_rd rfl (by omega))) ⟨i16, i64, nm_r (tg_uL (tg_i16 t i) (by omega) (tg_rdL rfl (by omega))) (nm_r (nI_1 i) (ih (i + 1) N _ _ (by omega) (by omega) (fun j hj => ?_) (fun q hq => ?_)))⟩⟩
    · by_cases e : j = i
      · rw [e, pk_us, pk_uLs]; exact ⟨rfl, rfl⟩
      · rw [pk_un (by omega), pk_uLn (by omega)]; exact h1 j (by omega)
    · rw [pk_un (by omega), pk_uLn (by omega)]; exact h2 q hq
theorem tx_td {post : SX → Prop} {t : Nat} (ht4 : t < 4)
    (h : ∀ tO2 tC2, (∀ i, i < 16 → tO2 (16 * t + i) = dO i ∧ tC2 (16 * t + i) = dC i) → (∀ q, q < 16 * t ∨ 16 * t + 16 ≤ q → tO2 q = tO q ∧ tC2 q = tC q) → post (bk, lv, ds, fk, lo, ex, ht, vt, vv, rc, rr, ls, eT, eV, rN, rC, rR, dO, dC, (upd tS t ds), tO2, tC2, re, qN, qT, qK, qA, an, cR, sk)) : wpX_takeDraft post (bk, lv, ds, fk, lo, ex, ht, vt, vv, rc, rr, ls, eT, eV, rN, rC, rR, dO, dC, tS, tO, tC, re, qN, qT, qK, qA, an, cR, sk) (nI t) :=
  ⟨17, tx_td_l ht4 h 16 0 17 tO tC (by omega) (by omega) (fun j hj => absurd hj (by omega)) (fun q _ => ⟨rfl, rfl⟩)⟩
end XL
