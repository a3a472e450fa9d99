/-! 12: X: one instruction (written by genops.py) -/
theorem tg_i16 (t i : Nat) : nI t * 16 + nI i = nI (16 * t + i) := by
  have e : nI t * 16 = nI (t * 16) := pk_mul t 16
  rw [e, nI_add, Nat.mul_comm]
theorem tg_16i (t i : Nat) : 16 * nI t + nI i = nI (16 * t + i) := by
  have e : 16 * nI t = nI (16 * t) := pk_mul 16 t
  rw [e, nI_add]
def tg_op (o : Nat) (x y : Int64) : Int64 :=
  if o = 4 then x + y else if o = 5 then x - y else if o = 6 then x * y else if o = 7 then x / y else if o = 8 then x - x / y * y else if o = 9 then x &&& y else if o = 10 then x ^^^ y
  else if o = 11 then x <<< (y.toInt32.toInt64 &&& 63) else if o = 12 then x >>> (y.toInt32.toInt64 &&& 63) else if o = 13 then (x.toUInt64 >>> (y.toInt32.toInt64.toUInt64 &&& Int64.toUInt64 63)).toInt64
  else if y ≤ x then 0 else 1
section XO
variable {bk : Int32} {lv : Int32} {ds : Int32} {fk : Int32} {lo : Int32} {ex : Int32} {ht : Int32} {vt : Int32} {vv : Int64} {rc : Int32} {rr : Int64} {ls : Nat → Int32} {eT : Nat → Int32} {eV : Nat → Int64} {rN : Nat → Int32} {rC : Nat → Int32} {rR : Nat → Int64} {dO : Nat → Int32} {dC : Nat → Int64} {tS : Nat → Int32} {tO : Nat → Int32} {tC : Nat → Int64} {re : Nat → Int32} {qN : Nat → Int32} {qT : Nat → Int32} {qK : Nat → Int32} {qA : Nat → Int32} {an : Nat → Int32} {cR : Nat → Int64} {sk : Nat → Int64} {vh : Int32} {vw : Int64} {oc : Int64} {li : Nat → Int32} {ll : Nat → Int32} {sz : Nat → Int32} {va : Nat → Int64} {yo : Nat → Int32} {yg : Nat → Int64} {le : Nat → Int32} {pa : Nat → Int32} {st : Nat → Int64} {on : Nat → Int32} {wa : Nat → Int32} {t z i h ran n : Nat} {x3 : Int32} {c : Int64}
theorem xb0 {post : Int32 → Prop} {x : Int32} (hx : x < 4 ∨ 14 < x) (hp : post 0) : wpX_isBinary post x := by
  by_cases y : x < 4
  · exact br_t y hp
  · exact br_f y (br_t (hx.resolve_left y) hp)
theorem xb1 {post : Int32 → Prop} {o : Nat} (h1 : 4 ≤ o) (h2 : o ≤ 14) (hp : post 1) : wpX_isBinary post (nI o) :=
  br_f (nI_nlt (b := 4) h1 (by omega)) (br_f (nI_nlt (a := 14) (b := o) h2 (by decide)) hp)
theorem xp_push {post : SX → Prop} {v : Int64} (h4 : h < 4) (hp : post (bk, lv, ds, fk, lo, ex, (nI (h + 1)), vt, vv, rc, rr, ls, eT, eV, rN, rC, rR, dO, dC, tS, tO, tC, re, qN, qT, qK, qA, an, cR, (vp_updL sk h v))) : wpX_push post (bk, lv, ds, fk, lo, ex, (nI h), vt, vv, rc, rr, ls, eT, eV, rN, rC, rR, dO, dC, tS, tO, tC, re, qN, qT, qK, qA, an, cR, sk) v :=
  br_f (nI_pos (by omega)) (br_f (nI_ge (b := 4) h4 (by decide)) ⟨vp_in_nI h4 (by decide), nm_r (tg_uL rfl (by omega) rfl) (nm_r (nI_1 h) hp)⟩)
theorem xp_pop {post : Int64 → SX → Prop} (h4 : h < 4) (hp : post (sk h) (bk, lv, ds, fk, lo, ex, (nI h), vt, vv, rc, rr, ls, eT, eV, rN, rC, rR, dO, dC, tS, tO, tC, re, qN, qT, qK, qA, an, cR, sk)) : wpX_pop post (bk, lv, ds, fk, lo, ex, (nI (h + 1)), vt, vv, rc, rr, ls, eT, eV, rN, rC, rR, dO, dC, tS, tO, tC, re, qN, qT, qK, qA, an, cR, sk) := by
  refine br_f (nI_nle (by omega) (by omega)) (br_t (nI_le (b := 4) (by omega) (by decide)) (nm_r (nI_pred h) ⟨vp_in_nI h4 (by decide), ?_⟩))
  rw [nI_clamp (by omega)]
  exact hp
theorem xp_comb {post : Int64 → Prop} {o : Nat} {x y : Int64} (h1 : 4 ≤ o) (h2 : o ≤ 14) (h7 : o ≠ 7) (h8 : o ≠ 8) (hp : post (tg_op o x y)) : wpX_combined post (nI o) x y := by
  have : o = 4 ∨ o = 5 ∨ o = 6 ∨ o = 9 ∨ o = 10 ∨ o = 11 ∨ o = 12 ∨ o = 13 ∨ o = 14 := by omega
  rcases this with rfl | rfl | rfl | rfl | rfl | rfl | rfl | rfl | rfl
  · exact br_f (by decide) (br_f (by decide) (br_t (by decide) (hp)))
  · exact br_f (by decide) (br_f (by decide) (br_f (by decide) (br_t (by decide) (hp))))
  · exact br_f (by decide) (br_f (by decide) (br_f (by decide) (br_f (by decide) (br_t (by decide) (hp)))))
  · exact br_f (by decide) (br_f (by decide) (br_f (by decide) (br_f (by decide) (br_f (by decide) (br_f (by decide) (br_f (by decide) (br_t (by decide) (hp))))))))
  · exact br_f (by decide) (br_f (by decide) (br_f (by decide) (br_f (by decide) (br_f (by decide) (br_f (by decide) (br_f (by decide) (br_f (by decide) (br_t (by decide) (hp)))))))))
  · exact br_f (by decide) (br_f (by decide) (br_f (by decide) (br_f (by decide) (br_f (by decide) (br_f (by decide) (br_f (by decide) (br_f (by decide) (br_f (by decide) (br_t (by decide) (hp))))))))))
  · exact br_f (by decide) (br_f (by decide) (br_f (by decide) (br_f (by decide) (br_f (by decide) (br_f (by decide) (br_f (by decide) (br_f (by decide) (br_f (by decide) (br_f (by decide) (br_t (by decide) (hp)))))))))))
  · exact br_f (by decide) (br_f (by decide) (br_f (by decide) (br_f (by decide) (br_f (by decide) (br_f (by decide) (br_f (by decide) (br_f (by decide) (br_f (by decide) (br_f (by decide) (br_f (by decide) (br_t (by decide) (hp))))))))))))
  · refine br_f (by decide) (br_t (by decide) ?_)
    by_cases e : y ≤ x
    · refine br_t e ?_
      rw [show tg_op 14 x y = 0 from if_pos e] at hp
      exact hp
    · refine br_f e ?_
      rw [show tg_op 14 x y = 1 from if_neg e] at hp
      exact hp
theorem xs_0 {post : SX → Prop} (t4 : t < 4) (hr : ran < 80) (hi : i < z) (hz : z ≤ 16) (hS : tS t = nI z) (hop : tO (16 * t + i) = nI 0) (hco : tC (16 * t + i) = c) (h4 : h < 4)
    (H : wX_execute_70 post (nI t) x3 n (nI i + 1) (nI (ran + 1)) bk lv ds fk lo ex (nI (h + 1)) vt vv rc 0 ls eT eV rN rC rR dO dC tS tO tC re qN qT qK qA an cR (vp_updL sk h c)) :
    wX_execute_70 post (nI t) x3 (n + 1) (nI i) (nI ran) bk lv ds fk lo ex (nI h) vt vv rc 0 ls eT eV rN rC rR dO dC tS tO tC re qN qT qK qA an cR sk := by
  refine br_f (nI_ge (b := 80) hr (by decide)) (br_f (nI_pos (by omega)) ⟨vp_in_nI t4 (by decide), br_f ?_ ?_⟩)
  · rw [nI_clamp (by omega), hS]; exact nI_ge hi (by omega)
  refine ⟨tg_vi (tg_i16 t i) (by omega) (by decide), nm_r ((tg_rd (tg_i16 t i) (by omega)).trans hop) ⟨tg_vi (tg_i16 t i) (by omega) (by decide), nm_r ((tg_rdL (tg_i16 t i) (by omega)).trans hco) ?_⟩⟩
  refine xb0 (by decide) (br_t rfl (br_t (by decide) ?_))
  exact br_f (by decide) (br_f (by decide) (br_t (by decide) (xp_push h4 (nm_r (nI_1 ran) H))))
theorem xs_1 {post : SX → Prop} (t4 : t < 4) (hr : ran < 80) (hi : i < z) (hz : z ≤ 16) (hS : tS t = nI z) (hop : tO (16 * t + i) = nI 1) (hco : tC (16 * t + i) = c) (h4 : h < 4)
    (H : wX_execute_70 post (nI t) x3 n (nI i + 1) (nI (ran + 1)) bk lv ds fk lo ex (nI (h + 1)) vt vv rc 0 ls eT eV rN rC rR dO dC tS tO tC re qN qT qK qA an cR (vp_updL sk h vv)) :
    wX_execute_70 post (nI t) x3 (n + 1) (nI i) (nI ran) bk lv ds fk lo ex (nI h) vt vv rc 0 ls eT eV rN rC rR dO dC tS tO tC re qN qT qK qA an cR sk := by
  refine br_f (nI_ge (b := 80) hr (by decide)) (br_f (nI_pos (by omega)) ⟨vp_in_nI t4 (by decide), br_f ?_ ?_⟩)
  · rw [nI_clamp (by omega), hS]; exact nI_ge hi (by omega)
  refine ⟨tg_vi (tg_i16 t i) (by omega) (by decide), nm_r ((tg_rd (tg_i16 t i) (by omega)).trans hop) ⟨tg_vi (tg_i16 t i) (by omega) (by decide), nm_r ((tg_rdL (tg_i16 t i) (by omega)).trans hco) ?_⟩⟩
  refine xb0 (by decide) (br_t rfl (br_t (by decide) ?_))
  exact br_f (by decide) (br_f (by decide) (br_f (by decide) (br_t (by decide) (xp_push h4 (nm_r (nI_1 ran) H)))))
theorem xs_2 {post : SX → Prop} (t4 : t < 4) (hr : ran < 80) (hi : i < z) (hz : z ≤ 16) (hS : tS t = nI z) (hop : tO (16 * t + i) = nI 2) (hco : tC (16 * t + i) = c) (h4 : h < 4)
    (H : wX_execute_70 post (nI t) x3 n (nI i + 1) (nI (ran + 1)) bk lv ds fk lo ex (nI (h + 1)) vt vv rc 0 ls eT eV rN rC rR dO dC tS tO tC re qN qT qK qA an cR (vp_updL sk h (if vt = 0 then 0 else 1))) :
    wX_execute_70 post (nI t) x3 (n + 1) (nI i) (nI ran) bk lv ds fk lo ex (nI h) vt vv rc 0 ls eT eV rN rC rR dO dC tS tO tC re qN qT qK qA an cR sk := by
  refine br_f (nI_ge (b := 80) hr (by decide)) (br_f (nI_pos (by omega)) ⟨vp_in_nI t4 (by decide), br_f ?_ ?_⟩)
  · rw [nI_clamp (by omega), hS]; exact nI_ge hi (by omega)
  refine ⟨tg_vi (tg_i16 t i) (by omega) (by decide), nm_r ((tg_rd (tg_i16 t i) (by omega)).trans hop) ⟨tg_vi (tg_i16 t i) (by omega) (by decide), nm_r ((tg_rdL (tg_i16 t i) (by omega)).trans hco) ?_⟩⟩
  refine xb0 (by decide) (br_t rfl (br_t (by decide) ?_))
  refine br_f (by decide) (br_f (by decide) (br_f (by decide) (br_f (by decide) (br_t (by decide) (?_)))))
  by_cases e : vt = 0
  · rw [if_pos e] at H
    exact br_t e (xp_push h4 (nm_r (nI_1 ran) H))
  · rw [if_neg e] at H
    exact br_f e (xp_push h4 (nm_r (nI_1 ran) H))
theorem xs_3 {post : SX → Prop} (t4 : t < 4) (hr : ran < 80) (hi : i < z) (hz : z ≤ 16) (hS : tS t = nI z) (hop : tO (16 * t + i) = nI 3) (hco : tC (16 * t + i) = c) (h4 : h < 4)
    (H : wX_execute_70 post (nI t) x3 n (nI i + 1) (nI (ran + 1)) bk lv ds fk lo ex (nI (h + 1)) vt vv rc 0 ls eT eV rN rC rR dO dC tS tO tC re qN qT qK qA an cR (vp_updL sk h x3.toInt64)) :
    wX_execute_70 post (nI t) x3 (n + 1) (nI i) (nI ran) bk lv ds fk lo ex (nI h) vt vv rc 0 ls eT eV rN rC rR dO dC tS tO tC re qN qT qK qA an cR sk := by
  refine br_f (nI_ge (b := 80) hr (by decide)) (br_f (nI_pos (by omega)) ⟨vp_in_nI t4 (by decide), br_f ?_ ?_⟩)
  · rw [nI_clamp (by omega), hS]; exact nI_ge hi (by omega)
  refine ⟨tg_vi (tg_i16 t i) (by omega) (by decide), nm_r ((tg_rd (tg_i16 t i) (by omega)).trans hop) ⟨tg_vi (tg_i16 t i) (by omega) (by decide), nm_r ((tg_rdL (tg_i16 t i) (by omega)).trans hco) ?_⟩⟩
  refine xb0 (by decide) (br_t rfl (br_t (by decide) ?_))
  exact br_f (by decide) (br_f (by decide) (br_f (by decide) (br_f (by decide) (br_f (by decide) (br_t (by decide) (xp_push h4 (nm_r (nI_1 ran) H)))))))
theorem xs_15 {post : SX → Prop} (t4 : t < 4) (hr : ran < 80) (hi : i < z) (hz : z ≤ 16) (hS : tS t = nI z) (hop : tO (16 * t + i) = nI 15) (hco : tC (16 * t + i) = c) (h3 : h < 3)
    (H : wX_execute_70 post (nI t) x3 n (nI i + 1) (nI (ran + 1)) bk lv ds fk lo ex (nI (h + 2)) vt vv rc 0 ls eT eV rN rC rR dO dC tS tO tC re qN qT qK qA an cR (vp_updL (vp_updL sk h (sk h)) (h + 1) (sk h))) :
    wX_execute_70 post (nI t) x3 (n + 1) (nI i) (nI ran) bk lv ds fk lo ex (nI (h + 1)) vt vv rc 0 ls eT eV rN rC rR dO dC tS tO tC re qN qT qK qA an cR sk := by
  refine br_f (nI_ge (b := 80) hr (by decide)) (br_f (nI_pos (by omega)) ⟨vp_in_nI t4 (by decide), br_f ?_ ?_⟩)
  · rw [nI_clamp (by omega), hS]; exact nI_ge hi (by omega)
  refine ⟨tg_vi (tg_i16 t i) (by omega) (by decide), nm_r ((tg_rd (tg_i16 t i) (by omega)).trans hop) ⟨tg_vi (tg_i16 t i) (by omega) (by decide), nm_r ((tg_rdL (tg_i16 t i) (by omega)).trans hco) ?_⟩⟩
  refine xb0 (by decide) (br_t rfl (br_t (by decide) ?_))
  exact br_f (by decide) (br_f (by decide) (br_f (by decide) (br_f (by decide) (br_f (by decide) (br_f (by decide) (br_f (by decide) (br_f (by decide) (br_f (by decide) (br_f (by decide) (br_f (by decide) (br_f (by decide) (br_f (by decide) (br_f (by decide) (br_f (by decide) (br_f (by decide) (br_f (by decide) (br_t (by decide) (xp_pop (by omega) (xp_push (by omega) (xp_push (by omega) (nm_r (nI_1 ran) H)))))))))))))))))))))
theorem xs_16 {post : SX → Prop} (t4 : t < 4) (hr : ran < 80) (hi : i < z) (hz : z ≤ 16) (hS : tS t = nI z) (hop : tO (16 * t + i) = nI 16) (hco : tC (16 * t + i) = c) (h3 : h < 3)
    (H : wX_execute_70 post (nI t) x3 n (nI i + 1) (nI (ran + 1)) bk lv ds fk lo ex (nI (h + 2)) vt vv rc 0 ls eT eV rN rC rR dO dC tS tO tC re qN qT qK qA an cR (vp_updL (vp_updL sk h (sk (h + 1))) (h + 1) (sk h))) :
    wX_execute_70 post (nI t) x3 (n + 1) (nI i) (nI ran) bk lv ds fk lo ex (nI (h + 2)) vt vv rc 0 ls eT eV rN rC rR dO dC tS tO tC re qN qT qK qA an cR sk := by
  refine br_f (nI_ge (b := 80) hr (by decide)) (br_f (nI_pos (by omega)) ⟨vp_in_nI t4 (by decide), br_f ?_ ?_⟩)
  · rw [nI_clamp (by omega), hS]; exact nI_ge hi (by omega)
  refine ⟨tg_vi (tg_i16 t i) (by omega) (by decide), nm_r ((tg_rd (tg_i16 t i) (by omega)).trans hop) ⟨tg_vi (tg_i16 t i) (by omega) (by decide), nm_r ((tg_rdL (tg_i16 t i) (by omega)).trans hco) ?_⟩⟩
  refine xb0 (by decide) (br_t rfl (br_t (by decide) ?_))
  exact br_f (by decide) (br_f (by decide) (br_f (by decide) (br_f (by decide) (br_f (by decide) (br_f (by decide) (br_f (by decide) (br_f (by decide) (br_f (by decide) (br_f (by decide) (br_f (by decide) (br_f (by decide) (br_f (by decide) (br_f (by decide) (br_f (by decide) (br_f (by decide) (br_f (by decide) (br_f (by decide) (br_t (by decide) (xp_pop (by omega) (xp_pop (by omega) (xp_push (by omega) (xp_push (by omega) (nm_r (nI_1 ran) H)))))))))))))))))))))))
theorem xs_17 {post : SX → Prop} (t4 : t < 4) (hr : ran < 80) (hi : i < z) (hz : z ≤ 16) (hS : tS t = nI z) (hop : tO (16 * t + i) = nI 17) (hco : tC (16 * t + i) = c) (h4 : h < 4)
    (H : wX_execute_70 post (nI t) x3 n (nI i + 1) (nI (ran + 1)) bk lv ds fk lo ex (nI h) vt vv rc 0 ls eT eV rN rC rR dO dC tS tO tC re qN qT qK qA an cR sk) :
    wX_execute_70 post (nI t) x3 (n + 1) (nI i) (nI ran) bk lv ds fk lo ex (nI (h + 1)) vt vv rc 0 ls eT eV rN rC rR dO dC tS tO tC re qN qT qK qA an cR sk := by
  refine br_f (nI_ge (b := 80) hr (by decide)) (br_f (nI_pos (by omega)) ⟨vp_in_nI t4 (by decide), br_f ?_ ?_⟩)
  · rw [nI_clamp (by omega), hS]; exact nI_ge hi (by omega)
  refine ⟨tg_vi (tg_i16 t i) (by omega) (by decide), nm_r ((tg_rd (tg_i16 t i) (by omega)).trans hop) ⟨tg_vi (tg_i16 t i) (by omega) (by decide), nm_r ((tg_rdL (tg_i16 t i) (by omega)).trans hco) ?_⟩⟩
  refine xb0 (by decide) (br_t rfl (br_t (by decide) ?_))
  exact br_f (by decide) (br_f (by decide) (br_f (by decide) (br_f (by decide) (br_f (by decide) (br_f (by decide) (br_f (by decide) (br_f (by decide) (br_f (by decide) (br_f (by decide) (br_f (by decide) (br_f (by decide) (br_f (by decide) (br_f (by decide) (br_f (by decide) (br_f (by decide) (br_f (by decide) (br_f (by decide) (br_f (by decide) (br_t (by decide) (xp_pop h4 (nm_r (nI_1 ran) H)))))))))))))))))))))
theorem xs_18 {post : SX → Prop} (t4 : t < 4) (hr : ran < 80) (hi : i < z) (hz : z ≤ 16) (hS : tS t = nI z) (hop : tO (16 * t + i) = nI 18) (hco : tC (16 * t + i) = c) (h4 : h < 4)
    (H : wX_execute_70 post (nI t) x3 n (nI i + 1) (nI (ran + 1)) bk lv ds fk lo ex (nI h) 1 (sk h) rc 0 ls eT eV rN rC rR dO dC tS tO tC re qN qT qK qA an cR sk) :
    wX_execute_70 post (nI t) x3 (n + 1) (nI i) (nI ran) bk lv ds fk lo ex (nI (h + 1)) vt vv rc 0 ls eT eV rN rC rR dO dC tS tO tC re qN qT qK qA an cR sk := by
  refine br_f (nI_ge (b := 80) hr (by decide)) (br_f (nI_pos (by omega)) ⟨vp_in_nI t4 (by decide), br_f ?_ ?_⟩)
  · rw [nI_clamp (by omega), hS]; exact nI_ge hi (by omega)
  refine ⟨tg_vi (tg_i16 t i) (by omega) (by decide), nm_r ((tg_rd (tg_i16 t i) (by omega)).trans hop) ⟨tg_vi (tg_i16 t i) (by omega) (by decide), nm_r ((tg_rdL (tg_i16 t i) (by omega)).trans hco) ?_⟩⟩
  refine xb0 (by decide) (br_t rfl (br_t (by decide) ?_))
  exact br_f (by decide) (br_f (by decide) (br_f (by decide) (br_f (by decide) (br_f (by decide) (br_f (by decide) (br_f (by decide) (br_f (by decide) (br_f (by decide) (br_f (by decide) (br_f (by decide) (br_f (by decide) (br_f (by decide) (br_f (by decide) (br_f (by decide) (br_f (by decide) (br_f (by decide) (br_f (by decide) (br_f (by decide) (br_f (by decide) (br_t (by decide) (xp_pop h4 (nm_r (nI_1 ran) H))))))))))))))))))))))
theorem xs_19 {post : SX → Prop} (t4 : t < 4) (hr : ran < 80) (hi : i < z) (hz : z ≤ 16) (hS : tS t = nI z) (hop : tO (16 * t + i) = nI 19) (hco : tC (16 * t + i) = c) 
    (H : wX_execute_70 post (nI t) x3 n (nI i + 1) (nI (ran + 1)) bk lv ds fk lo ex (nI h) 0 0 rc 0 ls eT eV rN rC rR dO dC tS tO tC re qN qT qK qA an cR sk) :
    wX_execute_70 post (nI t) x3 (n + 1) (nI i) (nI ran) bk lv ds fk lo ex (nI h) vt vv rc 0 ls eT eV rN rC rR dO dC tS tO tC re qN qT qK qA an cR sk := by
  refine br_f (nI_ge (b := 80) hr (by decide)) (br_f (nI_pos (by omega)) ⟨vp_in_nI t4 (by decide), br_f ?_ ?_⟩)
  · rw [nI_clamp (by omega), hS]; exact nI_ge hi (by omega)
  refine ⟨tg_vi (tg_i16 t i) (by omega) (by decide), nm_r ((tg_rd (tg_i16 t i) (by omega)).trans hop) ⟨tg_vi (tg_i16 t i) (by omega) (by decide), nm_r ((tg_rdL (tg_i16 t i) (by omega)).trans hco) ?_⟩⟩
  refine xb0 (by decide) (br_t rfl (br_t (by decide) ?_))
  exact br_f (by decide) (br_t (by decide) ((nm_r (nI_1 ran) H)))
theorem xs_20 {post : SX → Prop} (t4 : t < 4) (hr : ran < 80) (hi : i < z) (hz : z ≤ 16) (hS : tS t = nI z) (hop : tO (16 * t + i) = nI 20) (hco : tC (16 * t + i) = c) 
    (H : wX_execute_70 post (nI t) x3 n c.toInt32 (nI (ran + 1)) bk lv ds fk lo ex (nI h) vt vv rc 0 ls eT eV rN rC rR dO dC tS tO tC re qN qT qK qA an cR sk) :
    wX_execute_70 post (nI t) x3 (n + 1) (nI i) (nI ran) bk lv ds fk lo ex (nI h) vt vv rc 0 ls eT eV rN rC rR dO dC tS tO tC re qN qT qK qA an cR sk := by
  refine br_f (nI_ge (b := 80) hr (by decide)) (br_f (nI_pos (by omega)) ⟨vp_in_nI t4 (by decide), br_f ?_ ?_⟩)
  · rw [nI_clamp (by omega), hS]; exact nI_ge hi (by omega)
  refine ⟨tg_vi (tg_i16 t i) (by omega) (by decide), nm_r ((tg_rd (tg_i16 t i) (by omega)).trans hop) ⟨tg_vi (tg_i16 t i) (by omega) (by decide), nm_r ((tg_rdL (tg_i16 t i) (by omega)).trans hco) ?_⟩⟩
  refine xb0 (by decide) (br_t rfl (br_f (by decide) (br_f (by decide) ?_)))
  exact br_t (by decide) (nm_r (nI_1 ran) H)
theorem xs_21a {post : SX → Prop} (t4 : t < 4) (hr : ran < 80) (hi : i < z) (hz : z ≤ 16) (hS : tS t = nI z) (hop : tO (16 * t + i) = nI 21) (hco : tC (16 * t + i) = c) (h4 : h < 4) (e : sk h = 0)
    (H : wX_execute_70 post (nI t) x3 n c.toInt32 (nI (ran + 1)) bk lv ds fk lo ex (nI h) vt vv rc 0 ls eT eV rN rC rR dO dC tS tO tC re qN qT qK qA an cR sk) :
    wX_execute_70 post (nI t) x3 (n + 1) (nI i) (nI ran) bk lv ds fk lo ex (nI (h + 1)) vt vv rc 0 ls eT eV rN rC rR dO dC tS tO tC re qN qT qK qA an cR sk := by
  refine br_f (nI_ge (b := 80) hr (by decide)) (br_f (nI_pos (by omega)) ⟨vp_in_nI t4 (by decide), br_f ?_ ?_⟩)
  · rw [nI_clamp (by omega), hS]; exact nI_ge hi (by omega)
  refine ⟨tg_vi (tg_i16 t i) (by omega) (by decide), nm_r ((tg_rd (tg_i16 t i) (by omega)).trans hop) ⟨tg_vi (tg_i16 t i) (by omega) (by decide), nm_r ((tg_rdL (tg_i16 t i) (by omega)).trans hco) ?_⟩⟩
  refine xb0 (by decide) (br_t rfl (br_f (by decide) (br_f (by decide) ?_)))
  exact br_f (by decide) (br_t (by decide) (xp_pop h4 (br_t e (nm_r (nI_1 ran) H))))
theorem xs_21b {post : SX → Prop} (t4 : t < 4) (hr : ran < 80) (hi : i < z) (hz : z ≤ 16) (hS : tS t = nI z) (hop : tO (16 * t + i) = nI 21) (hco : tC (16 * t + i) = c) (h4 : h < 4) (e : ¬ sk h = 0)
    (H : wX_execute_70 post (nI t) x3 n (nI i + 1) (nI (ran + 1)) bk lv ds fk lo ex (nI h) vt vv rc 0 ls eT eV rN rC rR dO dC tS tO tC re qN qT qK qA an cR sk) :
    wX_execute_70 post (nI t) x3 (n + 1) (nI i) (nI ran) bk lv ds fk lo ex (nI (h + 1)) vt vv rc 0 ls eT eV rN rC rR dO dC tS tO tC re qN qT qK qA an cR sk := by
  refine br_f (nI_ge (b := 80) hr (by decide)) (br_f (nI_pos (by omega)) ⟨vp_in_nI t4 (by decide), br_f ?_ ?_⟩)
  · rw [nI_clamp (by omega), hS]; exact nI_ge hi (by omega)
  refine ⟨tg_vi (tg_i16 t i) (by omega) (by decide), nm_r ((tg_rd (tg_i16 t i) (by omega)).trans hop) ⟨tg_vi (tg_i16 t i) (by omega) (by decide), nm_r ((tg_rdL (tg_i16 t i) (by omega)).trans hco) ?_⟩⟩
  refine xb0 (by decide) (br_t rfl (br_f (by decide) (br_f (by decide) ?_)))
  exact br_f (by decide) (br_t (by decide) (xp_pop h4 (br_f e (nm_r (nI_1 ran) H))))
theorem xs_22 {post : SX → Prop} (t4 : t < 4) (hr : ran < 80) (hi : i < z) (hz : z ≤ 16) (hS : tS t = nI z) (hop : tO (16 * t + i) = nI 22) (hco : tC (16 * t + i) = c) 
    (H : wX_execute_70 post (nI t) x3 n (-2) (nI (ran + 1)) bk lv ds fk lo ex (nI h) vt vv rc 0 ls eT eV rN rC rR dO dC tS tO tC re qN qT qK qA an cR sk) :
    wX_execute_70 post (nI t) x3 (n + 1) (nI i) (nI ran) bk lv ds fk lo ex (nI h) vt vv rc 0 ls eT eV rN rC rR dO dC tS tO tC re qN qT qK qA an cR sk := by
  refine br_f (nI_ge (b := 80) hr (by decide)) (br_f (nI_pos (by omega)) ⟨vp_in_nI t4 (by decide), br_f ?_ ?_⟩)
  · rw [nI_clamp (by omega), hS]; exact nI_ge hi (by omega)
  refine ⟨tg_vi (tg_i16 t i) (by omega) (by decide), nm_r ((tg_rd (tg_i16 t i) (by omega)).trans hop) ⟨tg_vi (tg_i16 t i) (by omega) (by decide), nm_r ((tg_rdL (tg_i16 t i) (by omega)).trans hco) ?_⟩⟩
  refine xb0 (by decide) (br_t rfl (br_f (by decide) (br_f (by decide) ?_)))
  exact br_f (by decide) (br_f (by decide) (br_t (by decide) (nm_r (nI_1 ran) H)))
theorem xs_23 {post : SX → Prop} (t4 : t < 4) (hr : ran < 80) (hi : i < z) (hz : z ≤ 16) (hS : tS t = nI z) (hop : tO (16 * t + i) = nI 23) (hco : tC (16 * t + i) = c) (h4 : h < 4)
    (H : wX_execute_70 post (nI t) x3 n (-1) (nI (ran + 1)) bk lv ds fk lo ex (nI h) vt vv rc (sk h) ls eT eV rN rC rR dO dC tS tO tC re qN qT qK qA an cR sk) :
    wX_execute_70 post (nI t) x3 (n + 1) (nI i) (nI ran) bk lv ds fk lo ex (nI (h + 1)) vt vv rc 0 ls eT eV rN rC rR dO dC tS tO tC re qN qT qK qA an cR sk := by
  refine br_f (nI_ge (b := 80) hr (by decide)) (br_f (nI_pos (by omega)) ⟨vp_in_nI t4 (by decide), br_f ?_ ?_⟩)
  · rw [nI_clamp (by omega), hS]; exact nI_ge hi (by omega)
  refine ⟨tg_vi (tg_i16 t i) (by omega) (by decide), nm_r ((tg_rd (tg_i16 t i) (by omega)).trans hop) ⟨tg_vi (tg_i16 t i) (by omega) (by decide), nm_r ((tg_rdL (tg_i16 t i) (by omega)).trans hco) ?_⟩⟩
  refine xb0 (by decide) (br_t rfl (br_f (by decide) (br_f (by decide) ?_)))
  exact br_f (by decide) (br_f (by decide) (br_f (by decide) (br_t (by decide) (xp_pop h4 (nm_r (nI_1 ran) H)))))
theorem tg_neI {a b : Nat} (h : a ≠ b) (ha : a < 2 ^ 31) (hb : b < 2 ^ 31) : ¬ nI a = nI b := fun z => h ((nI_eq ha hb).mp z)
theorem xs_bf {post : SX → Prop} {o : Nat} (t4 : t < 4) (hr : ran < 80) (hi : i < z) (hz : z ≤ 16) (hS : tS t = nI z) (hop : tO (16 * t + i) = nI o) (hco : tC (16 * t + i) = c) (h3 : h < 3) (o7 : o = 7 ∨ o = 8) (e : sk (h + 1) = 0)
    (H : wX_execute_70 post (nI t) x3 n (-2) (nI (ran + 1)) bk lv ds fk lo ex (nI h) vt vv rc 0 ls eT eV rN rC rR dO dC tS tO tC re qN qT qK qA an cR sk) :
    wX_execute_70 post (nI t) x3 (n + 1) (nI i) (nI ran) bk lv ds fk lo ex (nI (h + 2)) vt vv rc 0 ls eT eV rN rC rR dO dC tS tO tC re qN qT qK qA an cR sk := by
  refine br_f (nI_ge (b := 80) hr (by decide)) (br_f (nI_pos (by omega)) ⟨vp_in_nI t4 (by decide), br_f ?_ ?_⟩)
  · rw [nI_clamp (by omega), hS]; exact nI_ge hi (by omega)
  refine ⟨tg_vi (tg_i16 t i) (by omega) (by decide), nm_r ((tg_rd (tg_i16 t i) (by omega)).trans hop) ⟨tg_vi (tg_i16 t i) (by omega) (by decide), nm_r ((tg_rdL (tg_i16 t i) (by omega)).trans hco) ?_⟩⟩
  refine xb1 (by omega) (by omega) (br_f tg_d1 ?_)
  unfold wpX_runBinary
  refine xp_pop (h := h + 1) (by omega) (xp_pop (h := h) (by omega) ?_)
  rcases o7 with rfl | rfl
  · exact br_t (by decide) (br_t e (nm_r (nI_1 ran) H))
  · exact br_f (by decide) (br_t (by decide) (br_t e (nm_r (nI_1 ran) H)))
theorem xs_b7 {post : SX → Prop} {o : Nat} (t4 : t < 4) (hr : ran < 80) (hi : i < z) (hz : z ≤ 16) (hS : tS t = nI z) (hop : tO (16 * t + i) = nI o) (hco : tC (16 * t + i) = c) (h3 : h < 3) (o7 : o = 7 ∨ o = 8) (e : ¬ sk (h + 1) = 0)
    (H : wX_execute_70 post (nI t) x3 n (nI i + 1) (nI (ran + 1)) bk lv ds fk lo ex (nI (h + 1)) vt vv rc 0 ls eT eV rN rC rR dO dC tS tO tC re qN qT qK qA an cR (vp_updL sk h (tg_op o (sk h) (sk (h + 1))))) :
    wX_execute_70 post (nI t) x3 (n + 1) (nI i) (nI ran) bk lv ds fk lo ex (nI (h + 2)) vt vv rc 0 ls eT eV rN rC rR dO dC tS tO tC re qN qT qK qA an cR sk := by
  refine br_f (nI_ge (b := 80) hr (by decide)) (br_f (nI_pos (by omega)) ⟨vp_in_nI t4 (by decide), br_f ?_ ?_⟩)
  · rw [nI_clamp (by omega), hS]; exact nI_ge hi (by omega)
  refine ⟨tg_vi (tg_i16 t i) (by omega) (by decide), nm_r ((tg_rd (tg_i16 t i) (by omega)).trans hop) ⟨tg_vi (tg_i16 t i) (by omega) (by decide), nm_r ((tg_rdL (tg_i16 t i) (by omega)).trans hco) ?_⟩⟩
  refine xb1 (by omega) (by omega) (br_f tg_d1 ?_)
  unfold wpX_runBinary
  refine xp_pop (h := h + 1) (by omega) (xp_pop (h := h) (by omega) ?_)
  rcases o7 with rfl | rfl
  · exact br_t (by decide) (br_f e (br_t (by decide) ⟨e, xp_push (by omega) (nm_r (nI_1 ran) H)⟩))
  · exact br_f (by decide) (br_t (by decide) (br_f e (br_f (by decide) ⟨e, xp_push (by omega) (nm_r (nI_1 ran) H)⟩)))
theorem xs_bo {post : SX → Prop} {o : Nat} (t4 : t < 4) (hr : ran < 80) (hi : i < z) (hz : z ≤ 16) (hS : tS t = nI z) (hop : tO (16 * t + i) = nI o) (hco : tC (16 * t + i) = c) (h3 : h < 3) (o1 : 4 ≤ o) (o2 : o ≤ 14) (o7 : o ≠ 7) (o8 : o ≠ 8)
    (H : wX_execute_70 post (nI t) x3 n (nI i + 1) (nI (ran + 1)) bk lv ds fk lo ex (nI (h + 1)) vt vv rc 0 ls eT eV rN rC rR dO dC tS tO tC re qN qT qK qA an cR (vp_updL sk h (tg_op o (sk h) (sk (h + 1))))) :
    wX_execute_70 post (nI t) x3 (n + 1) (nI i) (nI ran) bk lv ds fk lo ex (nI (h + 2)) vt vv rc 0 ls eT eV rN rC rR dO dC tS tO tC re qN qT qK qA an cR sk := by
  refine br_f (nI_ge (b := 80) hr (by decide)) (br_f (nI_pos (by omega)) ⟨vp_in_nI t4 (by decide), br_f ?_ ?_⟩)
  · rw [nI_clamp (by omega), hS]; exact nI_ge hi (by omega)
  refine ⟨tg_vi (tg_i16 t i) (by omega) (by decide), nm_r ((tg_rd (tg_i16 t i) (by omega)).trans hop) ⟨tg_vi (tg_i16 t i) (by omega) (by decide), nm_r ((tg_rdL (tg_i16 t i) (by omega)).trans hco) ?_⟩⟩
  refine xb1 (by omega) (by omega) (br_f tg_d1 ?_)
  unfold wpX_runBinary
  refine xp_pop (h := h + 1) (by omega) (xp_pop (h := h) (by omega) ?_)
  exact br_f (tg_neI (b := 7) o7 (by omega) (by decide)) (br_f (tg_neI (b := 8) o8 (by omega) (by decide)) (xp_comb o1 o2 o7 o8 (xp_push (by omega) (nm_r (nI_1 ran) H))))
end XO
