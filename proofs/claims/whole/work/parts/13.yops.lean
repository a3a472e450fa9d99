/-! 13: Y: one instruction (written by genops.py) -/
section YO
variable {bk : Int32} {lv : Int32} {ds : Int32} {fk : Int32} {lo : Int32} {ex : Int32} {ht : Int32} {vt : Int32} {vv : Int64} {rc : Int32} {rr : Int64} {ls : Nat → Int32} {eT : Nat → Int32} {eV : Nat → Int64} {rN : Nat → Int32} {rC : Nat → Int32} {rR : Nat → Int64} {dO : Nat → Int32} {dC : Nat → Int64} {tS : Nat → Int32} {tO : Nat → Int32} {tC : Nat → Int64} {re : Nat → Int32} {qN : Nat → Int32} {qT : Nat → Int32} {qK : Nat → Int32} {qA : Nat → Int32} {an : Nat → Int32} {cR : Nat → Int64} {sk : Nat → Int64} {vh : Int32} {vw : Int64} {oc : Int64} {li : Nat → Int32} {ll : Nat → Int32} {sz : Nat → Int32} {va : Nat → Int64} {yo : Nat → Int32} {yg : Nat → Int64} {le : Nat → Int32} {pa : Nat → Int32} {st : Nat → Int64} {on : Nat → Int32} {wa : Nat → Int32} {t i h ran n : Nat} {x3 : Int32} {c : Int64}
theorem yp_comp {post : Int64 → Prop} {o : Nat} {x y : Int64} (h1 : 4 ≤ o) (h2 : o ≤ 14) (h0 : o = 7 ∨ o = 8 → ¬ y = 0) (hp : post (tg_op o x y)) : wpY_compute post (bk, fk, lo, ex, vh, vw, oc, li, ll, sz, eT, va, rN, rC, rR, yo, yg, le, pa, st, qN, qT, qK, qA, on, cR, wa) (nI o) x y := by
  have : o = 4 ∨ o = 5 ∨ o = 6 ∨ o = 7 ∨ o = 8 ∨ o = 9 ∨ o = 10 ∨ o = 11 ∨ o = 12 ∨ o = 13 ∨ o = 14 := by omega
  rcases this with rfl | rfl | rfl | rfl | rfl | rfl | rfl | rfl | rfl | rfl | rfl
  · exact br_t (by decide) (hp)
  · exact br_f (by decide) (br_t (by decide) (hp))
  · exact br_f (by decide) (br_f (by decide) (br_t (by decide) (hp)))
  · exact br_f (by decide) (br_f (by decide) (br_f (by decide) (br_t (by decide) (⟨h0 (by omega), hp⟩))))
  · exact br_f (by decide) (br_f (by decide) (br_f (by decide) (br_f (by decide) (br_t (by decide) (⟨h0 (by omega), hp⟩)))))
  · exact br_f (by decide) (br_f (by decide) (br_f (by decide) (br_f (by decide) (br_f (by decide) (br_t (by decide) (hp))))))
  · exact br_f (by decide) (br_f (by decide) (br_f (by decide) (br_f (by decide) (br_f (by decide) (br_f (by decide) (br_t (by decide) (hp)))))))
  · exact br_f (by decide) (br_f (by decide) (br_f (by decide) (br_f (by decide) (br_f (by decide) (br_f (by decide) (br_f (by decide) (br_t (by decide) (hp))))))))
  · exact br_f (by decide) (br_f (by decide) (br_f (by decide) (br_f (by decide) (br_f (by decide) (br_f (by decide) (br_f (by decide) (br_f (by decide) (br_t (by decide) (hp)))))))))
  · exact br_f (by decide) (br_f (by decide) (br_f (by decide) (br_f (by decide) (br_f (by decide) (br_f (by decide) (br_f (by decide) (br_f (by decide) (br_f (by decide) (br_t (by decide) (hp))))))))))
  · refine br_f (by decide) (br_f (by decide) (br_f (by decide) (br_f (by decide) (br_f (by decide) (br_f (by decide) (br_f (by decide) (br_f (by decide) (br_f (by decide) (br_f (by decide) (?_))))))))))
    by_cases e : y ≤ x
    · refine br_t e ?_
      rw [show tg_op 14 x y = 0 from if_pos e] at hp
      exact hp
    · refine br_f e ?_
      rw [show tg_op 14 x y = 1 from if_neg e] at hp
      exact hp
theorem tg_s2 (n : Nat) : nI (n + 2) - 2 = nI n := pk_sub (a := n + 2) (b := 2) (by omega)
theorem ys_0 {post : Int32 → SY → Prop} (t4 : t < 4) (hr : ran < 80) (hi : i < 16) (hop : yo (16 * t + i) = nI 0) (hco : yg (16 * t + i) = c) (h4 : h < 4) 
    (H : wY_execute_13 post (nI t) x3 bk fk lo ex 0 n (nI (i + 1)) (nI (h + 1)) (nI (ran + 1)) vh vw li ll sz eT va rN rC rR yo yg le pa (vp_updL st h c) qN qT qK qA on cR wa) :
    wY_execute_13 post (nI t) x3 bk fk lo ex 0 (n + 1) (nI i) (nI h) (nI ran) vh vw li ll sz eT va rN rC rR yo yg le pa st qN qT qK qA on cR wa := by
  refine br_f (nI_ge (b := 80) hr (by decide)) ⟨tg_vi (tg_16i t i) (by omega) (by decide), nm_r ((tg_rd (tg_16i t i) (by omega)).trans hop) ⟨tg_vi (tg_16i t i) (by omega) (by decide), nm_r ((tg_rdL (tg_16i t i) (by omega)).trans hco) (nm_r (nI_1 i) ?_)⟩⟩
  refine br_f (by decide) (br_f (by decide) (br_f (by decide) (br_f (by decide) (br_f (by decide) (nm_r (nI_1 h) (br_t (by decide) (?_)))))))
  exact ⟨vp_in_nI (by omega) (by decide), nm_r (tg_uL rfl (by omega) rfl) (nm_r (nI_1 ran) H)⟩
theorem ys_1 {post : Int32 → SY → Prop} (t4 : t < 4) (hr : ran < 80) (hi : i < 16) (hop : yo (16 * t + i) = nI 1) (hco : yg (16 * t + i) = c) (h4 : h < 4) 
    (H : wY_execute_13 post (nI t) x3 bk fk lo ex 0 n (nI (i + 1)) (nI (h + 1)) (nI (ran + 1)) vh vw li ll sz eT va rN rC rR yo yg le pa (vp_updL st h (if vh = 0 then 0 else vw)) qN qT qK qA on cR wa) :
    wY_execute_13 post (nI t) x3 bk fk lo ex 0 (n + 1) (nI i) (nI h) (nI ran) vh vw li ll sz eT va rN rC rR yo yg le pa st qN qT qK qA on cR wa := by
  refine br_f (nI_ge (b := 80) hr (by decide)) ⟨tg_vi (tg_16i t i) (by omega) (by decide), nm_r ((tg_rd (tg_16i t i) (by omega)).trans hop) ⟨tg_vi (tg_16i t i) (by omega) (by decide), nm_r ((tg_rdL (tg_16i t i) (by omega)).trans hco) (nm_r (nI_1 i) ?_)⟩⟩
  refine br_f (by decide) (br_f (by decide) (br_f (by decide) (br_f (by decide) (br_f (by decide) (nm_r (nI_1 h) (br_f (by decide) (br_t (by decide) (?_))))))))
  by_cases e : vh = 0
  · rw [if_pos e] at H
    exact br_t e ⟨vp_in_nI (by omega) (by decide), nm_r (tg_uL rfl (by omega) rfl) (nm_r (nI_1 ran) H)⟩
  · rw [if_neg e] at H
    exact br_f e ⟨vp_in_nI (by omega) (by decide), nm_r (tg_uL rfl (by omega) rfl) (nm_r (nI_1 ran) H)⟩
theorem ys_2 {post : Int32 → SY → Prop} (t4 : t < 4) (hr : ran < 80) (hi : i < 16) (hop : yo (16 * t + i) = nI 2) (hco : yg (16 * t + i) = c) (h4 : h < 4) 
    (H : wY_execute_13 post (nI t) x3 bk fk lo ex 0 n (nI (i + 1)) (nI (h + 1)) (nI (ran + 1)) vh vw li ll sz eT va rN rC rR yo yg le pa (vp_updL st h (if vh = 0 then 0 else 1)) qN qT qK qA on cR wa) :
    wY_execute_13 post (nI t) x3 bk fk lo ex 0 (n + 1) (nI i) (nI h) (nI ran) vh vw li ll sz eT va rN rC rR yo yg le pa st qN qT qK qA on cR wa := by
  refine br_f (nI_ge (b := 80) hr (by decide)) ⟨tg_vi (tg_16i t i) (by omega) (by decide), nm_r ((tg_rd (tg_16i t i) (by omega)).trans hop) ⟨tg_vi (tg_16i t i) (by omega) (by decide), nm_r ((tg_rdL (tg_16i t i) (by omega)).trans hco) (nm_r (nI_1 i) ?_)⟩⟩
  refine br_f (by decide) (br_f (by decide) (br_f (by decide) (br_f (by decide) (br_f (by decide) (nm_r (nI_1 h) (br_f (by decide) (br_f (by decide) (br_t (by decide) (?_)))))))))
  by_cases e : vh = 0
  · rw [if_pos e] at H
    exact br_t e ⟨vp_in_nI (by omega) (by decide), nm_r (tg_uL (w := 0) rfl (by omega) (by decide)) (nm_r (nI_1 ran) H)⟩
  · rw [if_neg e] at H
    exact br_f e ⟨vp_in_nI (by omega) (by decide), nm_r (tg_uL (w := 1) rfl (by omega) (by decide)) (nm_r (nI_1 ran) H)⟩
theorem ys_3 {post : Int32 → SY → Prop} (t4 : t < 4) (hr : ran < 80) (hi : i < 16) (hop : yo (16 * t + i) = nI 3) (hco : yg (16 * t + i) = c) (h4 : h < 4) 
    (H : wY_execute_13 post (nI t) x3 bk fk lo ex 0 n (nI (i + 1)) (nI (h + 1)) (nI (ran + 1)) vh vw li ll sz eT va rN rC rR yo yg le pa (vp_updL st h x3.toInt64) qN qT qK qA on cR wa) :
    wY_execute_13 post (nI t) x3 bk fk lo ex 0 (n + 1) (nI i) (nI h) (nI ran) vh vw li ll sz eT va rN rC rR yo yg le pa st qN qT qK qA on cR wa := by
  refine br_f (nI_ge (b := 80) hr (by decide)) ⟨tg_vi (tg_16i t i) (by omega) (by decide), nm_r ((tg_rd (tg_16i t i) (by omega)).trans hop) ⟨tg_vi (tg_16i t i) (by omega) (by decide), nm_r ((tg_rdL (tg_16i t i) (by omega)).trans hco) (nm_r (nI_1 i) ?_)⟩⟩
  refine br_f (by decide) (br_f (by decide) (br_f (by decide) (br_f (by decide) (br_f (by decide) (nm_r (nI_1 h) (br_f (by decide) (br_f (by decide) (br_f (by decide) (?_)))))))))
  exact ⟨vp_in_nI (by omega) (by decide), nm_r (tg_uL rfl (by omega) rfl) (nm_r (nI_1 ran) H)⟩
theorem ys_15 {post : Int32 → SY → Prop} (t4 : t < 4) (hr : ran < 80) (hi : i < 16) (hop : yo (16 * t + i) = nI 15) (hco : yg (16 * t + i) = c) (h3 : h < 3)
    (H : wY_execute_13 post (nI t) x3 bk fk lo ex 0 n (nI (i + 1)) (nI (h + 2)) (nI (ran + 1)) vh vw li ll sz eT va rN rC rR yo yg le pa (vp_updL st (h + 1) (st h)) qN qT qK qA on cR wa) :
    wY_execute_13 post (nI t) x3 bk fk lo ex 0 (n + 1) (nI i) (nI (h + 1)) (nI ran) vh vw li ll sz eT va rN rC rR yo yg le pa st qN qT qK qA on cR wa := by
  refine br_f (nI_ge (b := 80) hr (by decide)) ⟨tg_vi (tg_16i t i) (by omega) (by decide), nm_r ((tg_rd (tg_16i t i) (by omega)).trans hop) ⟨tg_vi (tg_16i t i) (by omega) (by decide), nm_r ((tg_rdL (tg_16i t i) (by omega)).trans hco) (nm_r (nI_1 i) ?_)⟩⟩
  exact br_f (by decide) (br_f (by decide) (br_f (by decide) (br_f (by decide) (br_t (by decide) (br_t (by decide) (br_t (by decide) (⟨tg_vi (nI_pred h) (by omega) (by decide), vp_in_nI (by omega) (by decide), nm_r (tg_uL rfl (by omega) (tg_rdL (nI_pred h) (by omega))) (nm_r (nI_1 (h + 1)) (nm_r (nI_1 ran) H))⟩)))))))
theorem ys_16 {post : Int32 → SY → Prop} (t4 : t < 4) (hr : ran < 80) (hi : i < 16) (hop : yo (16 * t + i) = nI 16) (hco : yg (16 * t + i) = c) (h3 : h < 3)
    (H : wY_execute_13 post (nI t) x3 bk fk lo ex 0 n (nI (i + 1)) (nI (h + 2)) (nI (ran + 1)) vh vw li ll sz eT va rN rC rR yo yg le pa (vp_updL (vp_updL st (h + 1) (st h)) h (st (h + 1))) qN qT qK qA on cR wa) :
    wY_execute_13 post (nI t) x3 bk fk lo ex 0 (n + 1) (nI i) (nI (h + 2)) (nI ran) vh vw li ll sz eT va rN rC rR yo yg le pa st qN qT qK qA on cR wa := by
  refine br_f (nI_ge (b := 80) hr (by decide)) ⟨tg_vi (tg_16i t i) (by omega) (by decide), nm_r ((tg_rd (tg_16i t i) (by omega)).trans hop) ⟨tg_vi (tg_16i t i) (by omega) (by decide), nm_r ((tg_rdL (tg_16i t i) (by omega)).trans hco) (nm_r (nI_1 i) ?_)⟩⟩
  exact br_f (by decide) (br_f (by decide) (br_f (by decide) (br_f (by decide) (br_t (by decide) (br_t (by decide) (br_f (by decide) (br_t (by decide) (⟨tg_vi (nI_pred (h + 1)) (by omega) (by decide), nm_r (tg_rdL (nI_pred (h + 1)) (by omega)) ⟨tg_vi (tg_s2 h) (by omega) (by decide), tg_vi (nI_pred (h + 1)) (by omega) (by decide), nm_r (tg_uL (nI_pred (h + 1)) (by omega) (tg_rdL (tg_s2 h) (by omega))) ⟨tg_vi (tg_s2 h) (by omega) (by decide), nm_r (tg_uL (tg_s2 h) (by omega) rfl) (nm_r (nI_1 ran) H)⟩⟩⟩))))))))
theorem ys_17 {post : Int32 → SY → Prop} (t4 : t < 4) (hr : ran < 80) (hi : i < 16) (hop : yo (16 * t + i) = nI 17) (hco : yg (16 * t + i) = c) 
    (H : wY_execute_13 post (nI t) x3 bk fk lo ex 0 n (nI (i + 1)) (nI h) (nI (ran + 1)) vh vw li ll sz eT va rN rC rR yo yg le pa st qN qT qK qA on cR wa) :
    wY_execute_13 post (nI t) x3 bk fk lo ex 0 (n + 1) (nI i) (nI (h + 1)) (nI ran) vh vw li ll sz eT va rN rC rR yo yg le pa st qN qT qK qA on cR wa := by
  refine br_f (nI_ge (b := 80) hr (by decide)) ⟨tg_vi (tg_16i t i) (by omega) (by decide), nm_r ((tg_rd (tg_16i t i) (by omega)).trans hop) ⟨tg_vi (tg_16i t i) (by omega) (by decide), nm_r ((tg_rdL (tg_16i t i) (by omega)).trans hco) (nm_r (nI_1 i) ?_)⟩⟩
  exact br_f (by decide) (br_f (by decide) (br_f (by decide) (br_f (by decide) (br_t (by decide) (br_t (by decide) (br_f (by decide) (br_f (by decide) (br_t (by decide) (nm_r (pk_m1 h) (nm_r (nI_1 ran) H))))))))))
theorem ys_18 {post : Int32 → SY → Prop} (t4 : t < 4) (hr : ran < 80) (hi : i < 16) (hop : yo (16 * t + i) = nI 18) (hco : yg (16 * t + i) = c) (h4 : h < 4)
    (H : wY_execute_13 post (nI t) x3 bk fk lo ex 0 n (nI (i + 1)) (nI h) (nI (ran + 1)) 1 (st h) li ll sz eT va rN rC rR yo yg le pa st qN qT qK qA on cR wa) :
    wY_execute_13 post (nI t) x3 bk fk lo ex 0 (n + 1) (nI i) (nI (h + 1)) (nI ran) vh vw li ll sz eT va rN rC rR yo yg le pa st qN qT qK qA on cR wa := by
  refine br_f (nI_ge (b := 80) hr (by decide)) ⟨tg_vi (tg_16i t i) (by omega) (by decide), nm_r ((tg_rd (tg_16i t i) (by omega)).trans hop) ⟨tg_vi (tg_16i t i) (by omega) (by decide), nm_r ((tg_rdL (tg_16i t i) (by omega)).trans hco) (nm_r (nI_1 i) ?_)⟩⟩
  exact br_f (by decide) (br_f (by decide) (br_f (by decide) (br_f (by decide) (br_t (by decide) (br_t (by decide) (br_f (by decide) (br_f (by decide) (br_f (by decide) (br_t (by decide) (nm_r (pk_m1 h) ⟨vp_in_nI (by omega) (by decide), nm_r (tg_rdL rfl (by omega)) (nm_r (nI_1 ran) H)⟩))))))))))
theorem ys_19 {post : Int32 → SY → Prop} (t4 : t < 4) (hr : ran < 80) (hi : i < 16) (hop : yo (16 * t + i) = nI 19) (hco : yg (16 * t + i) = c) 
    (H : wY_execute_13 post (nI t) x3 bk fk lo ex 0 n (nI (i + 1)) (nI h) (nI (ran + 1)) 0 vw li ll sz eT va rN rC rR yo yg le pa st qN qT qK qA on cR wa) :
    wY_execute_13 post (nI t) x3 bk fk lo ex 0 (n + 1) (nI i) (nI h) (nI ran) vh vw li ll sz eT va rN rC rR yo yg le pa st qN qT qK qA on cR wa := by
  refine br_f (nI_ge (b := 80) hr (by decide)) ⟨tg_vi (tg_16i t i) (by omega) (by decide), nm_r ((tg_rd (tg_16i t i) (by omega)).trans hop) ⟨tg_vi (tg_16i t i) (by omega) (by decide), nm_r ((tg_rdL (tg_16i t i) (by omega)).trans hco) (nm_r (nI_1 i) ?_)⟩⟩
  exact br_f (by decide) (br_f (by decide) (br_f (by decide) (br_f (by decide) (br_t (by decide) (br_t (by decide) (br_f (by decide) (br_f (by decide) (br_f (by decide) (br_f (by decide) (br_t (by decide) ((nm_r (nI_1 ran) H))))))))))))
theorem ys_20 {post : Int32 → SY → Prop} (t4 : t < 4) (hr : ran < 80) (hi : i < 16) (hop : yo (16 * t + i) = nI 20) (hco : yg (16 * t + i) = c) 
    (H : wY_execute_13 post (nI t) x3 bk fk lo ex 0 n c.toInt32 (nI h) (nI (ran + 1)) vh vw li ll sz eT va rN rC rR yo yg le pa st qN qT qK qA on cR wa) :
    wY_execute_13 post (nI t) x3 bk fk lo ex 0 (n + 1) (nI i) (nI h) (nI ran) vh vw li ll sz eT va rN rC rR yo yg le pa st qN qT qK qA on cR wa := by
  refine br_f (nI_ge (b := 80) hr (by decide)) ⟨tg_vi (tg_16i t i) (by omega) (by decide), nm_r ((tg_rd (tg_16i t i) (by omega)).trans hop) ⟨tg_vi (tg_16i t i) (by omega) (by decide), nm_r ((tg_rdL (tg_16i t i) (by omega)).trans hco) (nm_r (nI_1 i) ?_)⟩⟩
  exact br_f (by decide) (br_f (by decide) (br_f (by decide) (br_f (by decide) (br_t (by decide) (br_t (by decide) (br_f (by decide) (br_f (by decide) (br_f (by decide) (br_f (by decide) (br_f (by decide) (br_t (by decide) ((nm_r (nI_1 ran) H)))))))))))))
theorem ys_21a {post : Int32 → SY → Prop} (t4 : t < 4) (hr : ran < 80) (hi : i < 16) (hop : yo (16 * t + i) = nI 21) (hco : yg (16 * t + i) = c) (h4 : h < 4) (e : st h = 0)
    (H : wY_execute_13 post (nI t) x3 bk fk lo ex 0 n c.toInt32 (nI h) (nI (ran + 1)) vh vw li ll sz eT va rN rC rR yo yg le pa st qN qT qK qA on cR wa) :
    wY_execute_13 post (nI t) x3 bk fk lo ex 0 (n + 1) (nI i) (nI (h + 1)) (nI ran) vh vw li ll sz eT va rN rC rR yo yg le pa st qN qT qK qA on cR wa := by
  refine br_f (nI_ge (b := 80) hr (by decide)) ⟨tg_vi (tg_16i t i) (by omega) (by decide), nm_r ((tg_rd (tg_16i t i) (by omega)).trans hop) ⟨tg_vi (tg_16i t i) (by omega) (by decide), nm_r ((tg_rdL (tg_16i t i) (by omega)).trans hco) (nm_r (nI_1 i) ?_)⟩⟩
  exact br_f (by decide) (br_f (by decide) (br_f (by decide) (br_f (by decide) (br_t (by decide) (br_t (by decide) (br_f (by decide) (br_f (by decide) (br_f (by decide) (br_f (by decide) (br_f (by decide) (br_f (by decide) (nm_r (pk_m1 h) ⟨vp_in_nI (by omega) (by decide), br_t (by rw [nI_clamp (by omega)]; exact e) (nm_r (nI_1 ran) H)⟩))))))))))))
theorem ys_21b {post : Int32 → SY → Prop} (t4 : t < 4) (hr : ran < 80) (hi : i < 16) (hop : yo (16 * t + i) = nI 21) (hco : yg (16 * t + i) = c) (h4 : h < 4) (e : ¬ st h = 0)
    (H : wY_execute_13 post (nI t) x3 bk fk lo ex 0 n (nI (i + 1)) (nI h) (nI (ran + 1)) vh vw li ll sz eT va rN rC rR yo yg le pa st qN qT qK qA on cR wa) :
    wY_execute_13 post (nI t) x3 bk fk lo ex 0 (n + 1) (nI i) (nI (h + 1)) (nI ran) vh vw li ll sz eT va rN rC rR yo yg le pa st qN qT qK qA on cR wa := by
  refine br_f (nI_ge (b := 80) hr (by decide)) ⟨tg_vi (tg_16i t i) (by omega) (by decide), nm_r ((tg_rd (tg_16i t i) (by omega)).trans hop) ⟨tg_vi (tg_16i t i) (by omega) (by decide), nm_r ((tg_rdL (tg_16i t i) (by omega)).trans hco) (nm_r (nI_1 i) ?_)⟩⟩
  exact br_f (by decide) (br_f (by decide) (br_f (by decide) (br_f (by decide) (br_t (by decide) (br_t (by decide) (br_f (by decide) (br_f (by decide) (br_f (by decide) (br_f (by decide) (br_f (by decide) (br_f (by decide) (nm_r (pk_m1 h) ⟨vp_in_nI (by omega) (by decide), br_f (by rw [nI_clamp (by omega)]; exact e) (nm_r (nI_1 ran) H)⟩))))))))))))
theorem ys_22 {post : Int32 → SY → Prop} (t4 : t < 4) (hr : ran < 80) (hi : i < 16) (hop : yo (16 * t + i) = nI 22) (hco : yg (16 * t + i) = c) 
    (H : post 1 (bk, fk, lo, ex, vh, vw, 0, li, ll, sz, eT, va, rN, rC, rR, yo, yg, le, pa, st, qN, qT, qK, qA, on, cR, wa)) :
    wY_execute_13 post (nI t) x3 bk fk lo ex 0 (n + 1) (nI i) (nI h) (nI ran) vh vw li ll sz eT va rN rC rR yo yg le pa st qN qT qK qA on cR wa := by
  refine br_f (nI_ge (b := 80) hr (by decide)) ⟨tg_vi (tg_16i t i) (by omega) (by decide), nm_r ((tg_rd (tg_16i t i) (by omega)).trans hop) ⟨tg_vi (tg_16i t i) (by omega) (by decide), nm_r ((tg_rdL (tg_16i t i) (by omega)).trans hco) (nm_r (nI_1 i) ?_)⟩⟩
  exact br_t (by decide) H
theorem ys_23 {post : Int32 → SY → Prop} (t4 : t < 4) (hr : ran < 80) (hi : i < 16) (hop : yo (16 * t + i) = nI 23) (hco : yg (16 * t + i) = c) (h4 : h < 4)
    (H : post 0 (bk, fk, lo, ex, vh, vw, (st h), li, ll, sz, eT, va, rN, rC, rR, yo, yg, le, pa, st, qN, qT, qK, qA, on, cR, wa)) :
    wY_execute_13 post (nI t) x3 bk fk lo ex 0 (n + 1) (nI i) (nI (h + 1)) (nI ran) vh vw li ll sz eT va rN rC rR yo yg le pa st qN qT qK qA on cR wa := by
  refine br_f (nI_ge (b := 80) hr (by decide)) ⟨tg_vi (tg_16i t i) (by omega) (by decide), nm_r ((tg_rd (tg_16i t i) (by omega)).trans hop) ⟨tg_vi (tg_16i t i) (by omega) (by decide), nm_r ((tg_rdL (tg_16i t i) (by omega)).trans hco) (nm_r (nI_1 i) ?_)⟩⟩
  exact br_f (by decide) (br_f (by decide) (br_f (by decide) (br_t (by decide) ⟨tg_vi (nI_pred h) (by omega) (by decide), nm_r (tg_rdL (nI_pred h) (by omega)) H⟩)))
theorem ys_bf {post : Int32 → SY → Prop} {o : Nat} (t4 : t < 4) (hr : ran < 80) (hi : i < 16) (hop : yo (16 * t + i) = nI o) (hco : yg (16 * t + i) = c) (h3 : h < 3) (o7 : o = 7 ∨ o = 8) (e : st (h + 1) = 0)
    (H : post 1 (bk, fk, lo, ex, vh, vw, 0, li, ll, sz, eT, va, rN, rC, rR, yo, yg, le, pa, st, qN, qT, qK, qA, on, cR, wa)) :
    wY_execute_13 post (nI t) x3 bk fk lo ex 0 (n + 1) (nI i) (nI (h + 2)) (nI ran) vh vw li ll sz eT va rN rC rR yo yg le pa st qN qT qK qA on cR wa := by
  refine br_f (nI_ge (b := 80) hr (by decide)) ⟨tg_vi (tg_16i t i) (by omega) (by decide), nm_r ((tg_rd (tg_16i t i) (by omega)).trans hop) ⟨tg_vi (tg_16i t i) (by omega) (by decide), nm_r ((tg_rdL (tg_16i t i) (by omega)).trans hco) (nm_r (nI_1 i) ?_)⟩⟩
  have e2 : st (nI (h + 1 + 1) - 1).toNatClampNeg = 0 := by rw [nI_pred, nI_clamp (by omega)]; exact e
  rcases o7 with rfl | rfl
  · exact br_f (by decide) (br_t (by decide) ⟨tg_vi (nI_pred (h + 1)) (by omega) (by decide), br_t e2 H⟩)
  · exact br_f (by decide) (br_f (by decide) (br_t (by decide) ⟨tg_vi (nI_pred (h + 1)) (by omega) (by decide), br_t e2 H⟩))
theorem ys_b7 {post : Int32 → SY → Prop} {o : Nat} (t4 : t < 4) (hr : ran < 80) (hi : i < 16) (hop : yo (16 * t + i) = nI o) (hco : yg (16 * t + i) = c) (h3 : h < 3) (o7 : o = 7 ∨ o = 8) (e : ¬ st (h + 1) = 0)
    (H : wY_execute_13 post (nI t) x3 bk fk lo ex 0 n (nI (i + 1)) (nI (h + 1)) (nI (ran + 1)) vh vw li ll sz eT va rN rC rR yo yg le pa (vp_updL st h (tg_op o (st h) (st (h + 1)))) qN qT qK qA on cR wa) :
    wY_execute_13 post (nI t) x3 bk fk lo ex 0 (n + 1) (nI i) (nI (h + 2)) (nI ran) vh vw li ll sz eT va rN rC rR yo yg le pa st qN qT qK qA on cR wa := by
  refine br_f (nI_ge (b := 80) hr (by decide)) ⟨tg_vi (tg_16i t i) (by omega) (by decide), nm_r ((tg_rd (tg_16i t i) (by omega)).trans hop) ⟨tg_vi (tg_16i t i) (by omega) (by decide), nm_r ((tg_rdL (tg_16i t i) (by omega)).trans hco) (nm_r (nI_1 i) ?_)⟩⟩
  have e2 : ¬ st (nI (h + 1 + 1) - 1).toNatClampNeg = 0 := by rw [nI_pred, nI_clamp (by omega)]; exact e
  have K : wY_execute_86 post (wY_execute_13 post (nI t) x3 bk fk lo ex 0 n) (nI t) x3 (nI (i + 1)) (nI (h + 2)) (nI ran) (nI o) c bk fk lo ex vh vw 0 li ll sz eT va rN rC rR yo yg le pa st qN qT qK qA on cR wa := by
    refine br_f (tg_neI (b := 23) (by omega) (by omega) (by decide)) (br_t (nI_le (a := 4) (by omega) (by omega)) (br_f (nI_ge (b := 15) (by omega) (by decide)) (nm_r (pk_m1 (h + 1)) ⟨tg_vi (nI_pred h) (by omega) (by decide), vp_in_nI (by omega) (by decide), ?_⟩)))
    rw [nI_pred, nI_clamp (n := h) (by omega), nI_clamp (n := h + 1) (by omega)]
    exact yp_comp (by omega) (by omega) (fun _ => e) ⟨vp_in_nI (by omega) (by decide), nm_e (nm_r (nI_1 ran) H)⟩
  rcases o7 with rfl | rfl
  · exact br_f (by decide) (br_t (by decide) ⟨tg_vi (nI_pred (h + 1)) (by omega) (by decide), br_f e2 K⟩)
  · exact br_f (by decide) (br_f (by decide) (br_t (by decide) ⟨tg_vi (nI_pred (h + 1)) (by omega) (by decide), br_f e2 K⟩))
theorem ys_bo {post : Int32 → SY → Prop} {o : Nat} (t4 : t < 4) (hr : ran < 80) (hi : i < 16) (hop : yo (16 * t + i) = nI o) (hco : yg (16 * t + i) = c) (h3 : h < 3) (o1 : 4 ≤ o) (o2 : o ≤ 14) (o7 : o ≠ 7) (o8 : o ≠ 8)
    (H : wY_execute_13 post (nI t) x3 bk fk lo ex 0 n (nI (i + 1)) (nI (h + 1)) (nI (ran + 1)) vh vw li ll sz eT va rN rC rR yo yg le pa (vp_updL st h (tg_op o (st h) (st (h + 1)))) qN qT qK qA on cR wa) :
    wY_execute_13 post (nI t) x3 bk fk lo ex 0 (n + 1) (nI i) (nI (h + 2)) (nI ran) vh vw li ll sz eT va rN rC rR yo yg le pa st qN qT qK qA on cR wa := by
  refine br_f (nI_ge (b := 80) hr (by decide)) ⟨tg_vi (tg_16i t i) (by omega) (by decide), nm_r ((tg_rd (tg_16i t i) (by omega)).trans hop) ⟨tg_vi (tg_16i t i) (by omega) (by decide), nm_r ((tg_rdL (tg_16i t i) (by omega)).trans hco) (nm_r (nI_1 i) ?_)⟩⟩
  have K : wY_execute_86 post (wY_execute_13 post (nI t) x3 bk fk lo ex 0 n) (nI t) x3 (nI (i + 1)) (nI (h + 2)) (nI ran) (nI o) c bk fk lo ex vh vw 0 li ll sz eT va rN rC rR yo yg le pa st qN qT qK qA on cR wa := by
    refine br_f (tg_neI (b := 23) (by omega) (by omega) (by decide)) (br_t (nI_le (a := 4) (by omega) (by omega)) (br_f (nI_ge (b := 15) (by omega) (by decide)) (nm_r (pk_m1 (h + 1)) ⟨tg_vi (nI_pred h) (by omega) (by decide), vp_in_nI (by omega) (by decide), ?_⟩)))
    rw [nI_pred, nI_clamp (n := h) (by omega), nI_clamp (n := h + 1) (by omega)]
    exact yp_comp (by omega) (by omega) (fun y => by omega) ⟨vp_in_nI (by omega) (by decide), nm_e (nm_r (nI_1 ran) H)⟩
  exact br_f (tg_neI (b := 22) (by omega) (by omega) (by decide)) (br_f (tg_neI (b := 7) o7 (by omega) (by decide)) (br_f (tg_neI (b := 8) o8 (by omega) (by decide)) K))
end YO
