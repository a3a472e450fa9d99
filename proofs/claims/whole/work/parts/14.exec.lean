/-! 14: a run of a task, both sides in step (written by genexec.py) -/
def tg_VW (vt : Int32) (vv vw : Int64) : Prop := (vt = 0 ∧ vv = 0) ∨ (vt = 1 ∧ vv = vw)
section EB
variable {bk : Int32} {lv : Int32} {ds : Int32} {fk : Int32} {lo : Int32} {ex : Int32} {ht : Int32} {vt : Int32} {vv : Int64} {rc : Int32} {rr : Int64} {ls : Nat → Int32} {eT : Nat → Int32} {eV : Nat → Int64} {rN : Nat → Int32} {rC : Nat → Int32} {rR : Nat → Int64} {dO : Nat → Int32} {dC : Nat → Int64} {tS : Nat → Int32} {tO : Nat → Int32} {tC : Nat → Int64} {re : Nat → Int32} {qN : Nat → Int32} {qT : Nat → Int32} {qK : Nat → Int32} {qA : Nat → Int32} {an : Nat → Int32} {cR : Nat → Int64} {sk : Nat → Int64} {vh : Int32} {vw : Int64} {oc : Int64} {li : Nat → Int32} {ll : Nat → Int32} {sz : Nat → Int32} {va : Nat → Int64} {yo : Nat → Int32} {yg : Nat → Int64} {le : Nat → Int32} {pa : Nat → Int32} {st : Nat → Int64} {on : Nat → Int32} {wa : Nat → Int32} {t z : Nat} {x3 ey : Int32}
theorem tg_subk {k h : Nat} (e : k ≤ h) : ∃ x, h = x + k := ⟨h - k, (Nat.sub_add_cancel e).symm⟩
theorem tg_ag {h : Nat} {sk st : Nat → Int64} {v v2 : Int64} (H : ∀ j, j < h → sk j = st j) (e : v = v2) : ∀ j, j < h + 1 → vp_updL sk h v j = vp_updL st h v2 j := by
  intro j hj
  by_cases z : j = h
  · rw [z, pk_uLs, pk_uLs, e]
  · rw [pk_uLn z, pk_uLn z]; exact H j (by omega)
theorem ex_stopX {post : SX → Prop} {n : Nat} {y r : Int32} (hr : r = -1 ∨ r = -2) (hn : 0 < n)
    (H : post (bk, lv, ds, fk, lo, ex, ht, vt, vv, (if r = -1 then 0 else 1), rr, ls, eT, eV, rN, rC, rR, dO, dC, tS, tO, tC, re, qN, qT, qK, qA, an, cR, sk)) : wX_execute_70 post (nI t) x3 n r y bk lv ds fk lo ex ht vt vv rc rr ls eT eV rN rC rR dO dC tS tO tC re qN qT qK qA an cR sk := by
  obtain ⟨n, rfl⟩ : ∃ k, n = k + 1 := ⟨n - 1, by omega⟩
  rcases hr with rfl | rfl
  · rw [if_pos rfl] at H
    exact br_c (fun _ => br_t rfl H) (fun _ => br_t (by decide) (br_t rfl H))
  · rw [if_neg (by decide)] at H
    exact br_c (fun _ => br_f (by decide) (br_t rfl H)) (fun _ => br_t (by decide) (br_f (by decide) (br_t rfl H)))
theorem ex_both {w : Nat → Nat} {R : Nat → Bool} (t4 : t < 4) (hz : z ≤ 16) (hS : tS t = nI z) (hO : ∀ i, i < z → w i < 24 ∧ tO (16 * t + i) = nI (w i) ∧ yo (16 * t + i) = nI (w i) ∧ tC (16 * t + i) = yg (16 * t + i))
    (hR : ∀ i, i < z → ∀ d, d < 5 → R (5 * i + d) = true → tg_tk (w i) ≤ d ∧ tg_e (w i) d ≤ 4 ∧ (w i ≠ 20 → w i < 22 → i + 1 < z ∧ R (5 * (i + 1) + tg_e (w i) d) = true) ∧ (w i = 20 ∨ w i = 21 → ∃ j, j < z ∧ yg (16 * t + i) = lN j ∧ R (5 * j + tg_e (w i) d) = true)) :
    ∀ (d ran i h : Nat) (sk st : Nat → Int64) (vt : Int32) (vv vw : Int64), ran + d = 80 → i < z → h < 5 → R (5 * i + h) = true → (∀ j, j < h → sk j = st j) → tg_VW vt vv vw → ∃ (co : Int32) (res : Int64) (vt9 ht9 : Int32) (vv9 vw9 : Int64) (sk9 st9 : Nat → Int64), (co = 0 ∨ co = 1 ∨ co = 2) ∧ tg_VW vt9 vv9 vw9 ∧ (∀ post : SX → Prop, post (bk, lv, ds, fk, lo, ex, ht9, vt9, vv9, co, res, ls, eT, eV, rN, rC, rR, dO, dC, tS, tO, tC, re, qN, qT, qK, qA, an, cR, sk9) → ∀ n, d < n → wX_execute_70 post (nI t) x3 n (nI i) (nI ran) bk lv ds fk lo ex (nI h) vt vv rc 0 ls eT eV rN rC rR dO dC tS tO tC re qN qT qK qA an cR sk) ∧ (∀ post : Int32 → SY → Prop, post co (bk, fk, lo, ey, vt9, vw9, res, li, ll, sz, eT, va, rN, rC, rR, yo, yg, le, pa, st9, qN, qT, qK, qA, on, cR, wa) → ∀ n, d < n → wY_execute_13 post (nI t) x3 bk fk lo ey 0 n (nI i) (nI h) (nI ran) vt vw li ll sz eT va rN rC rR yo yg le pa st qN qT qK qA on cR wa) := by
  intro d
  induction d with
  | zero =>
    intro ran i h sk st vt vv vw hd hi hh hRi hag hvw
    obtain rfl : ran = 80 := by omega
    refine ⟨2, 0, vt, nI h, vv, vw, sk, st, Or.inr (Or.inr rfl), hvw, fun post hp n hn => ?_, fun post hp n hn => ?_⟩
    · obtain ⟨n, rfl⟩ : ∃ k, n = k + 1 := ⟨n - 1, by omega⟩
      have e1 : ¬ nI i = -1 := fun e => by have := nI_pos (n := i) (by omega); rw [e] at this; exact this (by decide)
      have e2 : ¬ nI i = -2 := fun e => by have := nI_pos (n := i) (by omega); rw [e] at this; exact this (by decide)
      exact br_t (by decide) (br_f e1 (br_f e2 hp))
    · obtain ⟨n, rfl⟩ : ∃ k, n = k + 1 := ⟨n - 1, by omega⟩
      exact br_t (by decide) hp
  | succ d ih =>
    intro ran i h sk st vt vv vw hd hi hh hRi hag hvw
    have hr : ran < 80 := by omega
    have i16 : i < 16 := by omega
    obtain ⟨hw, hop, hyo, hcc⟩ := hO i hi
    obtain ⟨tk, e4, hs, hj⟩ := hR i hi h hh hRi
    have NX : ∀ (i2 h2 : Nat) (sk2 st2 : Nat → Int64) (vt2 : Int32) (vv2 vw2 : Int64), i2 < z → h2 < 5 → R (5 * i2 + h2) = true → (∀ j, j < h2 → sk2 j = st2 j) → tg_VW vt2 vv2 vw2 →
        (∀ (post : SX → Prop) (n : Nat), wX_execute_70 post (nI t) x3 n (nI i2) (nI (ran + 1)) bk lv ds fk lo ex (nI h2) vt2 vv2 rc 0 ls eT eV rN rC rR dO dC tS tO tC re qN qT qK qA an cR sk2 → wX_execute_70 post (nI t) x3 (n + 1) (nI i) (nI ran) bk lv ds fk lo ex (nI h) vt vv rc 0 ls eT eV rN rC rR dO dC tS tO tC re qN qT qK qA an cR sk) →
        (∀ (post : Int32 → SY → Prop) (n : Nat), wY_execute_13 post (nI t) x3 bk fk lo ey 0 n (nI i2) (nI h2) (nI (ran + 1)) vt2 vw2 li ll sz eT va rN rC rR yo yg le pa st2 qN qT qK qA on cR wa → wY_execute_13 post (nI t) x3 bk fk lo ey 0 (n + 1) (nI i) (nI h) (nI ran) vt vw li ll sz eT va rN rC rR yo yg le pa st qN qT qK qA on cR wa) → ∃ (co : Int32) (res : Int64) (vt9 ht9 : Int32) (vv9 vw9 : Int64) (sk9 st9 : Nat → Int64), (co = 0 ∨ co = 1 ∨ co = 2) ∧ tg_VW vt9 vv9 vw9 ∧ (∀ post : SX → Prop, post (bk, lv, ds, fk, lo, ex, ht9, vt9, vv9, co, res, ls, eT, eV, rN, rC, rR, dO, dC, tS, tO, tC, re, qN, qT, qK, qA, an, cR, sk9) → ∀ n, (d + 1) < n → wX_execute_70 post (nI t) x3 n (nI i) (nI ran) bk lv ds fk lo ex (nI h) vt vv rc 0 ls eT eV rN rC rR dO dC tS tO tC re qN qT qK qA an cR sk) ∧ (∀ post : Int32 → SY → Prop, post co (bk, fk, lo, ey, vt9, vw9, res, li, ll, sz, eT, va, rN, rC, rR, yo, yg, le, pa, st9, qN, qT, qK, qA, on, cR, wa) → ∀ n, (d + 1) < n → wY_execute_13 post (nI t) x3 bk fk lo ey 0 n (nI i) (nI h) (nI ran) vt vw li ll sz eT va rN rC rR yo yg le pa st qN qT qK qA on cR wa) := by
      intro i2 h2 sk2 st2 vt2 vv2 vw2 a1 a2 a3 a4 a5 a6 a7
      obtain ⟨co, res, vt9, ht9, vv9, vw9, sk9, st9, b1, b2, b3, b4⟩ := ih (ran + 1) i2 h2 sk2 st2 vt2 vv2 vw2 (by omega) a1 a2 a3 a4 a5
      refine ⟨co, res, vt9, ht9, vv9, vw9, sk9, st9, b1, b2, fun post hp n hn => ?_, fun post hp n hn => ?_⟩
      · obtain ⟨n, rfl⟩ : ∃ k, n = k + 1 := ⟨n - 1, by omega⟩
        exact a6 post n (b3 post hp n (by omega))
      · obtain ⟨n, rfl⟩ : ∃ k, n = k + 1 := ⟨n - 1, by omega⟩
        exact a7 post n (b4 post hp n (by omega))
    have FL : ∀ ht2 : Int32, (∀ (post : SX → Prop) (n : Nat), 0 < n → post (bk, lv, ds, fk, lo, ex, ht2, vt, vv, 1, 0, ls, eT, eV, rN, rC, rR, dO, dC, tS, tO, tC, re, qN, qT, qK, qA, an, cR, sk) → wX_execute_70 post (nI t) x3 (n + 1) (nI i) (nI ran) bk lv ds fk lo ex (nI h) vt vv rc 0 ls eT eV rN rC rR dO dC tS tO tC re qN qT qK qA an cR sk) → (∀ (post : Int32 → SY → Prop) (n : Nat), post 1 (bk, fk, lo, ey, vt, vw, 0, li, ll, sz, eT, va, rN, rC, rR, yo, yg, le, pa, st, qN, qT, qK, qA, on, cR, wa) → wY_execute_13 post (nI t) x3 bk fk lo ey 0 (n + 1) (nI i) (nI h) (nI ran) vt vw li ll sz eT va rN rC rR yo yg le pa st qN qT qK qA on cR wa) → ∃ (co : Int32) (res : Int64) (vt9 ht9 : Int32) (vv9 vw9 : Int64) (sk9 st9 : Nat → Int64), (co = 0 ∨ co = 1 ∨ co = 2) ∧ tg_VW vt9 vv9 vw9 ∧ (∀ post : SX → Prop, post (bk, lv, ds, fk, lo, ex, ht9, vt9, vv9, co, res, ls, eT, eV, rN, rC, rR, dO, dC, tS, tO, tC, re, qN, qT, qK, qA, an, cR, sk9) → ∀ n, (d + 1) < n → wX_execute_70 post (nI t) x3 n (nI i) (nI ran) bk lv ds fk lo ex (nI h) vt vv rc 0 ls eT eV rN rC rR dO dC tS tO tC re qN qT qK qA an cR sk) ∧ (∀ post : Int32 → SY → Prop, post co (bk, fk, lo, ey, vt9, vw9, res, li, ll, sz, eT, va, rN, rC, rR, yo, yg, le, pa, st9, qN, qT, qK, qA, on, cR, wa) → ∀ n, (d + 1) < n → wY_execute_13 post (nI t) x3 bk fk lo ey 0 n (nI i) (nI h) (nI ran) vt vw li ll sz eT va rN rC rR yo yg le pa st qN qT qK qA on cR wa) := by
      intro ht2 a1 a2
      refine ⟨1, 0, vt, ht2, vv, vw, sk, st, Or.inr (Or.inl rfl), hvw, fun post hp n hn => ?_, fun post hp n hn => ?_⟩
      · obtain ⟨n, rfl⟩ : ∃ k, n = k + 1 := ⟨n - 1, by omega⟩
        exact a1 post n (by omega) hp
      · obtain ⟨n, rfl⟩ : ∃ k, n = k + 1 := ⟨n - 1, by omega⟩
        exact a2 post n hp
    generalize ho : w i = o at hw hop hyo tk e4 hs hj
    clear hO hR ih
    by_cases bin : 4 ≤ o ∧ o ≤ 14
    · have k2 : tg_tk o = 2 := if_pos (Or.inl bin)
      have g1 : tg_gv o = 1 := by unfold tg_gv; rw [if_neg (by omega), if_pos (by omega)]
      unfold tg_e at e4 hs hj
      rw [k2] at tk e4 hs
      rw [g1] at e4 hs
      clear hj
      obtain ⟨h, rfl⟩ := tg_subk tk
      obtain ⟨n1, n2⟩ := hs (by omega) (by omega)
      have ag0 : sk h = st h := hag h (by omega)
      have ag1 : sk (h + 1) = st (h + 1) := hag (h + 1) (by omega)
      by_cases o7 : o = 7 ∨ o = 8
      · by_cases e : sk (h + 1) = 0
        · refine FL (nI h) (fun post n hn hp => xs_bf t4 hr hi hz hS hop rfl (by omega) o7 e (ex_stopX (Or.inr rfl) hn ?_)) (fun post n hp => ys_bf t4 hr i16 hyo rfl (by omega) o7 (by rw [← ag1]; exact e) hp)
          rw [if_neg (by decide)]; exact hp
        · exact NX (i + 1) (h + 1) (vp_updL sk h (tg_op o (sk h) (sk (h + 1)))) (vp_updL st h (tg_op o (st h) (st (h + 1)))) vt vv vw n1 (by omega) n2 (tg_ag (fun j hj => hag j (by omega)) (by rw [ag0, ag1])) hvw
            (fun post n q => xs_b7 t4 hr hi hz hS hop rfl (by omega) o7 e (by rw [nI_1 i]; exact q)) (fun post n q => ys_b7 t4 hr i16 hyo rfl (by omega) o7 (by rw [← ag1]; exact e) q)
      · exact NX (i + 1) (h + 1) (vp_updL sk h (tg_op o (sk h) (sk (h + 1)))) (vp_updL st h (tg_op o (st h) (st (h + 1)))) vt vv vw n1 (by omega) n2 (tg_ag (fun j hj => hag j (by omega)) (by rw [ag0, ag1])) hvw
          (fun post n q => xs_bo t4 hr hi hz hS hop rfl (by omega) bin.1 bin.2 (by omega) (by omega) (by rw [nI_1 i]; exact q)) (fun post n q => ys_bo t4 hr i16 hyo rfl (by omega) bin.1 bin.2 (by omega) (by omega) q)
    · have : o = 0 ∨ o = 1 ∨ o = 2 ∨ o = 3 ∨ o = 15 ∨ o = 16 ∨ o = 17 ∨ o = 18 ∨ o = 19 ∨ o = 20 ∨ o = 21 ∨ o = 22 ∨ o = 23 := by omega
      unfold tg_e at e4 hs hj
      rcases this with rfl | rfl | rfl | rfl | rfl | rfl | rfl | rfl | rfl | rfl | rfl | rfl | rfl
      · have k2 : tg_tk 0 = 0 := by decide
        have g1 : tg_gv 0 = 1 := by decide
        rw [k2] at tk e4 hs hj
        rw [g1] at e4 hs hj
        obtain ⟨n1, n2⟩ := hs (by decide) (by decide)
        clear hj
        exact NX (i + 1) (h + 1) (vp_updL sk h (tC (16 * t + i))) (vp_updL st h (yg (16 * t + i))) vt vv vw n1 (by omega) n2 (tg_ag hag hcc) hvw
          (fun post n q => xs_0 t4 hr hi hz hS hop rfl (by omega) (by rw [nI_1 i]; exact q)) (fun post n q => ys_0 t4 hr i16 hyo rfl (by omega) q)
      · have k2 : tg_tk 1 = 0 := by decide
        have g1 : tg_gv 1 = 1 := by decide
        rw [k2] at tk e4 hs hj
        rw [g1] at e4 hs hj
        obtain ⟨n1, n2⟩ := hs (by decide) (by decide)
        clear hj
        exact NX (i + 1) (h + 1) (vp_updL sk h vv) (vp_updL st h (if vt = 0 then 0 else vw)) vt vv vw n1 (by omega) n2 (tg_ag hag (by
          rcases hvw with ⟨a, b⟩ | ⟨a, b⟩
          · rw [if_pos a, b]
          · rw [if_neg (by rw [a]; decide), b])) hvw
          (fun post n q => xs_1 t4 hr hi hz hS hop rfl (by omega) (by rw [nI_1 i]; exact q)) (fun post n q => ys_1 t4 hr i16 hyo rfl (by omega) q)
      · have k2 : tg_tk 2 = 0 := by decide
        have g1 : tg_gv 2 = 1 := by decide
        rw [k2] at tk e4 hs hj
        rw [g1] at e4 hs hj
        obtain ⟨n1, n2⟩ := hs (by decide) (by decide)
        clear hj
        exact NX (i + 1) (h + 1) (vp_updL sk h (if vt = 0 then 0 else 1)) (vp_updL st h (if vt = 0 then 0 else 1)) vt vv vw n1 (by omega) n2 (tg_ag hag rfl) hvw
          (fun post n q => xs_2 t4 hr hi hz hS hop rfl (by omega) (by rw [nI_1 i]; exact q)) (fun post n q => ys_2 t4 hr i16 hyo rfl (by omega) q)
      · have k2 : tg_tk 3 = 0 := by decide
        have g1 : tg_gv 3 = 1 := by decide
        rw [k2] at tk e4 hs hj
        rw [g1] at e4 hs hj
        obtain ⟨n1, n2⟩ := hs (by decide) (by decide)
        clear hj
        exact NX (i + 1) (h + 1) (vp_updL sk h x3.toInt64) (vp_updL st h x3.toInt64) vt vv vw n1 (by omega) n2 (tg_ag hag rfl) hvw
          (fun post n q => xs_3 t4 hr hi hz hS hop rfl (by omega) (by rw [nI_1 i]; exact q)) (fun post n q => ys_3 t4 hr i16 hyo rfl (by omega) q)
      · have k2 : tg_tk 15 = 1 := by decide
        have g1 : tg_gv 15 = 2 := by decide
        rw [k2] at tk e4 hs hj
        rw [g1] at e4 hs hj
        obtain ⟨h, rfl⟩ := tg_subk tk
        obtain ⟨n1, n2⟩ := hs (by decide) (by decide)
        clear hj
        have ag0 : sk h = st h := hag h (by omega)
        refine NX (i + 1) (h + 2) (vp_updL (vp_updL sk h (sk h)) (h + 1) (sk h)) (vp_updL st (h + 1) (st h)) vt vv vw n1 (by omega) n2 (tg_ag (fun j hj => ?_) ag0) hvw
          (fun post n q => xs_15 t4 hr hi hz hS hop rfl (by omega) (by rw [nI_1 i]; exact q)) (fun post n q => ys_15 t4 hr i16 hyo rfl (by omega) q)
        by_cases e : j = h
        · rw [e, pk_uLs]; exact ag0
        · rw [pk_uLn e]; exact hag j (by omega)
      · have k2 : tg_tk 16 = 2 := by decide
        have g1 : tg_gv 16 = 2 := by decide
        rw [k2] at tk e4 hs hj
        rw [g1] at e4 hs hj
        obtain ⟨h, rfl⟩ := tg_subk tk
        obtain ⟨n1, n2⟩ := hs (by decide) (by decide)
        clear hj
        have ag0 : sk h = st h := hag h (by omega)
        have ag1 : sk (h + 1) = st (h + 1) := hag (h + 1) (by omega)
        refine NX (i + 1) (h + 2) (vp_updL (vp_updL sk h (sk (h + 1))) (h + 1) (sk h)) (vp_updL (vp_updL st (h + 1) (st h)) h (st (h + 1))) vt vv vw n1 (by omega) n2 (fun j hj => ?_) hvw
          (fun post n q => xs_16 t4 hr hi hz hS hop rfl (by omega) (by rw [nI_1 i]; exact q)) (fun post n q => ys_16 t4 hr i16 hyo rfl (by omega) q)
        by_cases e : j = h + 1
        · rw [e, pk_uLs, pk_uLn (by omega), pk_uLs]; exact ag0
        · rw [pk_uLn e]
          by_cases e2 : j = h
          · rw [e2, pk_uLs, pk_uLs]; exact ag1
          · rw [pk_uLn e2, pk_uLn e2, pk_uLn e]; exact hag j (by omega)
      · have k2 : tg_tk 17 = 1 := by decide
        have g1 : tg_gv 17 = 0 := by decide
        rw [k2] at tk e4 hs hj
        rw [g1] at e4 hs hj
        obtain ⟨h, rfl⟩ := tg_subk tk
        obtain ⟨n1, n2⟩ := hs (by decide) (by decide)
        clear hj
        exact NX (i + 1) h sk st vt vv vw n1 (by omega) n2 (fun j hj => hag j (by omega)) hvw
          (fun post n q => xs_17 t4 hr hi hz hS hop rfl (by omega) (by rw [nI_1 i]; exact q)) (fun post n q => ys_17 t4 hr i16 hyo rfl q)
      · have k2 : tg_tk 18 = 1 := by decide
        have g1 : tg_gv 18 = 0 := by decide
        rw [k2] at tk e4 hs hj
        rw [g1] at e4 hs hj
        obtain ⟨h, rfl⟩ := tg_subk tk
        obtain ⟨n1, n2⟩ := hs (by decide) (by decide)
        clear hj
        exact NX (i + 1) h sk st 1 (sk h) (st h) n1 (by omega) n2 (fun j hj => hag j (by omega)) (Or.inr ⟨rfl, hag h (by omega)⟩)
          (fun post n q => xs_18 t4 hr hi hz hS hop rfl (by omega) (by rw [nI_1 i]; exact q)) (fun post n q => ys_18 t4 hr i16 hyo rfl (by omega) q)
      · have k2 : tg_tk 19 = 0 := by decide
        have g1 : tg_gv 19 = 0 := by decide
        rw [k2] at tk e4 hs hj
        rw [g1] at e4 hs hj
        obtain ⟨n1, n2⟩ := hs (by decide) (by decide)
        clear hj
        exact NX (i + 1) h sk st 0 0 vw n1 (by omega) n2 (fun j hj => hag j (by omega)) (Or.inl ⟨rfl, rfl⟩)
          (fun post n q => xs_19 t4 hr hi hz hS hop rfl (by rw [nI_1 i]; exact q)) (fun post n q => ys_19 t4 hr i16 hyo rfl q)
      · have k2 : tg_tk 20 = 0 := by decide
        have g1 : tg_gv 20 = 0 := by decide
        rw [k2] at tk e4 hs hj
        rw [g1] at e4 hs hj
        obtain ⟨jj, m1, m2, m3⟩ := hj (by decide)
        clear hj
        exact NX jj h sk st vt vv vw m1 (by omega) m3 hag hvw
          (fun post n q => xs_20 t4 hr hi hz hS hop (hcc.trans m2) (by rw [lN_i]; exact q)) (fun post n q => ys_20 t4 hr i16 hyo m2 (by rw [lN_i]; exact q))
      · have k2 : tg_tk 21 = 1 := by decide
        have g1 : tg_gv 21 = 0 := by decide
        rw [k2] at tk e4 hs hj
        rw [g1] at e4 hs hj
        obtain ⟨h, rfl⟩ := tg_subk tk
        obtain ⟨n1, n2⟩ := hs (by decide) (by decide)
        obtain ⟨jj, m1, m2, m3⟩ := hj (by decide)
        clear hj
        have ag0 : sk h = st h := hag h (by omega)
        by_cases e : sk h = 0
        · exact NX jj h sk st vt vv vw m1 (by omega) m3 (fun j hj => hag j (by omega)) hvw
            (fun post n q => xs_21a t4 hr hi hz hS hop (hcc.trans m2) (by omega) e (by rw [lN_i]; exact q)) (fun post n q => ys_21a t4 hr i16 hyo m2 (by omega) (by rw [← ag0]; exact e) (by rw [lN_i]; exact q))
        · exact NX (i + 1) h sk st vt vv vw n1 (by omega) n2 (fun j hj => hag j (by omega)) hvw
            (fun post n q => xs_21b t4 hr hi hz hS hop (hcc.trans m2) (by omega) e (by rw [nI_1 i]; exact q)) (fun post n q => ys_21b t4 hr i16 hyo m2 (by omega) (by rw [← ag0]; exact e) q)
      · refine FL (nI h) (fun post n hn hp => xs_22 t4 hr hi hz hS hop rfl (ex_stopX (Or.inr rfl) hn ?_)) (fun post n hp => ys_22 t4 hr i16 hyo rfl hp)
        rw [if_neg (by decide)]; exact hp
      · have k2 : tg_tk 23 = 1 := by decide
        have g1 : tg_gv 23 = 0 := by decide
        rw [k2] at tk e4 hs hj
        rw [g1] at e4 hs hj
        obtain ⟨h, rfl⟩ := tg_subk tk
        clear hj
        refine ⟨0, sk h, vt, nI h, vv, vw, sk, st, Or.inl rfl, hvw, fun post hp n hn => ?_, fun post hp n hn => ?_⟩
        · obtain ⟨n, rfl⟩ : ∃ k, n = k + 1 := ⟨n - 1, by omega⟩
          refine xs_23 t4 hr hi hz hS hop rfl (by omega) (ex_stopX (Or.inl rfl) (by omega) ?_)
          rw [if_pos rfl]; exact hp
        · obtain ⟨n, rfl⟩ : ∃ k, n = k + 1 := ⟨n - 1, by omega⟩
          refine ys_23 t4 hr i16 hyo rfl (by omega) ?_
          rw [← hag h (by omega)]; exact hp
end EB
