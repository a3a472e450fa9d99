/-! 20: deploy -/
def tg_ya (n r : Nat) : Int32 := if r < n then nI (16 + r) else 0
theorem tg_ya_n1 {n r : Nat} (hn : n ≤ 16) : ¬ tg_ya n r = -1 := by
  unfold tg_ya
  split
  · intro e
    have := nI_pos (n := 16 + r) (by omega)
    rw [e] at this
    exact this tg_nm1
  · decide
section DP
variable {bk : Int32} {lv : Int32} {ds : Int32} {fk : Int32} {lo : Int32} {ex : Int32} {ht : Int32} {vt : Int32} {vv : Int64} {rc : Int32} {rr : Int64} {ls : Nat → Int32} {eT : Nat → Int32} {eV : Nat → Int64} {rN : Nat → Int32} {rC : Nat → Int32} {rR : Nat → Int64} {dO : Nat → Int32} {dC : Nat → Int64} {tS : Nat → Int32} {tO : Nat → Int32} {tC : Nat → Int64} {re : Nat → Int32} {qN : Nat → Int32} {qT : Nat → Int32} {qK : Nat → Int32} {qA : Nat → Int32} {an : Nat → Int32} {cR : Nat → Int64} {sk : Nat → Int64} {vh : Int32} {vw : Int64} {oc : Int64} {li : Nat → Int32} {ll : Nat → Int32} {sz : Nat → Int32} {va : Nat → Int64} {yo : Nat → Int32} {yg : Nat → Int64} {le : Nat → Int32} {pa : Nat → Int32} {st : Nat → Int64} {on : Nat → Int32} {wa : Nat → Int32} {n : Nat} {w : Nat → Nat}
theorem ty_dl {post : Int32 → SY → Prop} {t : Nat} {R : Nat → Bool} (hn : n ≤ 16) (hy : tg_Dy n w dC yo yg le) (hA : tg_A pa (fun q => R q = true))
    (h : wY_deploy_70 post (nI t) (nI n) (tg_ya n (tg_lf (tg_f w dC n R) n n)) bk fk lo ex vh vw oc li ll sz eT va rN rC rR yo yg le pa st qN qT qK qA on cR wa) :
    ∀ m N, m ≤ n → m < N → wY_deploy_39 post (nI t) (nI n) bk fk lo ex vh vw oc li ll sz eT va rN rC rR yo yg le pa st qN qT qK qA on cR wa N (tg_ya n (tg_lf (tg_f w dC n R) n (n - m))) (nI m + (-1)) := by
  intro m
  induction m with
  | zero =>
    intro N hm hN
    obtain ⟨N, rfl⟩ : ∃ k, N = k + 1 := ⟨N - 1, by omega⟩
    exact br_t (by decide) h
  | succ m ih =>
    intro N hm hN
    obtain ⟨N, rfl⟩ : ∃ k, N = k + 1 := ⟨N - 1, by omega⟩
    have I := ih N (by omega) (by omega)
    have e : tg_lf (tg_f w dC n R) n (n - m) = if tg_f w dC n R m = true then m else tg_lf (tg_f w dC n R) n (n - (m + 1)) := by
      rw [show n - m = (n - (m + 1)) + 1 from by omega]
      show (if tg_f w dC n R (n - (n - (m + 1) + 1)) = true then n - (n - (m + 1) + 1) else _) = _
      rw [show n - (n - (m + 1) + 1) = m from by omega]
    rw [e] at I
    rw [pk_m1]
    refine br_f (nI_pos (by omega)) (br_f (tg_ya_n1 hn) (ty_fa hn hy (by omega) hA ?_))
    by_cases c : tg_f w dC n R m = true
    · rw [if_pos c] at I
      rw [c]
      refine br_f tg_d1 (nm_r (e' := tg_ya n m) ?_ (nm_e I))
      unfold tg_ya
      rw [if_pos (by omega)]
      exact nI_add 16 m
    · rw [if_neg c] at I
      rw [tg_nf c]
      exact br_t rfl (nm_e I)
theorem ty_dc {post : Int32 → SY → Prop} {t : Nat} {o0 : Nat → Int32} {c0 : Nat → Int64} (ht4 : t < 4) (hn : n ≤ 16) (hw : ∀ i, i < n → w i < 24 ∧ o0 (64 + i) = nI (w i))
    (h : ∀ yo yg, (∀ i, i < n → yo (16 * t + i) = o0 (64 + i) ∧ yg (16 * t + i) = c0 (64 + i)) → (∀ q, q < 16 * t ∨ 16 * t + 16 ≤ q → yo q = o0 q ∧ yg q = c0 q) → post 0 (bk, fk, lo, ex, vh, vw, oc, li, ll, sz, eT, va, rN, rC, rR, yo, yg, le, pa, st, qN, qT, qK, qA, on, cR, wa)) :
    ∀ d i N yo yg, i + d = n → d < N → (∀ j, j < i → yo (16 * t + j) = o0 (64 + j) ∧ yg (16 * t + j) = c0 (64 + j)) → (∀ q, q < 16 * t ∨ 16 * t + 16 ≤ q → yo q = o0 q ∧ yg q = c0 q) → wY_deploy_94 post (nI t) (nI n) bk fk lo ex vh vw oc N (nI i) li ll sz eT va rN rC rR yo yg le pa st qN qT qK qA on cR wa := by
  intro d
  induction d with
  | zero =>
    intro i N yo yg hi hN h1 h2
    obtain ⟨N, rfl⟩ : ∃ k, N = k + 1 := ⟨N - 1, by omega⟩
    obtain rfl : i = n := by omega
    exact br_t (nI_le (Nat.le_refl _) (by omega)) (h yo yg h1 h2)
  | succ d ih =>
    intro i N yo yg hi hN h1 h2
    obtain ⟨N, rfl⟩ : ∃ k, N = k + 1 := ⟨N - 1, by omega⟩
    have a80 : vp_in (64 + nI i) 80 := tg_vi (tg_64 i) (by omega) (by decide)
    have b80 : vp_in (16 * nI t + nI i) 80 := tg_vi (tg_16i t i) (by omega) (by decide)
    have c64 : (64 + nI i).toNatClampNeg = 64 + i := by rw [tg_64, nI_clamp (by omega)]
    obtain ⟨w24, ew⟩ := hw i (by omega)
    have s64 := h2 (64 + i) (by omega)
    refine br_f (nI_ge (by omega) (by omega)) ⟨a80, b80, nm_r (tg_u (w := o0 (64 + i)) (tg_16i t i) (by omega) (by rw [c64, s64.1, ew]; exact tg_vB (by omega))) ⟨a80, b80, nm_r (tg_uL (w := c0 (64 + i)) (tg_16i t i) (by omega) (by rw [c64, s64.2])) (nm_r (nI_1 i) (ih (i + 1) N _ _ (by omega) (by omega) (fun j hj => ?_) (fun q hq => ?_)))⟩⟩
    · by_cases e : j = i
      · rw [e, pk_us, pk_uLs]; exact ⟨rfl, rfl⟩
      · rw [pk_un (by omega), pk_uLn (by omega)]; exact h1 j (by omega)
    · rw [pk_un (by omega), pk_uLn (by omega)]; exact h2 q hq
theorem tg_T_keep {z t : Nat} {tO2 yo2 : Nat → Int32} {tC2 yg2 : Nat → Int64} (hz : z ≤ 16) (h : tg_T z t tO yo tC yg) (h1 : ∀ i, i < 16 → tO2 (16 * t + i) = tO (16 * t + i) ∧ tC2 (16 * t + i) = tC (16 * t + i)) (h2 : ∀ i, i < 16 → yo2 (16 * t + i) = yo (16 * t + i) ∧ yg2 (16 * t + i) = yg (16 * t + i)) : tg_T z t tO2 yo2 tC2 yg2 := by
  refine ⟨fun i hi => ?_, fun z0 => ?_⟩
  · have a := h.1 i hi
    have b := h1 i (by omega)
    have c := h2 i (by omega)
    rw [b.1, b.2, c.1, c.2]
    exact a
  · obtain ⟨w2, f1, f2⟩ := h.2 z0
    exact ⟨w2, fun i hi => by rw [(h2 i (by omega)).1]; exact f1 i hi, tg_Ver_c (fun i hi => (h2 i (by omega)).2.symm) f2⟩
end DP
theorem i_vc_deploy {k : Nat} {u : SX} {v : SY} (I : i_Rel k u v) (hk : k + 5 ≤ 2561) (v1 : Int32) : wpX_deploy (fun r u' => wpY_deploy (fun r' v' => r' = r ∧ i_Rel (k + 5) u' v') v v1) u v1 := by
  obtain ⟨bk, lv, ds, fk, lo, ex, ht, vt, vv, rc, rr, ls, eT, eV, rN, rC, rR, dO, dC, tS, tO, tC, re, qN, qT, qK, qA, an, cR, sk, vh, vw, oc, li, ll, sz, va, yo, yg, le, pa, st, on, wa, rfl, rfl, hC, hD, hP, hQ, hF⟩ := I
  obtain ⟨⟨n, hn, rfl, hl, hd⟩, hta⟩ := hP
  have hQ5 := tg_Q_up (d := 5) hQ
  -- a refused deployment
  have le4 : upd le 4 (vp_nar .byte 0) = upd le 4 0 := by rw [show vp_nar .byte (0 : Int32) = 0 from tg_vB (n := 0) (by decide)]
  have hP0 : tg_Pr 0 dO dC tS tO tC yo yg (upd le 4 0) := ⟨⟨0, by decide, rfl, pk_us, fun i hi => absurd hi (by omega)⟩, fun t h4 => by
    obtain ⟨z, hz, e1, e2, e3⟩ := hta t h4
    exact ⟨z, hz, e1, by rw [pk_un (by omega)]; exact e2, e3⟩⟩
  have bad : wY_deploy_20 (fun r' v' => r' = -1 ∧ i_Rel (k + 5) (bk, lv, 0, fk, lo, ex, ht, vt, vv, rc, rr, ls, eT, eV, rN, rC, rR, dO, dC, tS, tO, tC, re, qN, qT, qK, qA, an, cR, sk) v') v1 (nI n) bk fk lo ex vh vw oc li ll sz eT va rN rC rR yo yg le pa st qN qT qK qA on cR wa := by
    refine br_f (by decide) (nm_e ⟨1, ?_⟩)
    have Z : wY_deploy_70 (fun r' v' => r' = -1 ∧ i_Rel (k + 5) (bk, lv, 0, fk, lo, ex, ht, vt, vv, rc, rr, ls, eT, eV, rN, rC, rR, dO, dC, tS, tO, tC, re, qN, qT, qK, qA, an, cR, sk) v') v1 (nI n) (-1) bk fk lo ex vh vw oc li ll sz eT va rN rC rR yo yg le pa st qN qT qK qA on cR wa := nm_r le4 (br_f (by decide) ⟨rfl, i_mk hC hD hP0 hQ5 hF⟩)
    exact br_c (fun _ => Z) (fun _ => br_t rfl Z)
  rcases pk_ix v1 (n := 4) (by decide) with h | h | ⟨t, ht4, rfl⟩
  · exact br_t h (nm_r hl (br_t h bad))
  · have B := tg_big h (by decide)
    exact br_f B.1 (br_t h (nm_r hl (br_f B.1 (br_t (B.2 3 (by decide)).2 bad))))
  · have y1 : ¬ nI t < 0 := nI_pos (by omega)
    have y2 : ¬ (4 : Int32) ≤ nI t := nI_ge (b := 4) ht4 (by decide)
    have y3 : ¬ (3 : Int32) < nI t := nI_nlt (a := 3) (b := t) (by omega) (by decide)
    by_cases n0 : n = 0
    · subst n0
      exact br_f y1 (br_f y2 (br_t (by decide) (nm_r hl (br_f y1 (br_f y3 (br_t rfl bad))))))
    · have np : 0 < n := by omega
      -- the draft, read by both
      have hw : ∀ i, i < n → (dO i).toNatClampNeg < 24 ∧ dO i = nI (dO i).toNatClampNeg ∧ yo (64 + i) = nI (dO i).toNatClampNeg ∧ yg (64 + i) = dC i := by
        intro i hi
        obtain ⟨w, w24, a, b, c⟩ := hd i hi
        rw [a, nI_clamp (by omega)]
        exact ⟨w24, rfl, b, c⟩
      have hDr : tg_Dr n (fun i => (dO i).toNatClampNeg) dO := fun i hi => ⟨(hw i hi).1, (hw i hi).2.1⟩
      have hDy : tg_Dy n (fun i => (dO i).toNatClampNeg) dC yo yg le := ⟨hl, fun i hi => ⟨(hw i hi).1, (hw i hi).2.2.1, (hw i hi).2.2.2⟩⟩
      generalize hwd : (fun i => (dO i).toNatClampNeg) = w at hDr hDy
      have hlf := tg_lf_le (n := n) (f := tg_f w dC n (tg_sp w dC n 80)) n
      -- Y, from its start to what follows its check
      have Y : ∀ (post : Int32 → SY → Prop), (∀ pa, wY_deploy_70 post (nI t) (nI n) (tg_ya n (tg_lf (tg_f w dC n (tg_sp w dC n 80)) n n)) bk fk lo ex vh vw oc li ll sz eT va rN rC rR yo yg le pa st qN qT qK qA on cR wa) → wpY_deploy post (bk, fk, lo, ex, vh, vw, oc, li, ll, sz, eT, va, rN, rC, rR, yo, yg, le, pa, st, qN, qT, qK, qA, on, cR, wa) (nI t) := by
        intro post hp
        refine nm_r hl (br_f y1 (br_f y3 (br_f (nI_ne0 np (by omega)) (br_t rfl (ty_sp hn hDy (fun pa2 hA => nm_r (e' := nI n + (-1)) ?_ ⟨n + 1, ?_⟩))))))
        · rw [tg_m1s np]; exact pk_sub (b := 1) np
        · have L := ty_dl (t := t) hn hDy hA (hp pa2) n (n + 1) (Nat.le_refl _) (by omega)
          rw [Nat.sub_self] at L
          rw [show tg_ya n (tg_lf (tg_f w dC n (tg_sp w dC n 80)) n 0) = 0 from if_neg (Nat.lt_irrefl n)] at L
          exact L
      refine br_f y1 (br_f y2 (br_f (nI_nle np (by omega)) ?_))
      refine tx_fr np hn hDr (fun re2 hA => ?_)
      refine tx_lf hn hDr hA ?_
      by_cases c : tg_lf (tg_f w dC n (tg_sp w dC n 80)) n n < n
      · refine br_f (nI_ge c (by omega)) (nm_r (e' := nI (16 + tg_lf (tg_f w dC n (tg_sp w dC n 80)) n n)) (nI_add 16 _) (Y _ (fun pa2 => ?_)))
        rw [show tg_ya n (tg_lf (tg_f w dC n (tg_sp w dC n 80)) n n) = nI (16 + tg_lf (tg_f w dC n (tg_sp w dC n 80)) n n) from if_pos c]
        exact nm_r le4 (br_f (nI_ne0 (by omega) (by omega)) ⟨rfl, i_mk hC hD hP0 hQ5 hF⟩)
      · have cn : tg_lf (tg_f w dC n (tg_sp w dC n 80)) n n = n := by omega
        have ver : tg_Ver w dC n := tg_ver np hn (fun i hi => tg_lf_n n (Nat.le_refl _) cn i (by omega) hi)
        refine br_t (nI_le (by omega) (by omega)) (tx_td ht4 (fun tO2 tC2 x1 x2 => Y _ (fun pa2 => ?_)))
        rw [show tg_ya n (tg_lf (tg_f w dC n (tg_sp w dC n 80)) n n) = 0 from if_neg c]
        refine nm_r le4 (br_t rfl ⟨vp_in_nI (by omega) (by decide), nm_r (tg_u rfl (by omega) (tg_vB2 (by omega))) ⟨n + 1, ?_⟩⟩)
        refine ty_dc (o0 := yo) (c0 := yg) (w := w) ht4 hn (fun i hi => ⟨(hDr i hi).1, (hDy.2 i hi).2.1⟩) (fun yo2 yg2 z1 z2 => ?_) n 0 (n + 1) yo yg (by omega) (by omega) (fun j hj => absurd hj (by omega)) (fun q _ => ⟨rfl, rfl⟩)
        refine ⟨rfl, i_mk hC hD ⟨⟨0, by decide, rfl, by rw [pk_un (by omega), pk_us]; rfl, fun i hi => absurd hi (by omega)⟩, fun t2 h4 => ?_⟩ hQ5 hF⟩
        by_cases e : t2 = t
        · subst e
          refine ⟨n, hn, pk_us, pk_us, fun i hi => ?_, fun _ => ⟨w, fun i hi => ?_, tg_Ver_c (fun i hi => ?_) ver⟩⟩
          · rw [(x1 i (by omega)).1, (x1 i (by omega)).2, (z1 i hi).1, (z1 i hi).2, (hDy.2 i hi).2.1, (hDy.2 i hi).2.2, (hDr i hi).2]
            exact ⟨rfl, rfl⟩
          · rw [(z1 i hi).1, (hDy.2 i hi).2.1]
            exact ⟨(hDr i hi).1, rfl⟩
          · rw [(z1 i hi).2, (hDy.2 i hi).2.2]
        · obtain ⟨z, hz, e1, e2, e3⟩ := hta t2 h4
          refine ⟨z, hz, by rw [pk_un e]; exact e1, by rw [pk_un e, pk_un (by omega)]; exact e2, tg_T_keep hz e3 (fun i hi => x2 _ (by omega)) (fun i hi => z2 _ (by omega))⟩
