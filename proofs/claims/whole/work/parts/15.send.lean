/-! 15: an execution, both sides -/
section SD
variable {bk : Int32} {lv : Int32} {ds : Int32} {fk : Int32} {lo : Int32} {ex : Int32} {ht : Int32} {vt : Int32} {vv : Int64} {rc : Int32} {rr : Int64} {ls : Nat → Int32} {eT : Nat → Int32} {eV : Nat → Int64} {rN : Nat → Int32} {rC : Nat → Int32} {rR : Nat → Int64} {dO : Nat → Int32} {dC : Nat → Int64} {tS : Nat → Int32} {tO : Nat → Int32} {tC : Nat → Int64} {re : Nat → Int32} {qN : Nat → Int32} {qT : Nat → Int32} {qK : Nat → Int32} {qA : Nat → Int32} {an : Nat → Int32} {cR : Nat → Int64} {sk : Nat → Int64} {vh : Int32} {vw : Int64} {oc : Int64} {li : Nat → Int32} {ll : Nat → Int32} {sz : Nat → Int32} {va : Nat → Int64} {yo : Nat → Int32} {yg : Nat → Int64} {le : Nat → Int32} {pa : Nat → Int32} {st : Nat → Int64} {on : Nat → Int32} {wa : Nat → Int32}
theorem tg_bool {x : Int32} (h : x = 0 ∨ x = 1) : narrow .boolean (.int x) = .int x ∧ fits .boolean (.int x) = true := by
  rcases h with rfl | rfl
  · exact ⟨rfl, by first | rfl | decide⟩
  · exact ⟨rfl, by first | rfl | decide⟩
theorem tg_vbl {x : Int32} (h : x = 0 ∨ x = 1) : vp_nar .boolean x = x := by
  rcases h with rfl | rfl
  · exact tg_vb0
  · exact tg_vb1
theorem tg_VW01 {vt : Int32} {vv vw : Int64} (h : tg_VW vt vv vw) : vt = 0 ∨ vt = 1 := by
  rcases h with h | h
  · exact Or.inl h.1
  · exact Or.inr h.1
theorem ex_all {c key : Nat} (hP : tg_Pr ds dO dC tS tO tC yo yg le) (hD : tg_D eT eV va) (hc : c < 3) (hkey : key < 18) :
    ∃ (co : Int32) (res : Int64) (vt9 ht9 : Int32) (vv9 vw9 : Int64) (sk9 st9 : Nat → Int64) (vh9 : Int32), (co = 0 → tg_VW vt9 vv9 vw9 ∧ vh9 = vt9) ∧
    (∀ post : SX → Prop, post (bk, lv, ds, fk, lo, (ex + 1), ht9, vt9, vv9, co, res, ls, eT, eV, rN, rC, rR, dO, dC, tS, tO, tC, re, qN, qT, qK, qA, an, cR, sk9) → wpX_execute post (bk, lv, ds, fk, lo, ex, ht, vt, vv, rc, rr, ls, eT, eV, rN, rC, rR, dO, dC, tS, tO, tC, re, qN, qT, qK, qA, an, cR, sk) (qT c) (nI key) (qA c)) ∧
    (∀ (post : Int32 → SY → Prop) (f m q x7 : Int32), wY_send_211 post (nI c) f (nI key) m q co 1 bk fk lo (ex + 1) vh9 vw9 res li ll sz eT va rN rC rR yo yg le pa st9 qN qT qK qA on cR wa → wY_send_102 post (nI c) f (nI key) m q x7 1 bk fk lo ex vh vw oc li ll sz eT va rN rC rR yo yg le pa st qN qT qK qA on cR wa) := by
  have cl : (nI key).toNatClampNeg = key := nI_clamp (by omega)
  have ck : (nI c).toNatClampNeg = c := nI_clamp (by omega)
  have i18 : vp_in (nI key) 18 := vp_in_nI hkey (by decide)
  have i3 : vp_in (nI c) 3 := vp_in_nI hc (by decide)
  have e01 : eT key = 0 ∨ eT key = 1 := by
    rcases hD key hkey with z | z
    · exact Or.inl z.1
    · exact Or.inr z.1
  have hvw : tg_VW (eT key) (eV key) (va key) := hD key hkey
  have B := tg_bool e01
  -- Y's opening
  have YO : ∀ (post : Int32 → SY → Prop) (f m q x7 : Int32),
      ((qT c < 0 → wY_send_166 post (nI c) f (nI key) m q 1 bk fk lo ex (eT key) (va key) oc li ll sz eT va rN rC rR yo yg le pa st qN qT qK qA on cR wa) ∧ (¬ qT c < 0 → vp_in (nI c) 3 ∧ ((4 ≤ qT c → wY_send_166 post (nI c) f (nI key) m q 1 bk fk lo ex (eT key) (va key) oc li ll sz eT va rN rC rR yo yg le pa st qN qT qK qA on cR wa) ∧ (¬ 4 ≤ qT c → vp_in (nI c) 3 ∧ (vp_in (qT c) 5 ∧ ((le (qT c).toNatClampNeg ≤ 0 → wY_send_166 post (nI c) f (nI key) m q 1 bk fk lo ex (eT key) (va key) oc li ll sz eT va rN rC rR yo yg le pa st qN qT qK qA on cR wa) ∧ (¬ le (qT c).toNatClampNeg ≤ 0 → wY_send_167 post (nI c) f (nI key) m q 1 1 bk fk lo ex (eT key) (va key) oc li ll sz eT va rN rC rR yo yg le pa st qN qT qK qA on cR wa))))))) →
      wY_send_102 post (nI c) f (nI key) m q x7 1 bk fk lo ex vh vw oc li ll sz eT va rN rC rR yo yg le pa st qN qT qK qA on cR wa := by
    intro post f m q x7 h
    refine br_f tg_d1 ⟨i18, nm_r (tg_rd rfl (by omega)) ⟨B.1, B.2, i18, nm_r (tg_rdL rfl (by omega)) ⟨i3, ?_⟩⟩⟩
    rw [ck]
    exact h
  have NT : ∀ (post : Int32 → SY → Prop) (f m q : Int32), wY_send_211 post (nI c) f (nI key) m q 3 1 bk fk lo (ex + 1) (eT key) (va key) 0 li ll sz eT va rN rC rR yo yg le pa st qN qT qK qA on cR wa → wY_send_166 post (nI c) f (nI key) m q 1 bk fk lo ex (eT key) (va key) oc li ll sz eT va rN rC rR yo yg le pa st qN qT qK qA on cR wa :=
    fun post f m q h => br_t rfl (nm_e h)
  have h30 : ¬ (3 : Int32) = 0 := by decide
  rcases pk_ix (qT c) (n := 4) (by decide) with h | h | ⟨t, ht4, et⟩
  · refine ⟨3, 0, vt, ht, vv, va key, sk, st, eT key, fun z => absurd z h30, fun post hp => ?_, fun post f m q x7 hp => YO post f m q x7 (br_t h (NT _ _ _ _ hp))⟩
    exact nm_e (br_t h hp)
  · have Bg := tg_big h (by decide)
    refine ⟨3, 0, vt, ht, vv, va key, sk, st, eT key, fun z => absurd z h30, fun post hp => ?_, fun post f m q x7 hp => YO post f m q x7 (br_f Bg.1 ⟨i3, br_t h (NT _ _ _ _ hp)⟩)⟩
    exact nm_e (br_f Bg.1 (br_t h hp))
  · obtain ⟨z, hz, e1, e2, e3, e4⟩ := hP.2 t ht4
    have ctt : (nI t).toNatClampNeg = t := nI_clamp (by omega)
    have y1 : ¬ nI t < 0 := nI_pos (by omega)
    have y2 : ¬ (4 : Int32) ≤ nI t := nI_ge (b := 4) ht4 (by decide)
    have i4 : vp_in (nI t) 4 := vp_in_nI ht4 (by decide)
    have i5 : vp_in (nI t) 5 := vp_in_nI (by omega) (by decide)
    by_cases hz0 : z = 0
    · subst hz0
      refine ⟨3, 0, vt, ht, vv, va key, sk, st, eT key, fun z => absurd z h30, fun post hp => ?_, fun post f m q x7 hp => YO post f m q x7 ?_⟩
      · rw [et]
        exact nm_e (br_f y1 (br_f y2 ⟨i4, br_t (by rw [ctt, e1]; rfl) hp⟩))
      · rw [et]
        exact br_f y1 ⟨i3, br_f y2 ⟨i3, i5, br_t (by rw [ctt, e2]; decide) (NT _ _ _ _ hp)⟩⟩
    · obtain ⟨w, f1, R, r0, hR⟩ := e4 hz0
      obtain ⟨co, res, vt9, ht9, vv9, vw9, sk9, st9, b1, b2, b3, b4⟩ := ex_both (bk := bk) (lv := lv) (ds := ds) (fk := fk) (lo := lo) (ex := (ex + 1)) (rc := rc) (ls := ls) (eT := eT) (eV := eV) (rN := rN) (rC := rC) (rR := rR) (dO := dO) (dC := dC) (tS := tS) (tO := tO) (tC := tC) (re := re) (qN := qN) (qT := qT) (qK := qK) (qA := qA) (an := an) (cR := cR) (li := li) (ll := ll) (sz := sz) (va := va) (yo := yo) (yg := yg) (le := le) (pa := pa) (on := on) (wa := wa) (ey := ex) (x3 := qA c) (t := t) (z := z) (w := w) (R := R) ht4 hz e1 (fun i hi => ⟨(f1 i hi).1, (e3 i hi).1.trans (f1 i hi).2, (f1 i hi).2, (e3 i hi).2⟩) hR 80 0 0 0 sk st (eT key) (eV key) (va key) (by omega) (by omega) (by decide) r0 (fun j hj => absurd hj (by omega)) hvw
      refine ⟨co, res, vt9, ht9, vv9, vw9, sk9, st9, vt9, fun _ => ⟨b2, rfl⟩, fun post hp => ?_, fun post f m q x7 hp => YO post f m q x7 ?_⟩
      · rw [et]
        refine nm_e (br_f y1 (br_f y2 ⟨i4, br_f (by rw [ctt, e1]; exact nI_ne0 (by omega) (by omega)) ⟨i18, nm_r (tg_rd rfl (by omega)) ⟨B.1, B.2, i18, nm_r (tg_rdL rfl (by omega)) ⟨81, ?_⟩⟩⟩⟩))
        exact b3 post hp 81 (by omega)
      · rw [et]
        refine br_f y1 ⟨i3, br_f y2 ⟨i3, i5, br_f (by rw [ctt, e2]; exact nI_nle (by omega) (by omega)) (br_f tg_d1 ⟨i3, i3, ?_⟩)⟩⟩
        rw [ck, et]
        refine ⟨81, b4 _ ?_ 81 (by omega)⟩
        intro y ey
        subst ey
        exact hp
end SD
