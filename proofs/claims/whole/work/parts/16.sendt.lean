/-! 16: sending, both sides -/
def tg_B (k : Nat) (WX : (Int32 → SX → Prop) → Prop) (WY : (Int32 → SY → Prop) → Prop) : Prop :=
  ∃ (QX : Int32 → SX → Prop) (QY : Int32 → SY → Prop), (∀ post, (∀ r u, QX r u → post r u) → WX post) ∧ (∀ post, (∀ r v, QY r v → post r v) → WY post) ∧ ∀ r u r' v, QX r u → QY r' v → r' = r ∧ i_Rel k u v
theorem tg_B_m {k : Nat} {WX WX' : (Int32 → SX → Prop) → Prop} {WY WY' : (Int32 → SY → Prop) → Prop} (B : tg_B k WX' WY') (hX : ∀ post, WX' post → WX post) (hY : ∀ post, WY' post → WY post) : tg_B k WX WY := by
  obtain ⟨QX, QY, a, b, c⟩ := B
  exact ⟨QX, QY, fun post h => hX post (a post h), fun post h => hY post (b post h), c⟩
theorem tg_B_1 {k : Nat} {WX : (Int32 → SX → Prop) → Prop} {WY : (Int32 → SY → Prop) → Prop} {r : Int32} {u : SX} {v : SY} (h : i_Rel k u v) (hX : ∀ post : Int32 → SX → Prop, post r u → WX post) (hY : ∀ post : Int32 → SY → Prop, post r v → WY post) : tg_B k WX WY :=
  ⟨fun r' u' => r' = r ∧ u' = u, fun r' v' => r' = r ∧ v' = v, fun post hp => hX post (hp _ _ ⟨rfl, rfl⟩), fun post hp => hY post (hp _ _ ⟨rfl, rfl⟩), fun r1 u1 r2 v1 a b => by
    obtain ⟨rfl, rfl⟩ := a
    obtain ⟨rfl, rfl⟩ := b
    exact ⟨rfl, h⟩⟩
section ST
variable {bk : Int32} {lv : Int32} {ds : Int32} {fk : Int32} {lo : Int32} {ex : Int32} {ht : Int32} {vt : Int32} {vv : Int64} {rc : Int32} {rr : Int64} {ls : Nat → Int32} {eT : Nat → Int32} {eV : Nat → Int64} {rN : Nat → Int32} {rC : Nat → Int32} {rR : Nat → Int64} {dO : Nat → Int32} {dC : Nat → Int64} {tS : Nat → Int32} {tO : Nat → Int32} {tC : Nat → Int64} {re : Nat → Int32} {qN : Nat → Int32} {qT : Nat → Int32} {qK : Nat → Int32} {qA : Nat → Int32} {an : Nat → Int32} {cR : Nat → Int64} {sk : Nat → Int64} {vh : Int32} {vw : Int64} {oc : Int64} {li : Nat → Int32} {ll : Nat → Int32} {sz : Nat → Int32} {va : Nat → Int64} {yo : Nat → Int32} {yg : Nat → Int64} {le : Nat → Int32} {pa : Nat → Int32} {st : Nat → Int64} {on : Nat → Int32} {wa : Nat → Int32}
theorem sd_dr {k b L m : Nat} {g : Nat → List Nat} {WX : (Int32 → SX → Prop) → Prop} {WY : (Int32 → SY → Prop) → Prop} (hb : b ≤ 2) (hL : L < 32) (hm : m < 5) (hli : tg_LI L li) (hg : ∀ p, p < 6 → tg_G L (g p)) (hx : tg_LX g ls) (hy : tg_LY g ll sz)
    (hD : tg_D eT eV va) (hP : tg_Pr ds dO dC tS tO tC yo yg le) (hQ : tg_Q k qN qK an on) (hF : tg_F fk)
    (hX : ∀ post : Int32 → SX → Prop, (∀ ls2, tg_LX (tg_g' g m (tg_del L m) b) ls2 → post 5 ((nI b), (nI (tg_del L m)), ds, fk, (tg_dL (tg_lz g m) lo 6), ex, ht, vt, vv, rc, rr, ls2, (tg_dE (tg_lz g m) eT 6), (tg_dV (tg_lz g m) eV 6), (tg_dN (tg_lz g m) rN 6), rC, rR, dO, dC, tS, tO, tC, re, qN, qT, qK, qA, an, cR, sk)) → WX post)
    (hY : ∀ post : Int32 → SY → Prop, (∀ li2 ll2 sz2 wa2, tg_LI (tg_del L m) li2 → tg_LY (tg_g' g m (tg_del L m) b) ll2 sz2 → post 5 ((nI b), fk, (tg_dL (tg_lz g m) lo 6), ex, vh, vw, oc, li2, ll2, sz2, (tg_dE (tg_lz g m) eT 6), va, (tg_dN (tg_lz g m) rN 6), rC, rR, yo, yg, le, pa, st, qN, qT, qK, qA, on, cR, wa2)) → WY post) : tg_B k WX WY := by
  refine ⟨fun r u => r = 5 ∧ ∃ ls2, tg_LX (tg_g' g m (tg_del L m) b) ls2 ∧ u = ((nI b), (nI (tg_del L m)), ds, fk, (tg_dL (tg_lz g m) lo 6), ex, ht, vt, vv, rc, rr, ls2, (tg_dE (tg_lz g m) eT 6), (tg_dV (tg_lz g m) eV 6), (tg_dN (tg_lz g m) rN 6), rC, rR, dO, dC, tS, tO, tC, re, qN, qT, qK, qA, an, cR, sk),
    fun r v => r = 5 ∧ ∃ li2 ll2 sz2 wa2, tg_LI (tg_del L m) li2 ∧ tg_LY (tg_g' g m (tg_del L m) b) ll2 sz2 ∧ v = ((nI b), fk, (tg_dL (tg_lz g m) lo 6), ex, vh, vw, oc, li2, ll2, sz2, (tg_dE (tg_lz g m) eT 6), va, (tg_dN (tg_lz g m) rN 6), rC, rR, yo, yg, le, pa, st, qN, qT, qK, qA, on, cR, wa2),
    fun post hp => hX post (fun ls2 h2 => hp _ _ ⟨rfl, ls2, h2, rfl⟩),
    fun post hp => hY post (fun li2 ll2 sz2 wa2 h1 h2 => hp _ _ ⟨rfl, li2, ll2, sz2, wa2, h1, h2, rfl⟩), ?_⟩
  intro r u r' v a c
  obtain ⟨rfl, ls2, h2, rfl⟩ := a
  obtain ⟨rfl, li2, ll2, sz2, wa2, h3, h4, rfl⟩ := c
  exact ⟨rfl, i_mk ⟨b, tg_del L m, tg_g' g m (tg_del L m) b, hb, (tg_anb L hL m hm).1, rfl, rfl, h3, tg_C_dr hb hL hm hg, h2, h4⟩ (tg_dE_D hD 6) hP hQ hF⟩
theorem tg_Q_an {k c : Nat} (hQ : tg_Q k qN qK an on) (hc : c < 3) : tg_Q k qN qK (upd an c 1) (upd on c 0) := by
  intro d hd
  obtain ⟨j, q, h1, h2, h3, h4, h5⟩ := hQ d hd
  by_cases e : d = c
  · subst e
    exact ⟨j, q, h1, h2, h3, h4, Or.inr ⟨pk_us, Or.inr pk_us⟩⟩
  · exact ⟨j, q, h1, h2, h3, h4, by rw [pk_un e, pk_un e]; exact h5⟩
theorem sd_1 {k b L m c f q : Nat} {g : Nat → List Nat} {co : Int32} (hc : c < 3) (hq : q < 18) (hf : f = 0 ∨ f = 3 ∨ f = 4) (hb : b ≤ 2) (hL : L < 32) (hm : m < 5) (hli : tg_LI L li) (hg : ∀ p, p < 6 → tg_G L (g p) ∧ (g p = [] ↔ L = 0)) (hx : tg_LX g ls) (hy : tg_LY g ll sz)
    (hD : tg_D eT eV va) (hP : tg_Pr ds dO dC tS tO tC yo yg le) (hQ : tg_Q k qN qK an on) (hF : tg_F fk) (e1 : rC q = co) (e2 : rR q = oc) :
    tg_B k (fun post => wX_send_136 post (nI c) (nI f) (nI q) (nI m) (nI b) (nI L) ds fk lo ex ht vt vv rc rr ls eT eV rN rC rR dO dC tS tO tC re qN qT qK qA an cR sk) (fun post => wY_send_292 post (nI c) (nI f) (nI m) co (nI b) fk lo ex vh vw oc li ll sz eT va rN rC rR yo yg le pa st qN qT qK qA on cR wa) := by
  have i18 : vp_in (nI q) 18 := vp_in_nI hq (by decide)
  have i3 : vp_in (nI c) 3 := vp_in_nI hc (by decide)
  subst e1
  subst e2
  rcases hf with rfl | rfl | rfl
  · refine tg_B_1 (r := rC q) (u := ((nI b), (nI L), ds, fk, lo, ex, ht, vt, vv, rc, rr, ls, eT, eV, rN, rC, rR, dO, dC, tS, tO, tC, re, qN, qT, qK, qA, (upd an c 1), (vp_updL cR c (rR q)), sk)) (v := ((nI b), fk, lo, ex, vh, vw, (rR q), li, ll, sz, eT, va, rN, rC, rR, yo, yg, le, pa, st, qN, qT, qK, qA, (upd on c 0), (vp_updL cR c (rR q)), wa)) (i_mk ⟨b, L, g, hb, hL, rfl, rfl, hli, hg, hx, hy⟩ hD hP (tg_Q_an hQ hc) hF) (fun post hp => ?_) (fun post hp => ?_)
    · refine br_f (by decide) (br_f (by decide) ⟨i3, nm_r (tg_u rfl (by omega) tg_vb1) ⟨i18, i3, nm_r (tg_uL rfl (by omega) (tg_rdL rfl (by omega))) ⟨i18, ?_⟩⟩⟩)
      rw [nI_clamp (n := q) (by omega)]
      exact hp
    · exact br_f (by decide) (br_t (by decide) ⟨i3, nm_r (tg_uL rfl (by omega) rfl) ⟨i3, nm_r (tg_u rfl (by omega) tg_vb0) hp⟩⟩)
  · have hg1 : ∀ p, p < 6 → tg_G L (g p) := fun p hp => (hg p hp).1
    exact sd_dr hb hL hm hli hg1 hx hy hD hP hQ hF (fun post hp => br_t rfl (tx_dr hm hL hb (tg_hg hg1) hx hp)) (fun post hp => br_t rfl (ty_dr hm hL hb hli (tg_hg hg1) hy (fun li2 ll2 sz2 wa2 h1 h2 => br_f (by decide) (hp li2 ll2 sz2 wa2 h1 h2))))
  · exact tg_B_1 (r := 5) (u := ((nI b), (nI L), ds, fk, lo, ex, ht, vt, vv, rc, rr, ls, eT, eV, rN, rC, rR, dO, dC, tS, tO, tC, re, qN, qT, qK, qA, an, cR, sk)) (v := ((nI b), fk, lo, ex, vh, vw, (rR q), li, ll, sz, eT, va, rN, rC, rR, yo, yg, le, pa, st, qN, qT, qK, qA, on, cR, wa)) (i_mk ⟨b, L, g, hb, hL, rfl, rfl, hli, hg, hx, hy⟩ hD hP hQ hF) (fun post hp => br_f (by decide) (br_t rfl hp)) (fun post hp => br_f (by decide) (br_f (by decide) hp))
theorem sd_2 {k b L m c f q key : Nat} {g : Nat → List Nat} {co : Int32} (hc : c < 3) (hq : q < 18) (hf : f = 0 ∨ f = 2 ∨ f = 3 ∨ f = 4) (hb : b ≤ 2) (hL : L < 32) (hm : m < 5) (hli : tg_LI L li) (hg : ∀ p, p < 6 → tg_G L (g p) ∧ (g p = [] ↔ L = 0)) (hx : tg_LX g ls) (hy : tg_LY g ll sz)
    (hD : tg_D eT eV va) (hP : tg_Pr ds dO dC tS tO tC yo yg le) (hQ : tg_Q k qN qK an on) (hF : tg_F fk) (e1 : rC q = co) (e2 : rR q = oc) :
    tg_B k (fun post => wX_send_105 post (nI c) (nI f) (nI key) (nI q) (nI m) 0 (nI b) (nI L) ds fk lo ex ht vt vv rc rr ls eT eV rN rC rR dO dC tS tO tC re qN qT qK qA an cR sk) (fun post => wY_send_211 post (nI c) (nI f) (nI key) (nI m) (nI q) co 0 (nI b) fk lo ex vh vw oc li ll sz eT va rN rC rR yo yg le pa st qN qT qK qA on cR wa) := by
  by_cases f2 : f = 2
  · subst f2
    have hg1 : ∀ p, p < 6 → tg_G L (g p) := fun p hp => (hg p hp).1
    exact sd_dr hb hL hm hli hg1 hx hy hD hP hQ hF (fun post hp => br_t rfl (tx_dr hm hL hb (tg_hg hg1) hx hp)) (fun post hp => br_t rfl (ty_dr hm hL hb hli (tg_hg hg1) hy (fun li2 ll2 sz2 wa2 h1 h2 => br_t rfl (hp li2 ll2 sz2 wa2 h1 h2))))
  · have n2 : ¬ nI f = 2 := tg_neI (b := 2) f2 (by omega) (by decide)
    exact tg_B_m (sd_1 hc hq (by omega) hb hL hm hli hg hx hy hD hP hQ hF e1 e2) (fun post h => br_f n2 (br_t rfl h)) (fun post h => br_f n2 (br_f n2 (br_t rfl h)))
theorem sd_3 {k b L m c f q key : Nat} {g : Nat → List Nat} (hc : c < 3) (hq : q < 18) (hkey : key < 18) (hf : f = 0 ∨ f = 2 ∨ f = 3 ∨ f = 4) (hb : b ≤ 2) (hL : L < 32) (hm : m < 5) (hli : tg_LI L li) (hg : ∀ p, p < 6 → tg_G L (g p) ∧ (g p = [] ↔ L = 0)) (hx : tg_LX g ls) (hy : tg_LY g ll sz)
    (hD : tg_D eT eV va) (hP : tg_Pr ds dO dC tS tO tC yo yg le) (hQ : tg_Q k qN qK an on) (hF : tg_F fk) (hvw : rc = 0 → tg_VW vt vv vw ∧ vh = vt) :
    tg_B k (fun post => wX_send_105 post (nI c) (nI f) (nI key) (nI q) (nI m) 1 (nI b) (nI L) ds fk lo ex ht vt vv rc rr ls eT eV rN rC rR dO dC tS tO tC re qN qT qK qA an cR sk) (fun post => wY_send_211 post (nI c) (nI f) (nI key) (nI m) (nI q) rc 1 (nI b) fk lo ex vh vw rr li ll sz eT va rN rC rR yo yg le pa st qN qT qK qA on cR wa) := by
  by_cases f2 : f = 2
  · subst f2
    have hg1 : ∀ p, p < 6 → tg_G L (g p) := fun p hp => (hg p hp).1
    exact sd_dr hb hL hm hli hg1 hx hy hD hP hQ hF (fun post hp => br_t rfl (tx_dr hm hL hb (tg_hg hg1) hx hp)) (fun post hp => br_t rfl (ty_dr hm hL hb hli (tg_hg hg1) hy (fun li2 ll2 sz2 wa2 h1 h2 => br_t rfl (hp li2 ll2 sz2 wa2 h1 h2))))
  · have n2 : ¬ nI f = 2 := tg_neI (b := 2) f2 (by omega) (by decide)
    have i18 : vp_in (nI q) 18 := vp_in_nI hq (by decide)
    have ik : vp_in (nI key) 18 := vp_in_nI hkey (by decide)
    have i3 : vp_in (nI c) 3 := vp_in_nI hc (by decide)
    by_cases r0 : rc = 0
    · obtain ⟨hv, rfl⟩ := hvw r0
      have v01 := tg_VW01 hv
      refine tg_B_m (sd_1 (rC := upd rC q rc) (rR := vp_updL rR q rr) (rN := upd rN q (qN c)) (eT := upd eT key vh) (eV := vp_updL eV key vv) (va := vp_updL va key vw) (ht := ht) (vt := vh) (vv := vv) (rc := rc) (rr := rr) (re := re) (sk := sk) (f := f) hc hq (by omega) hb hL hm hli hg hx hy (fun x hx => ?_) hP hQ hF pk_us pk_uLs) (fun post h => br_f n2 (br_f tg_d1 ⟨i3, ?_⟩)) (fun post h => br_f n2 (br_f n2 (br_f tg_d1 ⟨i3, i18, nm_r (tg_u rfl (by omega) (tg_rd rfl (by omega))) ⟨i18, nm_r (tg_u rfl (by omega) rfl) ⟨i18, nm_r (tg_uL rfl (by omega) rfl) (br_t r0 ⟨ik, nm_r (tg_u rfl (by omega) (tg_vbl v01)) ⟨ik, nm_r (tg_uL rfl (by omega) rfl) h⟩⟩)⟩⟩⟩)))
      · by_cases e : x = key
        · subst e
          rw [pk_us, pk_uLs, pk_uLs]
          exact hv
        · rw [pk_un e, pk_uLn e, pk_uLn e]
          exact hD x hx
      · exact br_t r0 ⟨ik, nm_r (tg_u rfl (by omega) (tg_vbl v01)) ⟨ik, nm_r (tg_uL rfl (by omega) rfl) ⟨i18, nm_r (tg_u rfl (by omega) (tg_rd rfl (by omega))) ⟨i18, nm_r (tg_u rfl (by omega) rfl) ⟨i18, nm_r (tg_uL rfl (by omega) rfl) h⟩⟩⟩⟩⟩
    · refine tg_B_m (sd_1 (rC := upd rC q rc) (rR := vp_updL rR q rr) (rN := upd rN q (qN c)) (ht := ht) (vt := vt) (vv := vv) (rc := rc) (rr := rr) (re := re) (sk := sk) (f := f) hc hq (by omega) hb hL hm hli hg hx hy hD hP hQ hF pk_us pk_uLs) (fun post h => br_f n2 (br_f tg_d1 ⟨i3, ?_⟩)) (fun post h => br_f n2 (br_f n2 (br_f tg_d1 ⟨i3, i18, nm_r (tg_u rfl (by omega) (tg_rd rfl (by omega))) ⟨i18, nm_r (tg_u rfl (by omega) rfl) ⟨i18, nm_r (tg_uL rfl (by omega) rfl) (br_f r0 h)⟩⟩⟩)))
      exact br_f r0 ⟨i18, nm_r (tg_u rfl (by omega) (tg_rd rfl (by omega))) ⟨i18, nm_r (tg_u rfl (by omega) rfl) ⟨i18, nm_r (tg_uL rfl (by omega) rfl) h⟩⟩⟩
theorem sd_send {k c : Nat} (hc : c < 3) (hC : tg_C bk lv ls li ll sz) (hD : tg_D eT eV va) (hP : tg_Pr ds dO dC tS tO tC yo yg le) (hQ : tg_Q k qN qK an on) (hF : tg_F fk) :
    tg_B k (fun post => wpX_send post (bk, lv, ds, fk, lo, ex, ht, vt, vv, rc, rr, ls, eT, eV, rN, rC, rR, dO, dC, tS, tO, tC, re, qN, qT, qK, qA, an, cR, sk) (nI c)) (fun post => wpY_send post (bk, fk, lo, ex, vh, vw, oc, li, ll, sz, eT, va, rN, rC, rR, yo, yg, le, pa, st, qN, qT, qK, qA, on, cR, wa) (nI c)) := by
  have hC0 := hC
  obtain ⟨b, L, g, hb, hL, rfl, rfl, hli, hg, hx, hy⟩ := hC
  obtain ⟨f, hf, rfl⟩ := hF
  obtain ⟨j, key, hj, ej, hkey, ekey, -⟩ := hQ c hc
  have hF0 : tg_F 0 := ⟨0, by decide, rfl⟩
  have i3 : vp_in (nI c) 3 := vp_in_nI hc (by decide)
  have cc : (nI c).toNatClampNeg = c := nI_clamp (by omega)
  have e6 : nI key - nI key / 6 * 6 = nI (key % 6) := pk_rem (d := 6) (by omega) (by decide) (by decide)
  have p6 : key % 6 < 6 := Nat.mod_lt _ (by decide)
  have ip : vp_in (nI (key % 6)) 6 := vp_in_nI p6 (by decide)
  have cp : (nI (key % 6)).toNatClampNeg = key % 6 := nI_clamp (by omega)
  have G := (hg _ p6).1
  have gl := G.1
  have ek : qK (nI c).toNatClampNeg = nI key := by rw [cc]; exact ekey
  by_cases hL0 : L = 0
  · subst hL0
    have g0 : g (key % 6) = [] := (hg _ p6).2.mpr rfl
    refine tg_B_1 (r := 4) (u := ((nI b), (nI 0), ds, 0, lo, ex, ht, vt, vv, rc, rr, ls, eT, eV, rN, rC, rR, dO, dC, tS, tO, tC, re, qN, qT, qK, qA, an, cR, sk)) (v := ((nI b), 0, lo, ex, vh, vw, oc, li, ll, sz, eT, va, rN, rC, rR, yo, yg, le, pa, st, qN, qT, qK, qA, on, cR, wa)) (i_mk hC0 hD hP hQ hF0) (fun post hp => br_t rfl hp) (fun post hp => ⟨i3, nm_r ek ⟨tg_d6, nm_r e6 ⟨ip, br_t ?_ hp⟩⟩⟩)
    rw [cp, (hy _ p6).1, g0]; rfl
  · have gn : ¬ g (key % 6) = [] := fun e => hL0 ((hg _ p6).2.mp e)
    have l0 := tg_len0 gn
    have hlv : ¬ nI L = 0 := nI_ne0 (by omega) (by omega)
    have hsz : ¬ sz (nI (key % 6)).toNatClampNeg = 0 := by rw [cp, (hy _ p6).1]; exact nI_ne0 l0 (by omega)
    by_cases hf1 : f = 1
    · subst hf1
      exact tg_B_1 (r := 5) (u := ((nI b), (nI L), ds, 0, lo, ex, ht, vt, vv, rc, rr, ls, eT, eV, rN, rC, rR, dO, dC, tS, tO, tC, re, qN, qT, qK, qA, an, cR, sk)) (v := ((nI b), 0, lo, ex, vh, vw, oc, li, ll, sz, eT, va, rN, rC, rR, yo, yg, le, pa, st, qN, qT, qK, qA, on, cR, wa)) (i_mk hC0 hD hP hQ hF0) (fun post hp => br_f hlv (br_t rfl hp)) (fun post hp => ⟨i3, nm_r ek ⟨tg_d6, nm_r e6 ⟨ip, br_f hsz (br_t rfl hp)⟩⟩⟩)
    · have n1 : ¬ nI f = 1 := tg_neI (b := 1) hf1 (by omega) (by decide)
      have q18 : 3 * (key % 6) + c < 18 := by omega
      have iq : vp_in (nI (3 * (key % 6) + c)) 18 := vp_in_nI q18 (by decide)
      have cq : (nI (3 * (key % 6) + c)).toNatClampNeg = 3 * (key % 6) + c := nI_clamp (by omega)
      have c5 : (5 * nI (key % 6)).toNatClampNeg = 5 * (key % 6) := by rw [tg_5p, nI_clamp (by omega)]
      have o5 : ll (5 * nI (key % 6)).toNatClampNeg = nI ((g (key % 6)).getD 0 0) := by rw [c5]; exact (hy _ p6).2 0 l0
      have m5 := G.lt _ (tg_getD l0)
      have XO : ∀ post : Int32 → SX → Prop, ((rN (3 * (key % 6) + c) = qN c → wX_send_81 post (nI c) (nI f) (nI key) (nI (3 * (key % 6) + c)) (nI ((g (key % 6)).getD 0 0)) 0 (nI b) (nI L) ds 0 lo ex ht vt vv rc rr ls eT eV rN rC rR dO dC tS tO tC re qN qT qK qA an cR sk) ∧ (¬ rN (3 * (key % 6) + c) = qN c → wX_send_81 post (nI c) (nI f) (nI key) (nI (3 * (key % 6) + c)) (nI ((g (key % 6)).getD 0 0)) 1 (nI b) (nI L) ds 0 lo ex ht vt vv rc rr ls eT eV rN rC rR dO dC tS tO tC re qN qT qK qA an cR sk)) → wpX_send post ((nI b), (nI L), ds, (nI f), lo, ex, ht, vt, vv, rc, rr, ls, eT, eV, rN, rC, rR, dO, dC, tS, tO, tC, re, qN, qT, qK, qA, an, cR, sk) (nI c) := by
        intro post h
        refine br_f hlv (br_f n1 ⟨i3, nm_r ek ⟨tg_d6, nm_r e6 (nm_r (tg_i3 _ _) ⟨ip, ?_⟩)⟩⟩)
        rw [cp, hx _ p6]
        refine tx_mem1 (j := 0) G.1 G.lt l0 ⟨iq, i3, ?_⟩
        rw [cq, cc]
        exact h
      have YO : ∀ post : Int32 → SY → Prop, ((rN (3 * (key % 6) + c) = qN c → wY_send_102 post (nI c) (nI f) (nI key) (nI ((g (key % 6)).getD 0 0)) (nI (3 * (key % 6) + c)) (rC (3 * (key % 6) + c)) 0 (nI b) 0 lo ex vh vw (rR (3 * (key % 6) + c)) li ll sz eT va rN rC rR yo yg le pa st qN qT qK qA on cR wa) ∧ (¬ rN (3 * (key % 6) + c) = qN c → wY_send_102 post (nI c) (nI f) (nI key) (nI ((g (key % 6)).getD 0 0)) (nI (3 * (key % 6) + c)) (rC (3 * (key % 6) + c)) 1 (nI b) 0 lo ex vh vw (rR (3 * (key % 6) + c)) li ll sz eT va rN rC rR yo yg le pa st qN qT qK qA on cR wa)) → wpY_send post ((nI b), (nI f), lo, ex, vh, vw, oc, li, ll, sz, eT, va, rN, rC, rR, yo, yg, le, pa, st, qN, qT, qK, qA, on, cR, wa) (nI c) := by
        intro post h
        refine ⟨i3, nm_r ek ⟨tg_d6, nm_r e6 ⟨ip, br_f hsz (br_f n1 ⟨tg_vi (tg_5p _) (by omega) (by decide), nm_r o5 (nm_r (tg_3i _ _) ⟨iq, nm_r (tg_rd rfl (by omega)) ⟨iq, nm_r (tg_rdL rfl (by omega)) ⟨iq, i3, ?_⟩⟩⟩)⟩)⟩⟩⟩
        rw [cq, cc]
        exact h
      by_cases hn : rN (3 * (key % 6) + c) = qN c
      · exact tg_B_m (sd_2 (f := f) (key := key) (fk := 0) (q := 3 * (key % 6) + c) (m := (g (key % 6)).getD 0 0) hc q18 (by omega) hb hL m5 hli hg hx hy hD hP hQ hF0 rfl rfl) (fun post h => XO post (br_t hn (br_t rfl h))) (fun post h => YO post (br_t hn (br_t rfl h)))
      · obtain ⟨co, res, vt9, ht9, vv9, vw9, sk9, st9, vh9, a1, a2, a3⟩ := ex_all (c := c) (key := key) (bk := nI b) (lv := nI L) (ds := ds) (fk := 0) (lo := lo) (ex := ex) (ht := ht) (vt := vt) (vv := vv) (rc := rc) (rr := rr) (ls := ls) (eT := eT) (eV := eV) (rN := rN) (rC := rC) (rR := rR) (dO := dO) (dC := dC) (tS := tS) (tO := tO) (tC := tC) (re := re) (qN := qN) (qT := qT) (qK := qK) (qA := qA) (an := an) (cR := cR) (sk := sk) (vh := vh) (vw := vw) (oc := rR (3 * (key % 6) + c)) (li := li) (ll := ll) (sz := sz) (va := va) (yo := yo) (yg := yg) (le := le) (pa := pa) (st := st) (on := on) (wa := wa) hP hD hc hkey
        refine tg_B_m (sd_3 (f := f) (key := key) (fk := 0) (q := 3 * (key % 6) + c) (m := (g (key % 6)).getD 0 0) (ht := ht9) (vt := vt9) (vv := vv9) (rc := co) (rr := res) (re := re) (sk := sk9) (ex := ex + 1) (vh := vh9) (vw := vw9) (st := st9) hc q18 hkey (by omega) hb hL m5 hli hg hx hy hD hP hQ hF0 a1) (fun post h => XO post (br_f hn (br_f tg_d1 ⟨i3, i3, ?_⟩))) (fun post h => YO post (br_f hn (a3 post _ _ _ _ h)))
        rw [cc]
        exact a2 _ h
end ST
theorem i_vc_retry {k : Nat} {u : SX} {v : SY} (I : i_Rel k u v) (hk : k + 5 ≤ 2561) (v1 : Int32) : wpX_retry (fun r u' => wpY_retry (fun r' v' => r' = r ∧ i_Rel (k + 5) u' v') v v1) u v1 := by
  have J := i_up I
  obtain ⟨bk, lv, ds, fk, lo, ex, ht, vt, vv, rc, rr, ls, eT, eV, rN, rC, rR, dO, dC, tS, tO, tC, re, qN, qT, qK, qA, an, cR, sk, vh, vw, oc, li, ll, sz, va, yo, yg, le, pa, st, on, wa, rfl, rfl, hC, hD, hP, hQ, hF⟩ := I
  unfold wpX_retry
  rcases pk_ix v1 (n := 3) (by decide) with h | h | ⟨c, hc, rfl⟩
  · exact tx_isC0 (Or.inl h) (br_t rfl (br_t h ⟨rfl, J⟩))
  · have B := tg_big h (by decide)
    exact tx_isC0 (Or.inr h) (br_t rfl (br_f B.1 (br_t (B.2 2 (by decide)).2 ⟨rfl, J⟩)))
  · have i3 : vp_in (nI c) 3 := vp_in_nI hc (by decide)
    have cc : (nI c).toNatClampNeg = c := nI_clamp (by omega)
    have y1 : ¬ nI c < 0 := nI_pos (by omega)
    have y2 : ¬ (2 : Int32) < nI c := nI_nlt (a := 2) (b := c) (by omega) (by decide)
    obtain ⟨j, q, hj, ej, hq, eq, ho⟩ := hQ c hc
    refine tx_isC1 hc (br_f tg_d1 ⟨i3, ?_⟩)
    rw [cc, ej]
    rcases ho with ⟨o1, j0, a0⟩ | ⟨o0, ja⟩
    · obtain ⟨QX, QY, b1, b2, b3⟩ := sd_send (bk := bk) (lv := lv) (ds := ds) (fk := fk) (lo := lo) (ex := ex) (ht := ht) (vt := vt) (vv := vv) (rc := rc) (rr := rr) (ls := ls) (eT := eT) (eV := eV) (rN := rN) (rC := rC) (rR := rR) (dO := dO) (dC := dC) (tS := tS) (tO := tO) (tC := tC) (re := re) (qN := qN) (qT := qT) (qK := qK) (qA := qA) (an := an) (cR := cR) (sk := sk) (vh := vh) (vw := vw) (oc := oc) (li := li) (ll := ll) (sz := sz) (va := va) (yo := yo) (yg := yg) (le := le) (pa := pa) (st := st) (on := on) (wa := wa) hc hC hD hP (tg_Q_up (d := 5) hQ) hF
      refine br_f (nI_ne0 (by omega) (by omega)) ⟨i3, br_t a0 (b1 _ (fun r u hr => ?_))⟩
      exact br_f y1 (br_f y2 ⟨i3, br_f (by rw [cc, o1]; exact tg_d1) (b2 _ (fun r' v hv => b3 _ _ _ _ hr hv))⟩)
    · have Y : ∀ r : Int32, r = -1 → wpY_retry (fun r' v' => r' = r ∧ i_Rel (k + 5) (bk, lv, ds, fk, lo, ex, ht, vt, vv, rc, rr, ls, eT, eV, rN, rC, rR, dO, dC, tS, tO, tC, re, qN, qT, qK, qA, an, cR, sk) v') (bk, fk, lo, ex, vh, vw, oc, li, ll, sz, eT, va, rN, rC, rR, yo, yg, le, pa, st, qN, qT, qK, qA, on, cR, wa) (nI c) := fun r hr => br_f y1 (br_f y2 ⟨i3, br_t (by rw [cc]; exact o0) ⟨hr.symm, J⟩⟩)
      by_cases j0 : j = 0
      · subst j0
        exact br_t rfl (Y _ rfl)
      · refine br_f (nI_ne0 (by omega) (by omega)) ⟨i3, br_f ?_ (Y _ rfl)⟩
        rw [ja.resolve_left j0]; exact tg_d1
theorem i_vc_submit {k : Nat} {u : SX} {v : SY} (I : i_Rel k u v) (hk : k + 5 ≤ 2561) (v1 : Int32) (v2 : Int32) (v3 : Int32) (v4 : Int32) : wpX_submit (fun r u' => wpY_submit (fun r' v' => r' = r ∧ i_Rel (k + 5) u' v') v v1 v2 v3 v4) u v1 v2 v3 v4 := by
  have J := i_up I
  obtain ⟨bk, lv, ds, fk, lo, ex, ht, vt, vv, rc, rr, ls, eT, eV, rN, rC, rR, dO, dC, tS, tO, tC, re, qN, qT, qK, qA, an, cR, sk, vh, vw, oc, li, ll, sz, va, yo, yg, le, pa, st, on, wa, rfl, rfl, hC, hD, hP, hQ, hF⟩ := I
  unfold wpX_submit
  rcases pk_ix v1 (n := 3) (by decide) with h | h | ⟨c, hc, rfl⟩
  · exact tx_isC0 (Or.inl h) (br_t rfl (br_t h ⟨rfl, J⟩))
  · have B := tg_big h (by decide)
    exact tx_isC0 (Or.inr h) (br_t rfl (br_f B.1 (br_t (B.2 2 (by decide)).2 ⟨rfl, J⟩)))
  · have i3 : vp_in (nI c) 3 := vp_in_nI hc (by decide)
    have cc : (nI c).toNatClampNeg = c := nI_clamp (by omega)
    have y1 : ¬ nI c < 0 := nI_pos (by omega)
    have y2 : ¬ (2 : Int32) < nI c := nI_nlt (a := 2) (b := c) (by omega) (by decide)
    refine tx_isC1 hc (br_f tg_d1 ?_)
    rcases pk_ix v3 (n := 18) (by decide) with h | h | ⟨key, hkey, rfl⟩
    · exact tx_isK0 (Or.inl h) (br_t rfl (br_f y1 (br_f y2 (br_t h ⟨rfl, J⟩))))
    · have B := tg_big h (by decide)
      exact tx_isK0 (Or.inr h) (br_t rfl (br_f y1 (br_f y2 (br_f B.1 (br_f (B.2 17 (by decide)).1 ⟨rfl, J⟩)))))
    · have hQ2 : tg_Q (k + 5) (upd qN c (qN c + 1)) (upd qK c (nI key)) (upd an c 0) (upd on c 1) := by
        intro d hd
        obtain ⟨j, q, h1, h2, h3, h4, h5⟩ := hQ d hd
        by_cases e : d = c
        · subst e
          exact ⟨j + 1, key, by omega, by rw [pk_us, h2, nI_1], hkey, pk_us, Or.inl ⟨pk_us, by omega, pk_us⟩⟩
        · exact ⟨j, q, by omega, by rw [pk_un e]; exact h2, h3, by rw [pk_un e]; exact h4, by rw [pk_un e, pk_un e]; exact h5⟩
      obtain ⟨QX, QY, b1, b2, b3⟩ := sd_send (bk := bk) (lv := lv) (ds := ds) (fk := fk) (lo := lo) (ex := ex) (ht := ht) (vt := vt) (vv := vv) (rc := rc) (rr := rr) (ls := ls) (eT := eT) (eV := eV) (rN := rN) (rC := rC) (rR := rR) (dO := dO) (dC := dC) (tS := tS) (tO := tO) (tC := tC) (re := re) (qN := upd qN c (qN c + 1)) (qT := upd qT c v2) (qK := upd qK c (nI key)) (qA := upd qA c v4) (an := upd an c 0) (cR := cR) (sk := sk) (vh := vh) (vw := vw) (oc := oc) (li := li) (ll := ll) (sz := sz) (va := va) (yo := yo) (yg := yg) (le := le) (pa := pa) (st := st) (on := upd on c 1) (wa := wa) hc hC hD hP hQ2 hF
      have e1 : upd qN (nI c).toNatClampNeg (qN (nI c).toNatClampNeg + 1) = upd qN c (qN c + 1) := by rw [cc]
      refine tx_isK1 hkey (br_f tg_d1 ⟨i3, i3, nm_r e1 ⟨i3, nm_r (tg_u rfl (by omega) rfl) ⟨i3, nm_r (tg_u rfl (by omega) rfl) ⟨i3, nm_r (tg_u rfl (by omega) rfl) ⟨i3, nm_r (tg_u rfl (by omega) tg_vb0) (b1 _ (fun r u hr => ?_))⟩⟩⟩⟩⟩)
      exact br_f y1 (br_f y2 (br_f (nI_pos (by omega)) (br_t (nI_le (b := 17) (by omega) (by decide)) ⟨i3, i3, nm_r e1 ⟨i3, nm_r (tg_u rfl (by omega) rfl) ⟨i3, nm_r (tg_u rfl (by omega) rfl) ⟨i3, nm_r (tg_u rfl (by omega) rfl) ⟨i3, nm_r (tg_u rfl (by omega) tg_vb1) (b2 _ (fun r' v hv => b3 _ _ _ _ hr hv))⟩⟩⟩⟩⟩)))
