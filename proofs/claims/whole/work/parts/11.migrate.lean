/-! 11: migrate -/
section MG
variable {bk : Int32} {lv : Int32} {ds : Int32} {fk : Int32} {lo : Int32} {ex : Int32} {ht : Int32} {vt : Int32} {vv : Int64} {rc : Int32} {rr : Int64} {ls : Nat → Int32} {eT : Nat → Int32} {eV : Nat → Int64} {rN : Nat → Int32} {rC : Nat → Int32} {rR : Nat → Int64} {dO : Nat → Int32} {dC : Nat → Int64} {tS : Nat → Int32} {tO : Nat → Int32} {tC : Nat → Int64} {re : Nat → Int32} {qN : Nat → Int32} {qT : Nat → Int32} {qK : Nat → Int32} {qA : Nat → Int32} {an : Nat → Int32} {cR : Nat → Int64} {sk : Nat → Int64} {vh : Int32} {vw : Int64} {oc : Int64} {li : Nat → Int32} {ll : Nat → Int32} {sz : Nat → Int32} {va : Nat → Int64} {yo : Nat → Int32} {yg : Nat → Int64} {le : Nat → Int32} {pa : Nat → Int32} {st : Nat → Int64} {on : Nat → Int32} {wa : Nat → Int32}
theorem tx_mg_l {post : Int32 → SX → Prop} {L b : Nat} {g : Nat → List Nat} (hL : L < 32) (hb : b ≤ 2) (hg : ∀ p, p < 6 → tg_G L (g p)) (hx : tg_LX g ls)
    (hf : ∀ q, q < 6 → (∀ r, r < q → g r = tg_w r L b 5) → ¬ g q = tg_w q L b 5 → post (nI q) ((nI b), (nI L), ds, fk, lo, ex, ht, vt, vv, rc, rr, (upd ls q (nI (tg_pk (tg_w q L b 5)))), eT, eV, rN, rC, rR, dO, dC, tS, tO, tC, re, qN, qT, qK, qA, an, cR, sk))
    (hn : (∀ r, r < 6 → g r = tg_w r L b 5) → post (-1) ((nI b), (nI L), ds, fk, lo, ex, ht, vt, vv, rc, rr, ls, eT, eV, rN, rC, rR, dO, dC, tS, tO, tC, re, qN, qT, qK, qA, an, cR, sk)) :
    ∀ d p n, p + d = 6 → d < n → (∀ r, r < p → g r = tg_w r L b 5) → wX_migrate_2 post (nI b) (nI L) ds fk lo ex ht vt vv rc rr ls eT eV rN rC rR dO dC tS tO tC re qN qT qK qA an cR sk n (nI p) := by
  intro d
  induction d with
  | zero =>
    intro p n hp hn2 hr
    obtain ⟨n, rfl⟩ : ∃ k, n = k + 1 := ⟨n - 1, by omega⟩
    obtain rfl : p = 6 := by omega
    exact br_t (nI_le (a := 6) (b := 6) (by omega) (by decide)) (hn hr)
  | succ d ih =>
    intro p n hp hn2 hr
    obtain ⟨n, rfl⟩ : ∃ k, n = k + 1 := ⟨n - 1, by omega⟩
    have p6 : p < 6 := by omega
    have i6 : vp_in (nI p) 6 := vp_in_nI p6 (by decide)
    have cl : (nI p).toNatClampNeg = p := nI_clamp (by omega)
    have G := tg_w_G (p := p) (L := L) hb 5
    have l1 := tg_pk_lt (hg p p6).1 (hg p p6).lt
    have l2 := tg_pk_lt G.1 G.lt
    refine br_f (nI_ge (b := 6) (by omega) (by decide)) (tx_wl p6 hL hb ⟨i6, ?_⟩)
    rw [cl, hx p p6]
    by_cases c : g p = tg_w p L b 5
    · refine br_t (by rw [c]) (nm_r (nI_1 p) (ih (p + 1) n (by omega) (by omega) (fun r h => ?_)))
      by_cases e : r = p
      · rw [e]; exact c
      · exact hr r (by omega)
    · exact br_f (fun z => c (tg_pk_inj (hg p p6).lt G.lt ((nI_eq (by omega) (by omega)).mp z))) ⟨i6, nm_e (hf p p6 hr c)⟩
/-- Y's comparison of a list with the wanted one -/
theorem ty_mc_l {post : Int32 → SY → Prop} {J : Int32 → Int32 → Int32 → Int32 → Int32 → Int32 → Int64 → Int64 → (Nat → Int32) → (Nat → Int32) → (Nat → Int32) → (Nat → Int32) → (Nat → Int64) → (Nat → Int32) → (Nat → Int32) → (Nat → Int64) → (Nat → Int32) → (Nat → Int64) → (Nat → Int32) → (Nat → Int32) → (Nat → Int64) → (Nat → Int32) → (Nat → Int32) → (Nat → Int32) → (Nat → Int32) → (Nat → Int32) → (Nat → Int64) → (Nat → Int32) → Prop} {w g : List Nat} {p : Nat} (hp : p < 6) (hw3 : w.length ≤ 3) (hg3 : g.length ≤ 3) (hw5 : ∀ x, x ∈ w → x < 5) (hg5 : ∀ x, x ∈ g → x < 5)
    (hw : tg_WA w wa) (hll : ∀ j, j < g.length → ll (5 * p + j) = nI (g.getD j 0))
    (hJ : g = w → J (nI (p + 1)) bk fk lo ex vh vw oc li ll sz eT va rN rC rR yo yg le pa st qN qT qK qA on cR wa) (hN : ¬ g = w → ∃ n, wY_migrate_79 post (nI p) (nI w.length) bk fk lo ex vh vw oc n 0 li ll sz eT va rN rC rR yo yg le pa st qN qT qK qA on cR wa) :
    ∀ d k n f, k + d = w.length → d < n → (f = 1 ∧ g.length = w.length ∧ (∀ j, j < k → g.getD j 0 = w.getD j 0) ∨ f = 0 ∧ ¬ g = w) → wY_migrate_34 post J (nI p) (nI w.length) bk fk lo ex vh vw oc li ll sz eT va rN rC rR yo yg le pa st qN qT qK qA on cR wa n f (nI k) := by
  intro d
  induction d with
  | zero =>
    intro k n f hk hn hf
    obtain ⟨n, rfl⟩ : ∃ k, n = k + 1 := ⟨n - 1, by omega⟩
    obtain rfl : k = w.length := by omega
    refine br_t (nI_le (Nat.le_refl _) (by omega)) ?_
    rcases hf with ⟨rfl, e, a⟩ | ⟨rfl, e⟩
    · have z : g = w := by
        apply List.ext_getElem e
        intro i h1 h2
        have y := a i h2
        rw [List.getD_eq_getElem?_getD, List.getD_eq_getElem?_getD, List.getElem?_eq_getElem h1, List.getElem?_eq_getElem h2] at y
        exact y
      exact br_f tg_d1 (nm_r (nI_1 p) (hJ z))
    · exact br_t rfl (hN e)
  | succ d ih =>
    intro k n f hk hn hf
    obtain ⟨n, rfl⟩ : ∃ k, n = k + 1 := ⟨n - 1, by omega⟩
    have ck : (nI k).toNatClampNeg = k := nI_clamp (by omega)
    have c5 : (5 * nI p + nI k).toNatClampNeg = 5 * p + k := by rw [tg_5i, nI_clamp (by omega)]
    refine br_f (nI_ge (by omega) (by omega)) ⟨tg_vi (tg_5i p k) (by omega) (by decide), vp_in_nI (by omega) (by decide), ?_⟩
    rw [c5, ck, hw k (by omega)]
    have w5 := hw5 _ (tg_getD (g := w) (j := k) (by omega))
    rcases hf with ⟨rfl, e, a⟩ | ⟨rfl, e⟩
    · have g5 := hg5 _ (tg_getD (g := g) (j := k) (by omega))
      rw [hll k (by omega)]
      by_cases z : g.getD k 0 = w.getD k 0
      · refine br_t (by rw [z]) (nm_r (nI_1 k) (ih (k + 1) n 1 (by omega) (by omega) (Or.inl ⟨rfl, e, fun j hj => ?_⟩)))
        by_cases y : j = k
        · rw [y]; exact z
        · exact a j (by omega)
      · exact br_f (fun y => z ((nI_eq (by omega) (by omega)).mp y)) (nm_r (nI_1 k) (ih (k + 1) n 0 (by omega) (by omega) (Or.inr ⟨rfl, fun y => z (by rw [y])⟩)))
    · have I := ih (k + 1) n 0 (by omega) (by omega) (Or.inr ⟨rfl, e⟩)
      exact br_c (fun _ => nm_r (nI_1 k) I) (fun _ => nm_r (nI_1 k) I)
/-- Y's copy of the wanted list -/
theorem ty_mw_l {post : Int32 → SY → Prop} {w : List Nat} {p : Nat} {l0 : Nat → Int32} (hp : p < 6) (hw3 : w.length ≤ 3) (hw5 : ∀ x, x ∈ w → x < 5) (hw : tg_WA w wa)
    (h : ∀ ll, (∀ j, j < w.length → ll (5 * p + j) = nI (w.getD j 0)) → (∀ q, q < 5 * p ∨ 5 * p + 5 ≤ q → ll q = l0 q) → post (nI p) (bk, fk, lo, ex, vh, vw, oc, li, ll, (upd sz p (nI w.length)), eT, va, rN, rC, rR, yo, yg, le, pa, st, qN, qT, qK, qA, on, cR, wa)) :
    ∀ d k n ll, k + d = w.length → d < n → (∀ j, j < k → ll (5 * p + j) = nI (w.getD j 0)) → (∀ q, q < 5 * p ∨ 5 * p + 5 ≤ q → ll q = l0 q) → wY_migrate_79 post (nI p) (nI w.length) bk fk lo ex vh vw oc n (nI k) li ll sz eT va rN rC rR yo yg le pa st qN qT qK qA on cR wa := by
  intro d
  induction d with
  | zero =>
    intro k n ll hk hn h1 h2
    obtain ⟨n, rfl⟩ : ∃ k, n = k + 1 := ⟨n - 1, by omega⟩
    obtain rfl : k = w.length := by omega
    exact br_t (nI_le (Nat.le_refl _) (by omega)) ⟨vp_in_nI hp (by decide), nm_r (tg_u rfl (by omega) (tg_vB2 (by omega))) (h ll h1 h2)⟩
  | succ d ih =>
    intro k n ll hk hn h1 h2
    obtain ⟨n, rfl⟩ : ∃ k, n = k + 1 := ⟨n - 1, by omega⟩
    have ck : (nI k).toNatClampNeg = k := nI_clamp (by omega)
    have w5 := hw5 _ (tg_getD (g := w) (j := k) (by omega))
    have wk := hw k (by omega)
    refine br_f (nI_ge (by omega) (by omega)) ⟨vp_in_nI (by omega) (by decide), tg_vi (tg_5i p k) (by omega) (by decide), nm_r (tg_u (w := nI (w.getD k 0)) (tg_5i p k) (by omega) (by rw [ck, wk]; exact tg_vB (by omega))) (nm_r (nI_1 k) (ih (k + 1) n _ (by omega) (by omega) (fun j hj => ?_) (fun q hq => ?_)))⟩
    · by_cases e : j = k
      · rw [e, pk_us]
      · rw [pk_un (by omega)]; exact h1 j (by omega)
    · rw [pk_un (by omega)]; exact h2 q hq
theorem ty_mg_f {post : Int32 → SY → Prop} {L b q : Nat} {g : Nat → List Nat} (hL : L < 32) (hb : b ≤ 2) (hg : ∀ p, p < 6 → tg_G L (g p)) (hli : tg_LI L li) (hy : tg_LY g ll sz) (hq : q < 6)
    (hr : ∀ r, r < q → g r = tg_w r L b 5) (hne : ¬ g q = tg_w q L b 5)
    (h : ∀ ll2 wa, (∀ j, j < (tg_w q L b 5).length → ll2 (5 * q + j) = nI ((tg_w q L b 5).getD j 0)) → (∀ r, r < 5 * q ∨ 5 * q + 5 ≤ r → ll2 r = ll r) → post (nI q) ((nI b), fk, lo, ex, vh, vw, oc, li, ll2, (upd sz q (nI (tg_w q L b 5).length)), eT, va, rN, rC, rR, yo, yg, le, pa, st, qN, qT, qK, qA, on, cR, wa)) :
    ∀ d p n wa, p + d = q → d < n → wY_migrate_2 post n (nI p) (nI b) fk lo ex vh vw oc li ll sz eT va rN rC rR yo yg le pa st qN qT qK qA on cR wa := by
  intro d
  induction d with
  | zero =>
    intro p n wa hp hn
    obtain ⟨n, rfl⟩ : ∃ k, n = k + 1 := ⟨n - 1, by omega⟩
    obtain rfl : p = q := by omega
    have cl : (nI p).toNatClampNeg = p := nI_clamp (by omega)
    have G := tg_w_G (p := p) (L := L) hb 5
    have gl := (hg p hq).1
    have wl := G.1
    refine br_f (nI_ge (b := 6) (by omega) (by decide)) (ty_wt hq hb (tg_LI_q hli) (fun wa2 hw => ⟨vp_in_nI hq (by decide), ?_⟩))
    have H : ∀ f, (f = 1 ∧ (g p).length = (tg_w p L b 5).length ∧ (∀ j, j < 0 → (g p).getD j 0 = (tg_w p L b 5).getD j 0) ∨ f = 0 ∧ ¬ g p = tg_w p L b 5) → ∃ n34, wY_migrate_34 post (wY_migrate_2 post n) (nI p) (nI (tg_w p L b 5).length) (nI b) fk lo ex vh vw oc li ll sz eT va rN rC rR yo yg le pa st qN qT qK qA on cR wa2 n34 f 0 := by
      intro f hf
      exact ⟨(tg_w p L b 5).length + 1, ty_mc_l (g := g p) hq G.1 gl G.lt (hg p hq).lt hw (hy p hq).2 (fun e => absurd e hne) (fun _ => ⟨(tg_w p L b 5).length + 1, ty_mw_l (l0 := ll) hq G.1 G.lt hw (fun ll2 a1 a2 => h ll2 wa2 a1 a2) (tg_w p L b 5).length 0 _ ll (by omega) (by omega) (fun j hj => absurd hj (by omega)) (fun _ _ => rfl)⟩) (tg_w p L b 5).length 0 _ f (by omega) (by omega) hf⟩
    rw [cl, (hy p hq).1]
    by_cases e : (g p).length = (tg_w p L b 5).length
    · exact br_t (by rw [e]) (H 1 (Or.inl ⟨rfl, e, fun j hj => absurd hj (by omega)⟩))
    · exact br_f (fun z => e ((nI_eq (by omega) (by omega)).mp z).symm) (H 0 (Or.inr ⟨rfl, hne⟩))
  | succ d ih =>
    intro p n wa hp hn
    obtain ⟨n, rfl⟩ : ∃ k, n = k + 1 := ⟨n - 1, by omega⟩
    have p6 : p < 6 := by omega
    have cl : (nI p).toNatClampNeg = p := nI_clamp (by omega)
    have G := tg_w_G (p := p) (L := L) hb 5
    have gl := (hg p p6).1
    have wl := G.1
    have gw := hr p (by omega)
    refine br_f (nI_ge (b := 6) (by omega) (by decide)) (ty_wt p6 hb (tg_LI_q hli) (fun wa2 hw => ⟨vp_in_nI p6 (by decide), ?_⟩))
    rw [cl, (hy p p6).1]
    refine br_t (by rw [gw]) ⟨(tg_w p L b 5).length + 1, ?_⟩
    exact ty_mc_l (g := g p) p6 G.1 gl G.lt (hg p p6).lt hw (hy p p6).2 (fun _ => ih (p + 1) n wa2 (by omega) (by omega)) (fun e => absurd gw e) (tg_w p L b 5).length 0 _ 1 (by omega) (by omega) (Or.inl ⟨rfl, by rw [gw], fun j hj => absurd hj (by omega)⟩)
theorem ty_mg_n {post : Int32 → SY → Prop} {L b : Nat} {g : Nat → List Nat} (hL : L < 32) (hb : b ≤ 2) (hg : ∀ p, p < 6 → tg_G L (g p)) (hli : tg_LI L li) (hy : tg_LY g ll sz)
    (hr : ∀ r, r < 6 → g r = tg_w r L b 5)
    (h : ∀ wa, post (-1) ((nI b), fk, lo, ex, vh, vw, oc, li, ll, sz, eT, va, rN, rC, rR, yo, yg, le, pa, st, qN, qT, qK, qA, on, cR, wa)) :
    ∀ d p n wa, p + d = 6 → d < n → wY_migrate_2 post n (nI p) (nI b) fk lo ex vh vw oc li ll sz eT va rN rC rR yo yg le pa st qN qT qK qA on cR wa := by
  intro d
  induction d with
  | zero =>
    intro p n wa hp hn
    obtain ⟨n, rfl⟩ : ∃ k, n = k + 1 := ⟨n - 1, by omega⟩
    obtain rfl : p = 6 := by omega
    exact br_t (nI_le (a := 6) (b := 6) (by omega) (by decide)) (h wa)
  | succ d ih =>
    intro p n wa hp hn
    obtain ⟨n, rfl⟩ : ∃ k, n = k + 1 := ⟨n - 1, by omega⟩
    have p6 : p < 6 := by omega
    have cl : (nI p).toNatClampNeg = p := nI_clamp (by omega)
    have G := tg_w_G (p := p) (L := L) hb 5
    have gl := (hg p p6).1
    have wl := G.1
    have gw := hr p (by omega)
    refine br_f (nI_ge (b := 6) (by omega) (by decide)) (ty_wt p6 hb (tg_LI_q hli) (fun wa2 hw => ⟨vp_in_nI p6 (by decide), ?_⟩))
    rw [cl, (hy p p6).1]
    refine br_t (by rw [gw]) ⟨(tg_w p L b 5).length + 1, ?_⟩
    exact ty_mc_l (g := g p) p6 G.1 gl G.lt (hg p p6).lt hw (hy p p6).2 (fun _ => ih (p + 1) n wa2 (by omega) (by omega)) (fun e => absurd gw e) (tg_w p L b 5).length 0 _ 1 (by omega) (by omega) (Or.inl ⟨rfl, by rw [gw], fun j hj => absurd hj (by omega)⟩)
end MG
def tg_mg (g : Nat → List Nat) (q : Nat) (w : List Nat) (p : Nat) : List Nat := if p = q then w else g p
theorem i_vc_migrate {k : Nat} {u : SX} {v : SY} (I : i_Rel k u v) (hk : k + 5 ≤ 2561) : wpX_migrate (fun r u' => wpY_migrate (fun r' v' => r' = r ∧ i_Rel (k + 5) u' v') v) u := by
  have J := i_up I
  obtain ⟨bk, lv, ds, fk, lo, ex, ht, vt, vv, rc, rr, ls, eT, eV, rN, rC, rR, dO, dC, tS, tO, tC, re, qN, qT, qK, qA, an, cR, sk, vh, vw, oc, li, ll, sz, va, yo, yg, le, pa, st, on, wa, rfl, rfl, hC, hD, hP, hQ, hF⟩ := I
  obtain ⟨b, L, g, hb, hL, rfl, rfl, hli, hg, hx, hy⟩ := hC
  have hg1 : ∀ p, p < 6 → tg_G L (g p) := fun p hp => (hg p hp).1
  refine ⟨7, tx_mg_l hL hb hg1 hx (fun q hq hr hne => ?_) (fun hr => ?_) 6 0 7 (by omega) (by omega) (fun r h => absurd h (by omega))⟩
  · refine ⟨7, ty_mg_f hL hb hg1 hli hy hq hr hne (fun ll2 wa2 h1 h2 => ?_) q 0 7 wa (by omega) (by omega)⟩
    have G := tg_w_G (p := q) (L := L) hb 5
    refine ⟨rfl, i_mk ⟨b, L, tg_mg g q (tg_w q L b 5), hb, hL, rfl, rfl, hli, fun p hp => ?_, fun p hp => ?_, fun p hp => ?_⟩ hD hP (tg_Q_up hQ) hF⟩
    · by_cases e : p = q
      · subst e
        rw [show tg_mg g p (tg_w p L b 5) p = tg_w p L b 5 from if_pos rfl]
        exact ⟨G, tg_w_0 p hp L hL b (by omega)⟩
      · rw [show tg_mg g q (tg_w q L b 5) p = g p from if_neg e]
        exact hg p hp
    · by_cases e : p = q
      · subst e
        rw [show tg_mg g p (tg_w p L b 5) p = tg_w p L b 5 from if_pos rfl, pk_us]
      · rw [show tg_mg g q (tg_w q L b 5) p = g p from if_neg e, pk_un e]
        exact hx p hp
    · by_cases e : p = q
      · subst e
        rw [show tg_mg g p (tg_w p L b 5) p = tg_w p L b 5 from if_pos rfl, pk_us]
        exact ⟨rfl, h1⟩
      · have gl := (hg1 p hp).1
        rw [show tg_mg g q (tg_w q L b 5) p = g p from if_neg e, pk_un e]
        exact ⟨(hy p hp).1, fun j hj => by rw [h2 _ (by omega)]; exact (hy p hp).2 j hj⟩
  · exact ⟨7, ty_mg_n hL hb hg1 hli hy hr (fun wa2 => ⟨rfl, i_mk ⟨b, L, g, hb, hL, rfl, rfl, hli, hg, hx, hy⟩ hD hP (tg_Q_up hQ) hF⟩) 6 0 7 wa (by omega) (by omega)⟩
