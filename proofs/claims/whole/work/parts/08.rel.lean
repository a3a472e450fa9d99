/-! 08: the relation -/
def tg_C (bk lv : Int32) (ls li ll sz : Nat → Int32) : Prop := ∃ (b L : Nat) (g : Nat → List Nat), b ≤ 2 ∧ L < 32 ∧ bk = nI b ∧ lv = nI L ∧ tg_LI L li ∧ (∀ p, p < 6 → tg_G L (g p) ∧ (g p = [] ↔ L = 0)) ∧ tg_LX g ls ∧ tg_LY g ll sz
def tg_D (eT : Nat → Int32) (eV va : Nat → Int64) : Prop := ∀ k, k < 18 → (eT k = 0 ∧ eV k = 0) ∨ (eT k = 1 ∧ eV k = va k)
def tg_T (z t : Nat) (tO yo : Nat → Int32) (tC yg : Nat → Int64) : Prop :=
  (∀ i, i < z → tO (16 * t + i) = yo (16 * t + i) ∧ tC (16 * t + i) = yg (16 * t + i)) ∧ (z ≠ 0 → ∃ w : Nat → Nat, (∀ i, i < z → w i < 24 ∧ yo (16 * t + i) = nI (w i)) ∧ tg_Ver w (fun i => yg (16 * t + i)) z)
def tg_Pr (ds : Int32) (dO : Nat → Int32) (dC : Nat → Int64) (tS tO : Nat → Int32) (tC : Nat → Int64) (yo : Nat → Int32) (yg : Nat → Int64) (le : Nat → Int32) : Prop :=
  (∃ n, n ≤ 16 ∧ ds = nI n ∧ le 4 = nI n ∧ ∀ i, i < n → ∃ w, w < 24 ∧ dO i = nI w ∧ yo (64 + i) = nI w ∧ yg (64 + i) = dC i) ∧
  ∀ t, t < 4 → ∃ z, z ≤ 16 ∧ tS t = nI z ∧ le t = nI z ∧ tg_T z t tO yo tC yg
def tg_Q (k : Nat) (qN qK an on : Nat → Int32) : Prop := ∀ c, c < 3 → ∃ j q, j ≤ k ∧ qN c = nI j ∧ q < 18 ∧ qK c = nI q ∧ ((on c = 1 ∧ j ≠ 0 ∧ an c = 0) ∨ (on c = 0 ∧ (j = 0 ∨ an c = 1)))
def tg_F (fk : Int32) : Prop := ∃ f, f ≤ 4 ∧ fk = nI f
def tg_R (k : Nat) (bk lv fk ds : Int32) (ls li ll sz eT : Nat → Int32) (eV va : Nat → Int64) (dO : Nat → Int32) (dC : Nat → Int64) (tS tO : Nat → Int32) (tC : Nat → Int64) (yo : Nat → Int32) (yg : Nat → Int64) (le qN qK an on : Nat → Int32) : Prop :=
  tg_C bk lv ls li ll sz ∧ tg_D eT eV va ∧ tg_Pr ds dO dC tS tO tC yo yg le ∧ tg_Q k qN qK an on ∧ tg_F fk
def i_Rel (k : Nat) (u : SX) (v : SY) : Prop := ∃ (bk : Int32) (lv : Int32) (ds : Int32) (fk : Int32) (lo : Int32) (ex : Int32) (ht : Int32) (vt : Int32) (vv : Int64) (rc : Int32) (rr : Int64) (ls : Nat → Int32) (eT : Nat → Int32) (eV : Nat → Int64) (rN : Nat → Int32) (rC : Nat → Int32) (rR : Nat → Int64) (dO : Nat → Int32) (dC : Nat → Int64) (tS : Nat → Int32) (tO : Nat → Int32) (tC : Nat → Int64) (re : Nat → Int32) (qN : Nat → Int32) (qT : Nat → Int32) (qK : Nat → Int32) (qA : Nat → Int32) (an : Nat → Int32) (cR : Nat → Int64) (sk : Nat → Int64) (vh : Int32) (vw : Int64) (oc : Int64) (li : Nat → Int32) (ll : Nat → Int32) (sz : Nat → Int32) (va : Nat → Int64) (yo : Nat → Int32) (yg : Nat → Int64) (le : Nat → Int32) (pa : Nat → Int32) (st : Nat → Int64) (on : Nat → Int32) (wa : Nat → Int32), u = (bk, lv, ds, fk, lo, ex, ht, vt, vv, rc, rr, ls, eT, eV, rN, rC, rR, dO, dC, tS, tO, tC, re, qN, qT, qK, qA, an, cR, sk) ∧ v = (bk, fk, lo, ex, vh, vw, oc, li, ll, sz, eT, va, rN, rC, rR, yo, yg, le, pa, st, qN, qT, qK, qA, on, cR, wa) ∧ tg_R k bk lv fk ds ls li ll sz eT eV va dO dC tS tO tC yo yg le qN qK an on
section RL
variable {bk : Int32} {lv : Int32} {ds : Int32} {fk : Int32} {lo : Int32} {ex : Int32} {ht : Int32} {vt : Int32} {vv : Int64} {rc : Int32} {rr : Int64} {ls : Nat → Int32} {eT : Nat → Int32} {eV : Nat → Int64} {rN : Nat → Int32} {rC : Nat → Int32} {rR : Nat → Int64} {dO : Nat → Int32} {dC : Nat → Int64} {tS : Nat → Int32} {tO : Nat → Int32} {tC : Nat → Int64} {re : Nat → Int32} {qN : Nat → Int32} {qT : Nat → Int32} {qK : Nat → Int32} {qA : Nat → Int32} {an : Nat → Int32} {cR : Nat → Int64} {sk : Nat → Int64} {vh : Int32} {vw : Int64} {oc : Int64} {li : Nat → Int32} {ll : Nat → Int32} {sz : Nat → Int32} {va : Nat → Int64} {yo : Nat → Int32} {yg : Nat → Int64} {le : Nat → Int32} {pa : Nat → Int32} {st : Nat → Int64} {on : Nat → Int32} {wa : Nat → Int32}
theorem i_mk {k : Nat} (hC : tg_C bk lv ls li ll sz) (hD : tg_D eT eV va) (hP : tg_Pr ds dO dC tS tO tC yo yg le) (hQ : tg_Q k qN qK an on) (hF : tg_F fk) : i_Rel k (bk, lv, ds, fk, lo, ex, ht, vt, vv, rc, rr, ls, eT, eV, rN, rC, rR, dO, dC, tS, tO, tC, re, qN, qT, qK, qA, an, cR, sk) (bk, fk, lo, ex, vh, vw, oc, li, ll, sz, eT, va, rN, rC, rR, yo, yg, le, pa, st, qN, qT, qK, qA, on, cR, wa) :=
  ⟨bk, lv, ds, fk, lo, ex, ht, vt, vv, rc, rr, ls, eT, eV, rN, rC, rR, dO, dC, tS, tO, tC, re, qN, qT, qK, qA, an, cR, sk, vh, vw, oc, li, ll, sz, va, yo, yg, le, pa, st, on, wa, rfl, rfl, hC, hD, hP, hQ, hF⟩
theorem tg_Q_up {k d : Nat} (h : tg_Q k qN qK an on) : tg_Q (k + d) qN qK an on := by
  intro c hc
  obtain ⟨j, q, h1, h2⟩ := h c hc
  exact ⟨j, q, by omega, h2⟩
theorem i_up {k : Nat} {u : SX} {v : SY} (h : i_Rel k u v) : i_Rel (k + 5) u v := by
  obtain ⟨bk, lv, ds, fk, lo, ex, ht, vt, vv, rc, rr, ls, eT, eV, rN, rC, rR, dO, dC, tS, tO, tC, re, qN, qT, qK, qA, an, cR, sk, vh, vw, oc, li, ll, sz, va, yo, yg, le, pa, st, on, wa, rfl, rfl, hC, hD, hP, hQ, hF⟩ := h
  exact i_mk hC hD hP (tg_Q_up hQ) hF
theorem tg_big {x : Int32} {n : Nat} (h : nI n ≤ x) (hn : n < 2 ^ 31) : ¬ x < 0 ∧ ∀ k, k < n → ¬ x ≤ nI k ∧ nI k < x := by
  rw [Int32.le_iff_toInt_le, nI_toInt hn] at h
  refine ⟨?_, fun k hk => ?_⟩
  · rw [Int32.lt_iff_toInt_lt, show (0 : Int32).toInt = 0 from by decide]; omega
  · rw [Int32.le_iff_toInt_le, Int32.lt_iff_toInt_lt, nI_toInt (by omega)]; omega
theorem i_vc0 (k0 : Int32) : wpX_init (fun u => wpY_init (fun v => i_Rel 1 u v) k0) k0 := by
  have hC : ∀ b, b ≤ 2 → tg_C (nI b) 0 (fun _ => 0) (fun _ => 0) (fun _ => 0) (fun _ => 0) := fun b hb =>
    ⟨b, 0, fun _ => [], hb, by decide, rfl, rfl, fun m _ => by rw [Nat.zero_testBit]; rfl, fun p _ => ⟨⟨by simp, fun m hm => absurd hm (by simp)⟩, by simp⟩, fun p _ => rfl, fun p _ => ⟨rfl, fun j hj => absurd hj (by simp)⟩⟩
  have hD : tg_D (fun _ => 0) (fun _ => 0) (fun _ => 0) := fun k _ => Or.inl ⟨rfl, rfl⟩
  have hP : tg_Pr 0 (fun _ => 0) (fun _ => 0) (fun _ => 0) (fun _ => 0) (fun _ => 0) (fun _ => 0) (fun _ => 0) (fun _ => 0) :=
    ⟨⟨0, by decide, rfl, rfl, fun i hi => absurd hi (by omega)⟩, fun t _ => ⟨0, by decide, rfl, rfl, fun i hi => absurd hi (by omega), fun z => absurd rfl z⟩⟩
  have hQ : tg_Q 1 (fun _ => 0) (fun _ => 0) (fun _ => 0) (fun _ => 0) := fun c _ => ⟨0, 0, by decide, rfl, by decide, rfl, Or.inr ⟨rfl, Or.inl rfl⟩⟩
  have hF : tg_F 0 := ⟨0, by decide, rfl⟩
  by_cases h0 : 0 ≤ k0
  · by_cases h2 : k0 ≤ 2
    · obtain ⟨b, hb, rfl⟩ := nI_of2 (x := k0) (M := 2) (n := 2) (by decide) (Int32.not_lt.mpr h0) h2
      exact br_t h0 (br_t h2 (br_t h0 (br_t h2 (i_mk (hC b hb) hD hP hQ hF))))
    · exact br_t h0 (br_f h2 (br_t h0 (br_f h2 (i_mk (hC 2 (by decide)) hD hP hQ hF))))
  · exact br_f h0 (br_f h0 (i_mk (hC 0 (by decide)) hD hP hQ hF))
end RL
theorem i_vc_lost {k : Nat} {u : SX} {v : SY} (I : i_Rel k u v) (hk : k + 5 ≤ 2561) : wpX_lost (fun r => wpY_lost (fun r' => r' = r ∧ i_Rel (k + 5) u v) v) u := by
  have J := i_up I
  obtain ⟨bk, lv, ds, fk, lo, ex, ht, vt, vv, rc, rr, ls, eT, eV, rN, rC, rR, dO, dC, tS, tO, tC, re, qN, qT, qK, qA, an, cR, sk, vh, vw, oc, li, ll, sz, va, yo, yg, le, pa, st, on, wa, rfl, rfl, hC, hD, hP, hQ, hF⟩ := I
  exact ⟨rfl, J⟩
theorem i_vc_executed {k : Nat} {u : SX} {v : SY} (I : i_Rel k u v) (hk : k + 5 ≤ 2561) : wpX_executed (fun r => wpY_executed (fun r' => r' = r ∧ i_Rel (k + 5) u v) v) u := by
  have J := i_up I
  obtain ⟨bk, lv, ds, fk, lo, ex, ht, vt, vv, rc, rr, ls, eT, eV, rN, rC, rR, dO, dC, tS, tO, tC, re, qN, qT, qK, qA, an, cR, sk, vh, vw, oc, li, ll, sz, va, yo, yg, le, pa, st, on, wa, rfl, rfl, hC, hD, hP, hQ, hF⟩ := I
  exact ⟨rfl, J⟩
theorem i_vc_fault {k : Nat} {u : SX} {v : SY} (I : i_Rel k u v) (hk : k + 5 ≤ 2561) (v1 : Int32) : wpX_fault (fun r u' => wpY_fault (fun r' v' => r' = r ∧ i_Rel (k + 5) u' v') v v1) u v1 := by
  have J := i_up I
  obtain ⟨bk, lv, ds, fk, lo, ex, ht, vt, vv, rc, rr, ls, eT, eV, rN, rC, rR, dO, dC, tS, tO, tC, re, qN, qT, qK, qA, an, cR, sk, vh, vw, oc, li, ll, sz, va, yo, yg, le, pa, st, on, wa, rfl, rfl, hC, hD, hP, hQ, hF⟩ := I
  by_cases h0 : v1 < 0
  · exact br_t h0 (br_t h0 ⟨rfl, J⟩)
  · by_cases h4 : v1 ≤ 4
    · obtain ⟨f, hf, rfl⟩ := nI_of2 (x := v1) (M := 4) (n := 4) (by decide) h0 h4
      exact br_f h0 (br_t h4 (br_f h0 (br_t h4 ⟨rfl, i_mk hC hD hP (tg_Q_up hQ) ⟨f, hf, rfl⟩⟩)))
    · exact br_f h0 (br_f h4 (br_f h0 (br_f h4 ⟨rfl, J⟩)))
theorem i_vc_result {k : Nat} {u : SX} {v : SY} (I : i_Rel k u v) (hk : k + 5 ≤ 2561) (v1 : Int32) : wpX_result (fun r => wpY_result (fun r' => r' = r ∧ i_Rel (k + 5) u v) v v1) u v1 := by
  have J := i_up I
  obtain ⟨bk, lv, ds, fk, lo, ex, ht, vt, vv, rc, rr, ls, eT, eV, rN, rC, rR, dO, dC, tS, tO, tC, re, qN, qT, qK, qA, an, cR, sk, vh, vw, oc, li, ll, sz, va, yo, yg, le, pa, st, on, wa, rfl, rfl, hC, hD, hP, hQ, hF⟩ := I
  unfold wpX_result
  rcases pk_ix v1 (n := 3) (by decide) with h | h | ⟨j, hj, rfl⟩
  · exact tx_isC0 (Or.inl h) (br_t rfl (br_t h ⟨rfl, J⟩))
  · have B := tg_big h (by decide)
    exact tx_isC0 (Or.inr h) (br_t rfl (br_f B.1 (br_f (B.2 2 (by decide)).1 ⟨rfl, J⟩)))
  · have i3 : vp_in (nI j) 3 := vp_in_nI hj (by decide)
    exact tx_isC1 hj (br_f tg_d1 ⟨i3, br_f (nI_pos (by omega)) (br_t (nI_le (b := 2) (by omega) (by decide)) ⟨i3, rfl, J⟩)⟩)
theorem i_vc_owner {k : Nat} {u : SX} {v : SY} (I : i_Rel k u v) (hk : k + 5 ≤ 2561) (v1 : Int32) : wpX_owner (fun r => wpY_owner (fun r' => r' = r ∧ i_Rel (k + 5) u v) v v1) u v1 := by
  have J := i_up I
  obtain ⟨bk, lv, ds, fk, lo, ex, ht, vt, vv, rc, rr, ls, eT, eV, rN, rC, rR, dO, dC, tS, tO, tC, re, qN, qT, qK, qA, an, cR, sk, vh, vw, oc, li, ll, sz, va, yo, yg, le, pa, st, on, wa, rfl, rfl, hC, hD, hP, hQ, hF⟩ := I
  unfold wpX_owner
  obtain ⟨b, L, g, hb, hL, rfl, rfl, hli, hg, hx, hy⟩ := hC
  rcases pk_ix v1 (n := 6) (by decide) with h | h | ⟨j, hj, rfl⟩
  · exact tx_isP0 (Or.inl h) (br_t rfl (br_t h ⟨rfl, J⟩))
  · have B := tg_big h (by decide)
    exact tx_isP0 (Or.inr h) (br_t rfl (br_f B.1 (br_t (B.2 5 (by decide)).2 ⟨rfl, J⟩)))
  · have i6 : vp_in (nI j) 6 := vp_in_nI hj (by decide)
    have cl : (nI j).toNatClampNeg = j := nI_clamp (by omega)
    have G := (hg j hj).1
    have gl := G.1
    refine tx_isP1 hj (br_f tg_d1 ⟨i6, ?_⟩)
    rw [cl, hx j hj]
    have y1 : ¬ nI j < 0 := nI_pos (by omega)
    have y2 : ¬ (5 : Int32) < nI j := nI_nlt (b := j) (a := 5) (by omega) (by decide)
    by_cases c : g j = []
    · refine tx_mem0 (j := 0) G.1 G.lt (by decide) (by rw [c]; simp) (br_f y1 (br_f y2 ⟨i6, br_t ?_ ⟨rfl, J⟩⟩))
      rw [cl, (hy j hj).1, c]; rfl
    · have l0 := tg_len0 c
      refine tx_mem1 (j := 0) G.1 G.lt l0 (br_f y1 (br_f y2 ⟨i6, br_f ?_ ⟨tg_vi (tg_5p j) (by omega) (by decide), ?_, J⟩⟩))
      · rw [cl, (hy j hj).1]; exact nI_ne0 l0 (by omega)
      · rw [tg_5p, nI_clamp (by omega)]; exact (hy j hj).2 0 l0
section RQ
variable {bk : Int32} {lv : Int32} {ds : Int32} {fk : Int32} {lo : Int32} {ex : Int32} {ht : Int32} {vt : Int32} {vv : Int64} {rc : Int32} {rr : Int64} {ls : Nat → Int32} {eT : Nat → Int32} {eV : Nat → Int64} {rN : Nat → Int32} {rC : Nat → Int32} {rR : Nat → Int64} {dO : Nat → Int32} {dC : Nat → Int64} {tS : Nat → Int32} {tO : Nat → Int32} {tC : Nat → Int64} {re : Nat → Int32} {qN : Nat → Int32} {qT : Nat → Int32} {qK : Nat → Int32} {qA : Nat → Int32} {an : Nat → Int32} {cR : Nat → Int64} {sk : Nat → Int64} {vh : Int32} {vw : Int64} {oc : Int64} {li : Nat → Int32} {ll : Nat → Int32} {sz : Nat → Int32} {va : Nat → Int64} {yo : Nat → Int32} {yg : Nat → Int64} {le : Nat → Int32} {pa : Nat → Int32} {st : Nat → Int64} {on : Nat → Int32} {wa : Nat → Int32}
theorem ty_co_l {post : Int32 → Prop} {g : List Nat} {p : Nat} (hp : p < 6) (hl : g.length ≤ 3) (hs : sz p = nI g.length) (hll : ∀ j, j < g.length → ll (5 * p + j) = nI (g.getD j 0)) (h : post (tg_st g 3)) : ∀ d j n, j + d = g.length → d < n → wY_copies_14 post (nI p) bk fk lo ex vh vw oc li ll sz eT va rN rC rR yo yg le pa st qN qT qK qA on cR wa n (tg_st g j) (nI j) := by
  have cl : (nI p).toNatClampNeg = p := nI_clamp (by omega)
  intro d
  induction d with
  | zero =>
    intro j n hj hn
    obtain ⟨n, rfl⟩ : ∃ k, n = k + 1 := ⟨n - 1, by omega⟩
    obtain rfl : j = g.length := by omega
    have e := tg_st_big (Nat.le_refl g.length) (3 - g.length)
    rw [show g.length + (3 - g.length) = 3 from by omega] at e
    refine ⟨vp_in_nI hp (by decide), br_t ?_ (by rw [← e]; exact h)⟩
    rw [cl, hs]; exact nI_le (Nat.le_refl _) (by omega)
  | succ d ih =>
    intro j n hj hn
    obtain ⟨n, rfl⟩ : ∃ k, n = k + 1 := ⟨n - 1, by omega⟩
    have I := ih (j + 1) n (by omega) (by omega)
    rw [tg_st_y (by omega)] at I
    refine ⟨vp_in_nI hp (by decide), br_f ?_ ⟨tg_vi (tg_5i p j) (by omega) (by decide), nm_r ?_ (nm_r (nI_1 _) I)⟩⟩
    · rw [cl, hs]; exact nI_ge (by omega) (by omega)
    · rw [tg_5i, nI_clamp (by omega), hll j (by omega)]
theorem ty_co {post : Int32 → Prop} {g : List Nat} {p : Nat} (hp : p < 6) (hl : g.length ≤ 3) (hs : sz p = nI g.length) (hll : ∀ j, j < g.length → ll (5 * p + j) = nI (g.getD j 0)) (h : post (tg_st g 3)) : wpY_copies post (bk, fk, lo, ex, vh, vw, oc, li, ll, sz, eT, va, rN, rC, rR, yo, yg, le, pa, st, qN, qT, qK, qA, on, cR, wa) (nI p) :=
  br_f (nI_pos (by omega)) (br_f (nI_ge (b := 6) (by omega) (by decide)) ⟨g.length + 1, ty_co_l hp hl hs hll h g.length 0 _ (by omega) (by omega)⟩)
theorem tg_01 (x : Int32) : x &&& 1 = 0 ∨ x &&& 1 = 1 := by
  obtain ⟨j, hj, e⟩ := pk_andE x (m := 1) 1 (by decide)
  rw [e]
  have : j = 0 ∨ j = 1 := by omega
  rcases this with rfl | rfl
  · exact Or.inl rfl
  · exact Or.inr rfl
theorem tg_hold (hC : tg_C bk lv ls li ll sz) (hD : tg_D eT eV va) (v1 v2 : Int32) : ∃ r : Int32, (r = 0 ∨ (r = 1 ∧ ∃ q, q < 18 ∧ v2 = nI q ∧ eT q = 1)) ∧
    (∀ post : Int32 → Prop, post r → wpX_holdsEntry post (bk, lv, ds, fk, lo, ex, ht, vt, vv, rc, rr, ls, eT, eV, rN, rC, rR, dO, dC, tS, tO, tC, re, qN, qT, qK, qA, an, cR, sk) v1 v2) ∧ (∀ post : Int32 → Prop, post r → wpY_present post (bk, fk, lo, ex, vh, vw, oc, li, ll, sz, eT, va, rN, rC, rR, yo, yg, le, pa, st, qN, qT, qK, qA, on, cR, wa) v1 v2) := by
  obtain ⟨b, L, g, hb, hL, rfl, rfl, hli, hg, hx, hy⟩ := hC
  rcases pk_ix v2 (n := 18) (by decide) with h | h | ⟨q, hq, rfl⟩
  · refine ⟨0, Or.inl rfl, fun post hp => ?_, fun post hp => br_t h hp⟩
    unfold wpX_holdsEntry
    rcases pk_ix v1 (n := 5) (by decide) with h1 | h1 | ⟨m, hm, rfl⟩
    · exact tx_isM0 (Or.inl h1) (br_t rfl hp)
    · exact tx_isM0 (Or.inr h1) (br_t rfl hp)
    · exact tx_isM1 hm (br_f tg_d1 (tx_isK0 (Or.inl h) (br_t rfl hp)))
  · refine ⟨0, Or.inl rfl, fun post hp => ?_, fun post hp => br_f (tg_big h (by decide)).1 (br_t h hp)⟩
    unfold wpX_holdsEntry
    rcases pk_ix v1 (n := 5) (by decide) with h1 | h1 | ⟨m, hm, rfl⟩
    · exact tx_isM0 (Or.inl h1) (br_t rfl hp)
    · exact tx_isM0 (Or.inr h1) (br_t rfl hp)
    · exact tx_isM1 hm (br_f tg_d1 (tx_isK0 (Or.inr h) (br_t rfl hp)))
  · have i18 : vp_in (nI q) 18 := vp_in_nI hq (by decide)
    have y1 : ¬ nI q < 0 := nI_pos (by omega)
    have y2 : ¬ (18 : Int32) ≤ nI q := nI_ge (b := 18) hq (by decide)
    have cl : (nI q).toNatClampNeg = q := nI_clamp (by omega)
    have e6 : nI q - nI q / 6 * 6 = nI (q % 6) := pk_rem (d := 6) (by omega) (by decide) (by decide)
    have q6 : q % 6 < 6 := Nat.mod_lt _ (by decide)
    have G := (hg _ q6).1
    have LYq := hy _ q6
    by_cases hz : eT q = 0
    · refine ⟨0, Or.inl rfl, fun post hp => ?_, fun post hp => br_f y1 (br_f y2 ⟨i18, br_t (by rw [cl]; exact hz) hp⟩)⟩
      unfold wpX_holdsEntry
      rcases pk_ix v1 (n := 5) (by decide) with h1 | h1 | ⟨m, hm, rfl⟩
      · exact tx_isM0 (Or.inl h1) (br_t rfl hp)
      · exact tx_isM0 (Or.inr h1) (br_t rfl hp)
      · refine tx_isM1 hm (br_f tg_d1 (tx_isK1 hq (br_f tg_d1 ⟨tg_d6, tg_vi e6 q6 (by decide), ?_⟩)))
        rw [e6, nI_clamp (n := q % 6) (by omega), hx _ q6]
        refine tx_so G.1 G.lt ?_
        by_cases y : ((tg_st (g (q % 6)) 3 >>> (nI m &&& 31)) &&& 1) = 1
        · exact br_t y (br_f tg_d1 ⟨i18, br_t (by rw [cl]; exact hz) hp⟩)
        · exact br_f y (br_t rfl hp)
    · have h1q : eT q = 1 := by
        rcases hD q hq with z | z
        · exact absurd z.1 hz
        · exact z.1
      rcases pk_ix v1 (n := 5) (by decide) with h1 | h1 | ⟨m, hm, rfl⟩
      · exact ⟨0, Or.inl rfl, fun post hp => by unfold wpX_holdsEntry; exact tx_isM0 (Or.inl h1) (br_t rfl hp), fun post hp => br_f y1 (br_f y2 ⟨i18, br_f (by rw [cl]; exact hz) (br_t h1 hp)⟩)⟩
      · exact ⟨0, Or.inl rfl, fun post hp => by unfold wpX_holdsEntry; exact tx_isM0 (Or.inr h1) (br_t rfl hp), fun post hp => br_f y1 (br_f y2 ⟨i18, br_f (by rw [cl]; exact hz) (br_f (tg_big h1 (by decide)).1 (br_t h1 hp))⟩)⟩
      · have z1 : ¬ nI m < 0 := nI_pos (by omega)
        have z2 : ¬ (5 : Int32) ≤ nI m := nI_ge (b := 5) hm (by decide)
        by_cases y : ((tg_st (g (q % 6)) 3 >>> (nI m &&& 31)) &&& 1) = 1
        · refine ⟨1, Or.inr ⟨rfl, q, hq, rfl, h1q⟩, fun post hp => ?_, fun post hp => ?_⟩
          · unfold wpX_holdsEntry
            refine tx_isM1 hm (br_f tg_d1 (tx_isK1 hq (br_f tg_d1 ⟨tg_d6, tg_vi e6 q6 (by decide), ?_⟩)))
            rw [e6, nI_clamp (n := q % 6) (by omega), hx _ q6]
            exact tx_so G.1 G.lt (br_t y (br_f tg_d1 ⟨i18, br_f (by rw [cl]; exact hz) hp⟩))
          · refine br_f y1 (br_f y2 ⟨i18, br_f (by rw [cl]; exact hz) (br_f z1 (br_f z2 ⟨tg_d6, ?_⟩))⟩)
            rw [e6]
            exact ty_co q6 G.1 LYq.1 LYq.2 (br_f (by rw [y]; exact tg_d1) hp)
        · have y0 := (tg_01 (tg_st (g (q % 6)) 3 >>> (nI m &&& 31))).resolve_right y
          refine ⟨0, Or.inl rfl, fun post hp => ?_, fun post hp => ?_⟩
          · unfold wpX_holdsEntry
            refine tx_isM1 hm (br_f tg_d1 (tx_isK1 hq (br_f tg_d1 ⟨tg_d6, tg_vi e6 q6 (by decide), ?_⟩)))
            rw [e6, nI_clamp (n := q % 6) (by omega), hx _ q6]
            exact tx_so G.1 G.lt (br_f y (br_t rfl hp))
          · refine br_f y1 (br_f y2 ⟨i18, br_f (by rw [cl]; exact hz) (br_f z1 (br_f z2 ⟨tg_d6, ?_⟩))⟩)
            rw [e6]
            exact ty_co q6 G.1 LYq.1 LYq.2 (br_t y0 hp)
end RQ
theorem i_vc_copies {k : Nat} {u : SX} {v : SY} (I : i_Rel k u v) (hk : k + 5 ≤ 2561) (v1 : Int32) : wpX_copies (fun r => wpY_copies (fun r' => r' = r ∧ i_Rel (k + 5) u v) v v1) u v1 := by
  have J := i_up I
  obtain ⟨bk, lv, ds, fk, lo, ex, ht, vt, vv, rc, rr, ls, eT, eV, rN, rC, rR, dO, dC, tS, tO, tC, re, qN, qT, qK, qA, an, cR, sk, vh, vw, oc, li, ll, sz, va, yo, yg, le, pa, st, on, wa, rfl, rfl, hC, hD, hP, hQ, hF⟩ := I
  unfold wpX_copies
  obtain ⟨b, L, g, hb, hL, rfl, rfl, hli, hg, hx, hy⟩ := hC
  rcases pk_ix v1 (n := 6) (by decide) with h | h | ⟨j, hj, rfl⟩
  · exact tx_isP0 (Or.inl h) (br_t rfl (br_t h ⟨rfl, J⟩))
  · exact tx_isP0 (Or.inr h) (br_t rfl (br_f (tg_big h (by decide)).1 (br_t h ⟨rfl, J⟩)))
  · have i6 : vp_in (nI j) 6 := vp_in_nI hj (by decide)
    have cl : (nI j).toNatClampNeg = j := nI_clamp (by omega)
    have G := (hg j hj).1
    refine tx_isP1 hj (br_f tg_d1 ⟨i6, ?_⟩)
    rw [cl, hx j hj]
    exact tx_so G.1 G.lt (ty_co hj G.1 (hy j hj).1 (hy j hj).2 ⟨rfl, J⟩)
theorem i_vc_present {k : Nat} {u : SX} {v : SY} (I : i_Rel k u v) (hk : k + 5 ≤ 2561) (v1 : Int32) (v2 : Int32) : wpX_present (fun r => wpY_present (fun r' => r' = r ∧ i_Rel (k + 5) u v) v v1 v2) u v1 v2 := by
  have J := i_up I
  obtain ⟨bk, lv, ds, fk, lo, ex, ht, vt, vv, rc, rr, ls, eT, eV, rN, rC, rR, dO, dC, tS, tO, tC, re, qN, qT, qK, qA, an, cR, sk, vh, vw, oc, li, ll, sz, va, yo, yg, le, pa, st, on, wa, rfl, rfl, hC, hD, hP, hQ, hF⟩ := I
  obtain ⟨r, hr, hX, hY⟩ := tg_hold hC hD v1 v2
  unfold wpX_present
  refine hX _ ⟨?_, hY _ ⟨rfl, J⟩⟩
  rcases hr with rfl | ⟨rfl, -⟩
  · rfl
  · rfl
theorem i_vc_value {k : Nat} {u : SX} {v : SY} (I : i_Rel k u v) (hk : k + 5 ≤ 2561) (v1 : Int32) (v2 : Int32) : wpX_value (fun r => wpY_value (fun r' => r' = r ∧ i_Rel (k + 5) u v) v v1 v2) u v1 v2 := by
  have J := i_up I
  obtain ⟨bk, lv, ds, fk, lo, ex, ht, vt, vv, rc, rr, ls, eT, eV, rN, rC, rR, dO, dC, tS, tO, tC, re, qN, qT, qK, qA, an, cR, sk, vh, vw, oc, li, ll, sz, va, yo, yg, le, pa, st, on, wa, rfl, rfl, hC, hD, hP, hQ, hF⟩ := I
  obtain ⟨r, hr, hX, hY⟩ := tg_hold hC hD v1 v2
  unfold wpX_value
  refine hX _ ?_
  rcases hr with rfl | ⟨rfl, q, hq, rfl, he⟩
  · refine br_t rfl ?_
    unfold wpY_value
    exact hY _ (br_t rfl ⟨rfl, J⟩)
  · have i18 : vp_in (nI q) 18 := vp_in_nI hq (by decide)
    have cl : (nI q).toNatClampNeg = q := nI_clamp (by omega)
    refine br_f tg_d1 ⟨i18, ?_⟩
    unfold wpY_value
    refine hY _ (br_f tg_d1 ⟨i18, ?_, J⟩)
    rw [cl]
    rcases hD q hq with z | z
    · rw [z.1] at he; exact absurd he (by decide)
    · exact z.2.symm
