/-! 09: code, join, crash, leave, migrate -/
theorem tg_e3_D {eT : Nat → Int32} {eV va : Nat → Int64} {p : Nat} (h : tg_D eT eV va) : tg_D (tg_e3 eT p) (tg_v3 eV p) va := by
  intro k hk
  unfold tg_e3 tg_v3
  by_cases e1 : k = p + 12
  · subst e1; rw [pk_us, pk_uLs]; exact Or.inl ⟨rfl, rfl⟩
  · rw [pk_un e1, pk_uLn e1]
    by_cases e2 : k = p + 6
    · subst e2; rw [pk_us, pk_uLs]; exact Or.inl ⟨rfl, rfl⟩
    · rw [pk_un e2, pk_uLn e2]
      by_cases e3 : k = p
      · subst e3; rw [pk_us, pk_uLs]; exact Or.inl ⟨rfl, rfl⟩
      · rw [pk_un e3, pk_uLn e3]; exact h k hk
theorem tg_dE_D {z : Nat → Bool} {eT : Nat → Int32} {eV va : Nat → Int64} (h : tg_D eT eV va) (p : Nat) : tg_D (tg_dE z eT p) (tg_dV z eV p) va := by
  induction p with
  | zero => exact h
  | succ p ih =>
    unfold tg_dE tg_dV
    by_cases c : z p = true
    · rw [if_pos c, if_pos c]; exact tg_e3_D ih
    · rw [if_neg c, if_neg c]; exact ih
theorem tg_take_mem {w : List Nat} {x : Nat} (h : x ∈ w.take 1) : x ∈ w := List.mem_of_mem_take h
theorem tg_C_dr {b L m : Nat} {g : Nat → List Nat} (hb : b ≤ 2) (hL : L < 32) (hm : m < 5) (hg : ∀ p, p < 6 → tg_G L (g p)) :
    ∀ p, p < 6 → tg_G (tg_del L m) (tg_g' g m (tg_del L m) b p) ∧ (tg_g' g m (tg_del L m) b p = [] ↔ tg_del L m = 0) := by
  intro p hp
  have A := tg_anb L hL m hm
  by_cases c : tg_fl (g p) m 3 = []
  · have z := tg_lz_t (g := g) c
    have gp : tg_g' g m (tg_del L m) b p = (tg_w p (tg_del L m) b 5).take 1 := if_pos z
    have W := tg_w_0 p hp _ A.1 b (by omega)
    rw [gp]
    refine ⟨⟨by rw [List.length_take]; omega, fun x hx => tg_w_mem _ _ _ _ x (tg_take_mem hx)⟩, ?_⟩
    rw [← W]
    constructor
    · intro e
      by_cases y : tg_w p (tg_del L m) b 5 = []
      · exact y
      · have := (tg_take1 y).1
        rw [e] at this
        exact absurd this (by simp)
    · intro e; rw [e]; rfl
  · have z := tg_lz_f (g := g) c
    have gp : tg_g' g m (tg_del L m) b p = tg_fl (g p) m 3 := if_neg z
    rw [gp]
    have mm : ∀ x, x ∈ tg_fl (g p) m 3 → x < 5 ∧ (tg_del L m).testBit x = true := by
      intro x hx
      obtain ⟨h1, h2⟩ := tg_fl_mem _ _ _ x hx
      have h3 := (hg p hp).2 x h1
      refine ⟨h3.1, ?_⟩
      rw [A.2 x h3.1, h3.2]
      simp [h2]
    refine ⟨⟨tg_fl_len _ _ _, mm⟩, fun e => absurd e c, fun e => ?_⟩
    have := (mm _ (tg_getD (tg_len0 c))).2
    rw [e, Nat.zero_testBit] at this
    exact absurd this (by decide)
theorem tg_hg {L : Nat} {g : Nat → List Nat} (hg : ∀ p, p < 6 → tg_G L (g p)) : ∀ p, p < 6 → (g p).length ≤ 3 ∧ ∀ x, x ∈ g p → x < 5 := fun p hp => ⟨(hg p hp).1, (hg p hp).lt⟩
theorem tg_LI_t {L m : Nat} {li : Nat → Int32} (h : tg_LI L li) (hm : m < 5) (c : L.testBit m = true) : ¬ li (nI m).toNatClampNeg = 0 := by
  rw [nI_clamp (by omega), h m hm, if_pos c]; exact tg_d1
theorem tg_LI_f {L m : Nat} {li : Nat → Int32} (h : tg_LI L li) (hm : m < 5) (c : L.testBit m = false) : li (nI m).toNatClampNeg = 0 := by
  rw [nI_clamp (by omega), h m hm, c]; rfl
theorem tg_n4 {m : Nat} (h : m < 5) : ¬ (4 : Int32) < nI m := nI_nlt (a := 4) (b := m) (by omega) (by decide)
theorem i_vc_crash {k : Nat} {u : SX} {v : SY} (I : i_Rel k u v) (hk : k + 5 ≤ 2561) (v1 : Int32) : wpX_crash (fun r u' => wpY_crash (fun r' v' => r' = r ∧ i_Rel (k + 5) u' v') v v1) u v1 := by
  have J := i_up I
  obtain ⟨bk, lv, ds, fk, lo, ex, ht, vt, vv, rc, rr, ls, eT, eV, rN, rC, rR, dO, dC, tS, tO, tC, re, qN, qT, qK, qA, an, cR, sk, vh, vw, oc, li, ll, sz, va, yo, yg, le, pa, st, on, wa, rfl, rfl, hC, hD, hP, hQ, hF⟩ := I
  obtain ⟨b, L, g, hb, hL, rfl, rfl, hli, hg, hx, hy⟩ := hC
  have hg1 : ∀ p, p < 6 → tg_G L (g p) := fun p hp => (hg p hp).1
  unfold wpX_crash
  rcases pk_ix v1 (n := 5) (by decide) with h | h | ⟨m, hm, rfl⟩
  · exact tx_isM0 (Or.inl h) (br_t rfl (br_t h ⟨rfl, J⟩))
  · have B := tg_big h (by decide)
    exact tx_isM0 (Or.inr h) (br_t rfl (br_f B.1 (br_t (B.2 4 (by decide)).2 ⟨rfl, J⟩)))
  · have y1 : ¬ nI m < 0 := nI_pos (by omega)
    have i5 : vp_in (nI m) 5 := vp_in_nI hm (by decide)
    refine tx_isM1 hm (br_f tg_d1 ?_)
    by_cases c : L.testBit m = true
    · refine tx_in1 hL hm c (br_f tg_d1 (tx_dr hm hL hb (tg_hg hg1) hx (fun ls2 hx2 => br_f y1 (br_f (tg_n4 hm) ⟨i5, br_f (tg_LI_t hli hm c) (ty_dr hm hL hb hli (tg_hg hg1) hy (fun li2 ll2 sz2 wa2 hli2 hy2 => ?_))⟩))))
      exact ⟨rfl, i_mk ⟨b, tg_del L m, tg_g' g m (tg_del L m) b, hb, (tg_anb L hL m hm).1, rfl, rfl, hli2, tg_C_dr hb hL hm hg1, hx2, hy2⟩ (tg_dE_D hD 6) hP (tg_Q_up hQ) hF⟩
    · exact tx_in0 hL hm (tg_nf c) (br_t rfl (br_f y1 (br_f (tg_n4 hm) ⟨i5, br_t (tg_LI_f hli hm (tg_nf c)) ⟨rfl, J⟩⟩)))
/-! join -/
def tg_jg (g : Nat → List Nat) (m p : Nat) : List Nat := if g p = [] then [m] else g p
section JN
variable {bk : Int32} {lv : Int32} {ds : Int32} {fk : Int32} {lo : Int32} {ex : Int32} {ht : Int32} {vt : Int32} {vv : Int64} {rc : Int32} {rr : Int64} {ls : Nat → Int32} {eT : Nat → Int32} {eV : Nat → Int64} {rN : Nat → Int32} {rC : Nat → Int32} {rR : Nat → Int64} {dO : Nat → Int32} {dC : Nat → Int64} {tS : Nat → Int32} {tO : Nat → Int32} {tC : Nat → Int64} {re : Nat → Int32} {qN : Nat → Int32} {qT : Nat → Int32} {qK : Nat → Int32} {qA : Nat → Int32} {an : Nat → Int32} {cR : Nat → Int64} {sk : Nat → Int64} {vh : Int32} {vw : Int64} {oc : Int64} {li : Nat → Int32} {ll : Nat → Int32} {sz : Nat → Int32} {va : Nat → Int64} {yo : Nat → Int32} {yg : Nat → Int64} {le : Nat → Int32} {pa : Nat → Int32} {st : Nat → Int64} {on : Nat → Int32} {wa : Nat → Int32}
theorem tg_pk1 (m : Nat) : nI m + 1 = nI (tg_pk [m]) := by rw [nI_1]; rfl
theorem tx_jn_l {post : Int32 → SX → Prop} {m : Nat} {g : Nat → List Nat} (hm : m < 5)
    (hg : ∀ p, p < 6 → (g p).length ≤ 3 ∧ ∀ x, x ∈ g p → x < 5)
    (h : ∀ ls, tg_LX (tg_jg g m) ls → post 1 (bk, lv, ds, fk, lo, ex, ht, vt, vv, rc, rr, ls, eT, eV, rN, rC, rR, dO, dC, tS, tO, tC, re, qN, qT, qK, qA, an, cR, sk)) :
    ∀ d p n ls, p + d = 6 → d < n → tg_LX (tg_mix p (tg_jg g m) g) ls → wX_join_34 post (nI m) bk lv ds fk lo ex ht vt vv rc rr n (nI p) ls eT eV rN rC rR dO dC tS tO tC re qN qT qK qA an cR sk := by
  intro d
  induction d with
  | zero =>
    intro p n ls hp hn hls
    obtain ⟨n, rfl⟩ : ∃ k, n = k + 1 := ⟨n - 1, by omega⟩
    obtain rfl : p = 6 := by omega
    refine br_t (nI_le (a := 6) (b := 6) (by omega) (by decide)) (h ls ?_)
    intro q hq
    rw [hls q hq, tg_mix_lt hq]
  | succ d ih =>
    intro p n ls hp hn hls
    obtain ⟨n, rfl⟩ : ∃ k, n = k + 1 := ⟨n - 1, by omega⟩
    have p6 : p < 6 := by omega
    have cl : (nI p).toNatClampNeg = p := nI_clamp (by omega)
    have hp0 := hls p p6
    rw [tg_mix_ge (by omega)] at hp0
    have pl := tg_pk_lt (hg p p6).1 (hg p p6).2
    refine br_f (nI_ge (b := 6) (by omega) (by decide)) ⟨vp_in_nI p6 (by decide), ?_⟩
    by_cases c : g p = []
    · have I := ih (p + 1) n (upd ls p (nI m + 1)) (by omega) (by omega) (tg_lx_s hls (by unfold tg_jg; rw [if_pos c]; exact tg_pk1 m))
      refine br_t (by rw [cl, hp0, c]; rfl) ?_
      unfold wpX_aloneList
      exact ⟨vp_in_nI p6 (by decide), nm_r (tg_u rfl (by omega) rfl) (nm_r (nI_1 p) I)⟩
    · have I := ih (p + 1) n ls (by omega) (by omega) (by
        have z := tg_lx_s (v := ls p) hls (by unfold tg_jg; rw [if_neg c]; exact hp0)
        have e : upd ls p (ls p) = ls := by
          funext q
          unfold upd
          split
          · rename_i e; rw [e]
          · rfl
        rw [e] at z
        exact z)
      exact br_f (by rw [cl, hp0]; exact fun e => c (tg_pk_0.mp ((nI_eq (b := 0) (by omega) (by decide)).mp e))) (nm_r (nI_1 p) I)
theorem ty_jn_l {post : Int32 → SY → Prop} {m : Nat} {g : Nat → List Nat} (hm : m < 5)
    (hg : ∀ p, p < 6 → (g p).length ≤ 3 ∧ ∀ x, x ∈ g p → x < 5)
    (h : ∀ ll sz, tg_LY (tg_jg g m) ll sz → post 1 (bk, fk, lo, ex, vh, vw, oc, li, ll, sz, eT, va, rN, rC, rR, yo, yg, le, pa, st, qN, qT, qK, qA, on, cR, wa)) :
    ∀ d p n ll sz, p + d = 6 → d < n → tg_LY (tg_mix p (tg_jg g m) g) ll sz → wY_join_29 post (nI m) bk fk lo ex vh vw oc n (nI p) li ll sz eT va rN rC rR yo yg le pa st qN qT qK qA on cR wa := by
  have h3 : ∀ q, q < 6 → (tg_jg g m q).length ≤ 3 ∧ (g q).length ≤ 3 := by
    intro q hq
    refine ⟨?_, (hg q hq).1⟩
    unfold tg_jg
    split
    · simp
    · exact (hg q hq).1
  intro d
  induction d with
  | zero =>
    intro p n ll sz hp hn hls
    obtain ⟨n, rfl⟩ : ∃ k, n = k + 1 := ⟨n - 1, by omega⟩
    obtain rfl : p = 6 := by omega
    refine br_t (nI_le (a := 6) (b := 6) (by omega) (by decide)) (h ll sz ?_)
    intro q hq
    have z := hls q hq
    rw [tg_mix_lt hq] at z
    exact z
  | succ d ih =>
    intro p n ll sz hp hn hls
    obtain ⟨n, rfl⟩ : ∃ k, n = k + 1 := ⟨n - 1, by omega⟩
    have p6 : p < 6 := by omega
    have cl : (nI p).toNatClampNeg = p := nI_clamp (by omega)
    have hp0 := hls p p6
    rw [tg_mix_ge (by omega)] at hp0
    have gl := (hg p p6).1
    refine br_f (nI_ge (b := 6) (by omega) (by decide)) ⟨vp_in_nI p6 (by decide), ?_⟩
    by_cases c : g p = []
    · have I := ih (p + 1) n (upd ll (5 * p) (nI m)) (upd sz p 1) (by omega) (by omega) (tg_ly_s hls (fun q hq => pk_un hq) (fun q hq => pk_un (by omega)) h3 (by
        unfold tg_jg
        rw [if_pos c, pk_us]
        refine ⟨rfl, fun j hj => ?_⟩
        simp at hj
        subst hj
        exact pk_us))
      exact br_t (by rw [cl, hp0.1, c]; decide) ⟨tg_vi (tg_5p p) (by omega) (by decide), nm_r (tg_u (tg_5p p) (by omega) (tg_vB2 (by omega))) ⟨vp_in_nI p6 (by decide), nm_r (tg_u rfl (by omega) (tg_vB (n := 1) (by decide))) (nm_r (nI_1 p) I)⟩⟩
    · have l0 := tg_len0 c
      have I := ih (p + 1) n ll sz (by omega) (by omega) (tg_ly_s hls (fun q hq => rfl) (fun q hq => rfl) h3 (by
        unfold tg_jg
        rw [if_neg c]
        exact hp0))
      exact br_f (by rw [cl, hp0.1]; exact nI_nle l0 (by omega)) (nm_r (nI_1 p) I)
end JN
theorem i_vc_join {k : Nat} {u : SX} {v : SY} (I : i_Rel k u v) (hk : k + 5 ≤ 2561) (v1 : Int32) : wpX_join (fun r u' => wpY_join (fun r' v' => r' = r ∧ i_Rel (k + 5) u' v') v v1) u v1 := by
  have J := i_up I
  obtain ⟨bk, lv, ds, fk, lo, ex, ht, vt, vv, rc, rr, ls, eT, eV, rN, rC, rR, dO, dC, tS, tO, tC, re, qN, qT, qK, qA, an, cR, sk, vh, vw, oc, li, ll, sz, va, yo, yg, le, pa, st, on, wa, rfl, rfl, hC, hD, hP, hQ, hF⟩ := I
  obtain ⟨b, L, g, hb, hL, rfl, rfl, hli, hg, hx, hy⟩ := hC
  have hg1 : ∀ p, p < 6 → tg_G L (g p) := fun p hp => (hg p hp).1
  unfold wpX_join
  rcases pk_ix v1 (n := 5) (by decide) with h | h | ⟨m, hm, rfl⟩
  · exact tx_isM0 (Or.inl h) (br_t rfl (br_t h ⟨rfl, J⟩))
  · have B := tg_big h (by decide)
    exact tx_isM0 (Or.inr h) (br_t rfl (br_f B.1 (br_t (B.2 4 (by decide)).2 ⟨rfl, J⟩)))
  · have y1 : ¬ nI m < 0 := nI_pos (by omega)
    have i5 : vp_in (nI m) 5 := vp_in_nI hm (by decide)
    refine tx_isM1 hm (br_f tg_d1 ?_)
    by_cases c : L.testBit m = true
    · exact tx_in1 hL hm c (br_f tg_d1 (br_f y1 (br_f (tg_n4 hm) ⟨i5, br_f (tg_LI_t hli hm c) ⟨rfl, J⟩⟩)))
    · have O := tg_orb L hL m hm
      refine tx_in0 hL hm (tg_nf c) (br_t rfl (nm_r (tg_or L hL m hm) ⟨7, tx_jn_l hm (tg_hg hg1) (fun ls2 hx2 => ?_) 6 0 7 ls (by omega) (by omega) (fun q hq => by rw [tg_mix_ge (by omega)]; exact hx q hq)⟩))
      refine br_f y1 (br_f (tg_n4 hm) ⟨i5, br_t (tg_LI_f hli hm (tg_nf c)) ⟨i5, nm_r (tg_u rfl (by omega) tg_vb1) ⟨7, ty_jn_l hm (tg_hg hg1) (fun ll2 sz2 hy2 => ?_) 6 0 7 ll sz (by omega) (by omega) (fun q hq => by rw [tg_mix_ge (by omega)]; exact hy q hq)⟩⟩⟩)
      refine ⟨rfl, i_mk ⟨b, L ||| 2 ^ m, tg_jg g m, hb, O.1, rfl, rfl, tg_LI_o hL hm hli, fun p hp => ?_, hx2, hy2⟩ hD hP (tg_Q_up hQ) hF⟩
      unfold tg_jg
      by_cases e : g p = []
      · rw [if_pos e]
        refine ⟨⟨by simp, fun x hx => ?_⟩, by simp [O.2.1]⟩
        rw [List.mem_singleton] at hx
        subst hx
        exact ⟨hm, by rw [O.2.2 x hm]; simp⟩
      · rw [if_neg e]
        refine ⟨⟨(hg1 p hp).1, fun x hx => ?_⟩, fun z => absurd z e, fun z => absurd z O.2.1⟩
        have := (hg1 p hp).2 x hx
        exact ⟨this.1, by rw [O.2.2 x this.1, this.2]; simp⟩
theorem i_vc_code {k : Nat} {u : SX} {v : SY} (I : i_Rel k u v) (hk : k + 5 ≤ 2561) (v1 : Int32) (a1 : Int64) : wpX_code (fun r u' => wpY_code (fun r' v' => r' = r ∧ i_Rel (k + 5) u' v') v v1 a1) u v1 a1 := by
  have J := i_up I
  obtain ⟨bk, lv, ds, fk, lo, ex, ht, vt, vv, rc, rr, ls, eT, eV, rN, rC, rR, dO, dC, tS, tO, tC, re, qN, qT, qK, qA, an, cR, sk, vh, vw, oc, li, ll, sz, va, yo, yg, le, pa, st, on, wa, rfl, rfl, hC, hD, hP, hQ, hF⟩ := I
  by_cases h0 : v1 < 0
  · exact br_t h0 (br_t h0 ⟨rfl, J⟩)
  · by_cases h23 : 23 < v1
    · exact br_f h0 (br_t h23 (br_f h0 (br_t h23 ⟨rfl, J⟩)))
    · obtain ⟨w, hw, rfl⟩ := nI_of2 (x := v1) (M := 23) (n := 23) (by decide) h0 (Int32.not_lt.mp h23)
      obtain ⟨⟨n, hn, rfl, hl, hd⟩, ht⟩ := hP
      by_cases c : n < 16
      · have e16 : ¬ le 4 = 16 := by rw [hl]; exact fun z => by have := (nI_eq (a := n) (b := 16) (by omega) (by decide)).mp z; omega
        have e64 : 64 + le 4 = nI (64 + n) := by rw [hl]; exact nI_add 64 n
        refine br_f h0 (br_f h23 (br_t (nI_lt (b := 16) c (by decide)) ⟨vp_in_nI c (by decide), nm_r (tg_u rfl (by omega) rfl) ⟨vp_in_nI c (by decide), nm_r (tg_uL rfl (by omega) rfl) (nm_r (nI_1 n) ?_)⟩⟩))
        refine br_f h0 (br_f h23 (br_f e16 ⟨tg_vi e64 (by omega) (by decide), nm_r (tg_u e64 (by omega) (tg_vB2 (by omega))) (nm_r (e' := upd le 4 (nI (n + 1))) ?_ ⟨tg_vi e64 (by omega) (by decide), nm_r (tg_uL e64 (by omega) rfl) ⟨rfl, i_mk hC hD ?_ (tg_Q_up hQ) hF⟩⟩)⟩))
        · rw [hl, nI_1, tg_vB2 (by omega)]
        · refine ⟨⟨n + 1, by omega, rfl, pk_us, fun i hi => ?_⟩, fun t h4 => ?_⟩
          · by_cases e : i = n
            · subst e
              exact ⟨w, by omega, pk_us, pk_us, by rw [pk_uLs, pk_uLs]⟩
            · obtain ⟨w2, a, b2, c2, d2⟩ := hd i (by omega)
              exact ⟨w2, a, by rw [pk_un e]; exact b2, by rw [pk_un (by omega)]; exact c2, by rw [pk_uLn (by omega), pk_uLn e]; exact d2⟩
          · obtain ⟨z, hz, e1, e2, e3, e4⟩ := ht t h4
            have oe : ∀ i, i < z → upd yo (64 + n) (nI w) (16 * t + i) = yo (16 * t + i) := fun i hi => pk_un (by omega)
            have ge : ∀ i, i < z → vp_updL yg (64 + n) a1 (16 * t + i) = yg (16 * t + i) := fun i hi => pk_uLn (by omega)
            refine ⟨z, hz, e1, by rw [pk_un (by omega)]; exact e2, fun i hi => by rw [oe i hi, ge i hi]; exact e3 i hi, fun hz0 => ?_⟩
            obtain ⟨w2, f1, f2⟩ := e4 hz0
            exact ⟨w2, fun i hi => by rw [oe i hi]; exact f1 i hi, tg_Ver_c (fun i hi => (ge i hi).symm) f2⟩
      · obtain rfl : n = 16 := by omega
        exact br_f h0 (br_f h23 (br_f (by decide) (br_f h0 (br_f h23 (br_t hl ⟨rfl, J⟩)))))
