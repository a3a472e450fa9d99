/-! 10: leave -/
def tg_ho (g : Nat → List Nat) (m L b p : Nat) : List Nat := if g p = [m] ∧ L ≠ 0 then (tg_w p L b 5).take 1 else g p
section LV
variable {bk : Int32} {lv : Int32} {ds : Int32} {fk : Int32} {lo : Int32} {ex : Int32} {ht : Int32} {vt : Int32} {vv : Int64} {rc : Int32} {rr : Int64} {ls : Nat → Int32} {eT : Nat → Int32} {eV : Nat → Int64} {rN : Nat → Int32} {rC : Nat → Int32} {rR : Nat → Int64} {dO : Nat → Int32} {dC : Nat → Int64} {tS : Nat → Int32} {tO : Nat → Int32} {tC : Nat → Int64} {re : Nat → Int32} {qN : Nat → Int32} {qT : Nat → Int32} {qK : Nat → Int32} {qA : Nat → Int32} {an : Nat → Int32} {cR : Nat → Int64} {sk : Nat → Int64} {vh : Int32} {vw : Int64} {oc : Int64} {li : Nat → Int32} {ll : Nat → Int32} {sz : Nat → Int32} {va : Nat → Int64} {yo : Nat → Int32} {yg : Nat → Int64} {le : Nat → Int32} {pa : Nat → Int32} {st : Nat → Int64} {on : Nat → Int32} {wa : Nat → Int32}
theorem tg_upd_id {f : Nat → Int32} {p : Nat} : upd f p (f p) = f := by
  funext q
  unfold upd
  split
  · rename_i e; rw [e]
  · rfl
theorem tg_lx_k {p : Nat} {g' g : Nat → List Nat} {ls : Nat → Int32} (h : tg_LX (tg_mix p g' g) ls) (hp : p < 6) (e : g' p = g p) : tg_LX (tg_mix (p + 1) g' g) ls := by
  have z := tg_lx_s (v := ls p) h (by have := h p hp; rw [tg_mix_ge (by omega)] at this; rw [e]; exact this)
  rw [tg_upd_id] at z
  exact z
theorem tg_ly_k {p : Nat} {g' g : Nat → List Nat} {ll sz : Nat → Int32} (h : tg_LY (tg_mix p g' g) ll sz) (hp : p < 6) (e : g' p = g p) (h3 : ∀ q, q < 6 → (g' q).length ≤ 3 ∧ (g q).length ≤ 3) : tg_LY (tg_mix (p + 1) g' g) ll sz :=
  tg_ly_s h (fun q _ => rfl) (fun q _ => rfl) h3 (by have := h p hp; rw [tg_mix_ge (by omega)] at this; rw [e]; exact this)
theorem tx_ho_l {post : SX → Prop} {m L b : Nat} {g : Nat → List Nat} (hm : m < 5) (hL : L < 32) (hL0 : L ≠ 0) (hb : b ≤ 2)
    (hg : ∀ p, p < 6 → (g p).length ≤ 3 ∧ ∀ x, x ∈ g p → x < 5)
    (h : ∀ ls, tg_LX (tg_ho g m L b) ls → post ((nI b), lv, ds, fk, lo, ex, ht, vt, vv, rc, rr, ls, eT, eV, rN, rC, rR, dO, dC, tS, tO, tC, re, qN, qT, qK, qA, an, cR, sk)) :
    ∀ d p n ls, p + d = 6 → d < n → tg_LX (tg_mix p (tg_ho g m L b) g) ls → wX_handOver_8 post (nI L) (nI m + 1) (nI b) lv ds fk lo ex ht vt vv rc rr n (nI p) ls eT eV rN rC rR dO dC tS tO tC re qN qT qK qA an cR sk := by
  intro d
  induction d with
  | zero =>
    intro p n ls hp hn hls
    obtain ⟨n, rfl⟩ : ∃ k, n = k + 1 := ⟨n - 1, by omega⟩
    obtain rfl : p = 6 := by omega
    refine br_t (nI_le (a := 6) (b := 6) (by omega) (by decide)) (h ls ?_)
    intro q hq
    rw [hls q hq, tg_mix_lt hq]
  | succ d ih =>
    intro p n ls hp hn hls
    obtain ⟨n, rfl⟩ : ∃ k, n = k + 1 := ⟨n - 1, by omega⟩
    have p6 : p < 6 := by omega
    have cl : (nI p).toNatClampNeg = p := nI_clamp (by omega)
    have hp0 := hls p p6
    rw [tg_mix_ge (by omega)] at hp0
    have pl := tg_pk_lt (hg p p6).1 (hg p p6).2
    have G := tg_w_G (p := p) (L := L) hb 5
    refine br_f (nI_ge (b := 6) (by omega) (by decide)) ⟨vp_in_nI p6 (by decide), ?_⟩
    by_cases c : g p = [m]
    · have I := ih (p + 1) n (upd ls p (nI (tg_pk ((tg_w p L b 5).take 1)))) (by omega) (by omega) (tg_lx_s hls (by unfold tg_ho; rw [if_pos ⟨c, hL0⟩]))
      exact br_t (by rw [cl, hp0, c]; exact (tg_pk1 m).symm) (tx_wl p6 hL hb (tx_fa G.1 G.lt ⟨vp_in_nI p6 (by decide), nm_r (tg_u rfl (by omega) rfl) (nm_r (nI_1 p) I)⟩))
    · have I := ih (p + 1) n ls (by omega) (by omega) (tg_lx_k hls p6 (if_neg (fun z => c z.1)))
      refine br_f ?_ (nm_r (nI_1 p) I)
      rw [cl, hp0, tg_pk1]
      intro e
      have z := (nI_eq (by omega) (by simp [tg_pk]; omega)).mp e
      exact c (tg_pk_inj (hg p p6).2 (fun x hx => by rw [List.mem_singleton] at hx; omega) z)
theorem tg_one {g : List Nat} {m : Nat} : g = [m] ↔ g.length = 1 ∧ g.getD 0 0 = m := by
  match g with
  | [] => simp
  | [a] => simp
  | a :: b :: r => simp
theorem ty_lv_l {post : Int32 → SY → Prop} {m L b : Nat} {g : Nat → List Nat} (hm : m < 5) (hL : L < 32) (hb : b ≤ 2) (hli : ∀ x, x < 5 → (L.testBit x = true ↔ (¬ li x = 0 ∧ ¬ nI x = nI m)))
    (hg : ∀ p, p < 6 → (g p).length ≤ 3 ∧ ∀ x, x ∈ g p → x < 5)
    (h : ∀ ll wa, tg_LY (tg_ho g m L b) ll sz → wpY_dropOut (fun u => post 1 u) ((nI b), fk, lo, ex, vh, vw, oc, li, ll, sz, eT, va, rN, rC, rR, yo, yg, le, pa, st, qN, qT, qK, qA, on, cR, wa) (nI m)) :
    ∀ d p n ll wa, p + d = 6 → d < n → tg_LY (tg_mix p (tg_ho g m L b) g) ll sz → wY_leave_22 post (nI m) n (nI p) (nI b) fk lo ex vh vw oc li ll sz eT va rN rC rR yo yg le pa st qN qT qK qA on cR wa := by
  have h3 : ∀ q, q < 6 → (tg_ho g m L b q).length ≤ 3 ∧ (g q).length ≤ 3 := by
    intro q hq
    refine ⟨?_, (hg q hq).1⟩
    unfold tg_ho
    split
    · rw [List.length_take]; omega
    · exact (hg q hq).1
  intro d
  induction d with
  | zero =>
    intro p n ll wa hp hn hls
    obtain ⟨n, rfl⟩ : ∃ k, n = k + 1 := ⟨n - 1, by omega⟩
    obtain rfl : p = 6 := by omega
    refine br_t (nI_le (a := 6) (b := 6) (by omega) (by decide)) (h ll wa ?_)
    intro q hq
    have z := hls q hq
    rw [tg_mix_lt hq] at z
    exact z
  | succ d ih =>
    intro p n ll wa hp hn hls
    obtain ⟨n, rfl⟩ : ∃ k, n = k + 1 := ⟨n - 1, by omega⟩
    have p6 : p < 6 := by omega
    have i6 : vp_in (nI p) 6 := vp_in_nI p6 (by decide)
    have cl : (nI p).toNatClampNeg = p := nI_clamp (by omega)
    have c5 : (5 * nI p).toNatClampNeg = 5 * p := by rw [tg_5p, nI_clamp (by omega)]
    have hp0 := hls p p6
    rw [tg_mix_ge (by omega)] at hp0
    have gl := (hg p p6).1
    refine br_f (nI_ge (b := 6) (by omega) (by decide)) ?_
    by_cases c1 : (g p).length = 1
    · have c1' : sz (nI p).toNatClampNeg = 1 := by rw [cl, hp0.1, c1]; rfl
      have l0 := hp0.2 0 (by omega)
      have a5 := (hg p p6).2 _ (tg_getD (g := g p) (j := 0) (by omega))
      unfold wpY_alone
      by_cases c2 : (g p).getD 0 0 = m
      · have c : g p = [m] := tg_one.mpr ⟨c1, c2⟩
        refine ⟨i6, br_t c1' ⟨tg_vi (tg_5p p) (by omega) (by decide), br_t (by rw [c5]; rw [← c2]; exact l0) (br_f tg_d1 (ty_wt p6 hb hli (fun wa2 hw => ?_)))⟩⟩
        have W := tg_w_0 p p6 L hL b (by omega)
        have wl := tg_w_len p L b 5
        by_cases e : tg_w p L b 5 = []
        · have I := ih (p + 1) n ll wa2 (by omega) (by omega) (tg_ly_k hls p6 (if_neg (fun z => z.2 (W.mp e))) h3)
          exact br_t (by rw [e]; decide) (nm_r (nI_1 p) I)
        · have w0 := hw 0 (tg_len0 e)
          have m0 := (tg_w_mem p L b 5 _ (tg_getD (tg_len0 e))).1
          have ep := tg_len0 e
          have I := ih (p + 1) n (upd ll (5 * p) (wa2 0)) wa2 (by omega) (by omega) (tg_ly_s hls (fun q _ => rfl) (fun q hq => pk_un (by omega)) h3 (by
            unfold tg_ho
            rw [if_pos ⟨c, fun z => e (W.mpr z)⟩, (tg_take1 e).1]
            refine ⟨by rw [hp0.1, c1], fun j hj => ?_⟩
            obtain rfl : j = 0 := by omega
            rw [(tg_take1 e).2]
            show upd ll (5 * p) (wa2 0) (5 * p) = _
            rw [pk_us]; exact w0))
          exact br_f (nI_nle ep (by omega)) ⟨tg_vi (tg_5p p) (by omega) (by decide), nm_r (tg_u (w := wa2 0) (tg_5p p) (by omega) (by rw [w0]; exact tg_vB (by omega))) (nm_r (nI_1 p) I)⟩
      · have I := ih (p + 1) n ll wa (by omega) (by omega) (tg_ly_k hls p6 (if_neg (fun z => c2 (tg_one.mp z.1).2)) h3)
        refine ⟨i6, br_t c1' ⟨tg_vi (tg_5p p) (by omega) (by decide), br_f ?_ (br_t rfl (nm_r (nI_1 p) I))⟩⟩
        rw [c5]
        have l0' : ll (5 * p) = nI ((g p).getD 0 0) := l0
        rw [l0']
        exact fun z => c2 ((nI_eq (by omega) (by omega)).mp z)
    · have I := ih (p + 1) n ll wa (by omega) (by omega) (tg_ly_k hls p6 (if_neg (fun z => c1 (tg_one.mp z.1).1)) h3)
      unfold wpY_alone
      refine ⟨i6, br_f ?_ (br_t rfl (nm_r (nI_1 p) I))⟩
      rw [cl, hp0.1]
      exact fun z => c1 ((nI_eq (b := 1) (by omega) (by decide)).mp z)
theorem tg_ho_G {b L m : Nat} {g : Nat → List Nat} (hL : L < 32) (hm : m < 5) (hg : ∀ p, p < 6 → tg_G L (g p)) : ∀ p, p < 6 → tg_G L (tg_ho g m (tg_del L m) b p) := by
  intro p hp
  have A := tg_anb L hL m hm
  unfold tg_ho
  split
  · refine ⟨by rw [List.length_take]; omega, fun x hx => ?_⟩
    have z := tg_w_mem _ _ _ _ x (tg_take_mem hx)
    have y := z.2
    rw [A.2 x z.1, Bool.and_eq_true] at y
    exact ⟨z.1, y.2⟩
  · exact hg p hp
end LV
theorem i_vc_leave {k : Nat} {u : SX} {v : SY} (I : i_Rel k u v) (hk : k + 5 ≤ 2561) (v1 : Int32) : wpX_leave (fun r u' => wpY_leave (fun r' v' => r' = r ∧ i_Rel (k + 5) u' v') v v1) u v1 := by
  have J := i_up I
  obtain ⟨bk, lv, ds, fk, lo, ex, ht, vt, vv, rc, rr, ls, eT, eV, rN, rC, rR, dO, dC, tS, tO, tC, re, qN, qT, qK, qA, an, cR, sk, vh, vw, oc, li, ll, sz, va, yo, yg, le, pa, st, on, wa, rfl, rfl, hC, hD, hP, hQ, hF⟩ := I
  obtain ⟨b, L, g, hb, hL, rfl, rfl, hli, hg, hx, hy⟩ := hC
  have hg1 : ∀ p, p < 6 → tg_G L (g p) := fun p hp => (hg p hp).1
  unfold wpX_leave
  rcases pk_ix v1 (n := 5) (by decide) with h | h | ⟨m, hm, rfl⟩
  · exact tx_isM0 (Or.inl h) (br_t rfl (br_t h ⟨rfl, J⟩))
  · have B := tg_big h (by decide)
    exact tx_isM0 (Or.inr h) (br_t rfl (br_f B.1 (br_t (B.2 4 (by decide)).2 ⟨rfl, J⟩)))
  · have y1 : ¬ nI m < 0 := nI_pos (by omega)
    have i5 : vp_in (nI m) 5 := vp_in_nI hm (by decide)
    have A := tg_anb L hL m hm
    refine tx_isM1 hm (br_f tg_d1 ?_)
    by_cases c : L.testBit m = true
    · have hh := tg_ho_G (b := b) hL hm hg1
      have Y : ∀ ls2, tg_LX (tg_g' (tg_ho g m (tg_del L m) b) m (tg_del L m) b) ls2 → wpY_leave (fun r' v' => r' = 1 ∧ i_Rel (k + 5) ((nI b), (nI (tg_del L m)), ds, fk, (tg_dL (tg_lz (tg_ho g m (tg_del L m) b) m) lo 6), ex, ht, vt, vv, rc, rr, ls2, (tg_dE (tg_lz (tg_ho g m (tg_del L m) b) m) eT 6), (tg_dV (tg_lz (tg_ho g m (tg_del L m) b) m) eV 6), (tg_dN (tg_lz (tg_ho g m (tg_del L m) b) m) rN 6), rC, rR, dO, dC, tS, tO, tC, re, qN, qT, qK, qA, an, cR, sk) v') ((nI b), fk, lo, ex, vh, vw, oc, li, ll, sz, eT, va, rN, rC, rR, yo, yg, le, pa, st, qN, qT, qK, qA, on, cR, wa) (nI m) := by
        intro ls2 hx2
        refine br_f y1 (br_f (tg_n4 hm) ⟨i5, br_f (tg_LI_t hli hm c) ⟨7, ty_lv_l (L := tg_del L m) hm A.1 hb (tg_LI_d hL hm hli) (tg_hg hg1) (fun ll2 wa2 hy2 => ?_) 6 0 7 ll wa (by omega) (by omega) (fun q hq => by rw [tg_mix_ge (by omega)]; exact hy q hq)⟩⟩)
        refine ty_dr hm hL hb hli (tg_hg hh) hy2 (fun li3 ll3 sz3 wa3 hli3 hy3 => ?_)
        exact ⟨rfl, i_mk ⟨b, tg_del L m, _, hb, A.1, rfl, rfl, hli3, tg_C_dr hb hL hm hh, hx2, hy3⟩ (tg_dE_D hD 6) hP (tg_Q_up hQ) hF⟩
      refine tx_in1 hL hm c (br_f tg_d1 (nm_r (tg_an L hL m hm) ?_))
      by_cases z : tg_del L m = 0
      · refine br_t (by rw [z]; rfl) ?_
        unfold wX_leave_41
        refine tx_dr (g := tg_ho g m (tg_del L m) b) hm hL hb (tg_hg hh) (fun q hq => ?_) Y
        rw [hx q hq, show tg_ho g m (tg_del L m) b q = g q from if_neg (fun y => y.2 z)]
      · refine br_f (nI_ne0 (by omega) (by omega)) ?_
        unfold wpX_handOver wpX_aloneList
        refine ⟨7, tx_ho_l hm A.1 z hb (tg_hg hg1) (fun ls1 hx1 => ?_) 6 0 7 ls (by omega) (by omega) (fun q hq => by rw [tg_mix_ge (by omega)]; exact hx q hq)⟩
        show wX_leave_41 _ _ _ _ _ _ _ _ _ _ _ _ _ _ _ _ _ _ _ _ _ _ _ _ _ _ _ _ _ _ _ _
        unfold wX_leave_41
        exact tx_dr hm hL hb (tg_hg hh) hx1 Y
    · exact tx_in0 hL hm (tg_nf c) (br_t rfl (br_f y1 (br_f (tg_n4 hm) ⟨i5, br_t (tg_LI_f hli hm (tg_nf c)) ⟨rfl, J⟩⟩)))
