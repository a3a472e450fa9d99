/-! 07: Y: a member goes -/
section YD
variable {bk : Int32} {lv : Int32} {ds : Int32} {fk : Int32} {lo : Int32} {ex : Int32} {ht : Int32} {vt : Int32} {vv : Int64} {rc : Int32} {rr : Int64} {ls : Nat → Int32} {eT : Nat → Int32} {eV : Nat → Int64} {rN : Nat → Int32} {rC : Nat → Int32} {rR : Nat → Int64} {dO : Nat → Int32} {dC : Nat → Int64} {tS : Nat → Int32} {tO : Nat → Int32} {tC : Nat → Int64} {re : Nat → Int32} {qN : Nat → Int32} {qT : Nat → Int32} {qK : Nat → Int32} {qA : Nat → Int32} {an : Nat → Int32} {cR : Nat → Int64} {sk : Nat → Int64} {vh : Int32} {vw : Int64} {oc : Int64} {li : Nat → Int32} {ll : Nat → Int32} {sz : Nat → Int32} {va : Nat → Int64} {yo : Nat → Int32} {yg : Nat → Int64} {le : Nat → Int32} {pa : Nat → Int32} {st : Nat → Int64} {on : Nat → Int32} {wa : Nat → Int32}
theorem tg_take1 {w : List Nat} (h : ¬ w = []) : (w.take 1).length = 1 ∧ (w.take 1).getD 0 0 = w.getD 0 0 := by
  cases w with
  | nil => exact absurd rfl h
  | cons a r => exact ⟨rfl, rfl⟩
theorem tg_g'_len {g : Nat → List Nat} {m L b : Nat} (p : Nat) : (tg_g' g m L b p).length ≤ 3 := by
  unfold tg_g'
  split
  · rw [List.length_take]; omega
  · exact tg_fl_len _ _ _
theorem tg_new {w : List Nat} {p : Nat} {wa ll sz : Nat → Int32} (hw : tg_WA w wa) (hs : sz p = nI 0) : tg_s1 w p sz p = nI (w.take 1).length ∧ ∀ j, j < (w.take 1).length → tg_n1 w p wa ll (5 * p + j) = nI ((w.take 1).getD j 0) := by
  unfold tg_s1 tg_n1
  by_cases c : w = []
  · rw [if_pos c, if_pos c]
    subst c
    exact ⟨hs, fun j hj => absurd hj (by simp)⟩
  · rw [if_neg c, if_neg c, (tg_take1 c).1, pk_us]
    refine ⟨rfl, fun j hj => ?_⟩
    obtain rfl : j = 0 := by omega
    rw [(tg_take1 c).2]
    show upd ll (5 * p) (wa 0) (5 * p) = _
    rw [pk_us]
    exact hw 0 (tg_len0 c)
theorem tg_s1_ne {w : List Nat} {p q : Nat} {sz : Nat → Int32} (h : q ≠ p) : tg_s1 w p sz q = sz q := by
  unfold tg_s1
  split
  · rfl
  · exact pk_un h
theorem tg_n1_ne {w : List Nat} {p q : Nat} {wa ll : Nat → Int32} (h : q ≠ 5 * p) : tg_n1 w p wa ll q = ll q := by
  unfold tg_n1
  split
  · rfl
  · exact pk_un h
theorem ty_dr_l {post : SY → Prop} {m L b : Nat} {g : Nat → List Nat} (hm : m < 5) (hL : L < 32) (hb : b ≤ 2) (hli : tg_LI L li)
    (hg : ∀ p, p < 6 → (g p).length ≤ 3 ∧ ∀ x, x ∈ g p → x < 5)
    (h : ∀ ll sz wa, tg_LY (tg_g' g m L b) ll sz → post ((nI b), fk, (tg_dL (tg_lz g m) lo 6), ex, vh, vw, oc, li, ll, sz, (tg_dE (tg_lz g m) eT 6), va, (tg_dN (tg_lz g m) rN 6), rC, rR, yo, yg, le, pa, st, qN, qT, qK, qA, on, cR, wa)) :
    ∀ d p n ll sz wa, p + d = 6 → d < n → tg_LY (tg_mix p (tg_g' g m L b) g) ll sz → wY_dropOut_9 post (nI m) n (nI p) (nI b) fk (tg_dL (tg_lz g m) lo p) ex vh vw oc li ll sz (tg_dE (tg_lz g m) eT p) va (tg_dN (tg_lz g m) rN p) rC rR yo yg le pa st qN qT qK qA on cR wa := by
  intro d
  induction d with
  | zero =>
    intro p n ll sz wa hp hn hls
    obtain ⟨n, rfl⟩ : ∃ k, n = k + 1 := ⟨n - 1, by omega⟩
    obtain rfl : p = 6 := by omega
    refine br_t (nI_le (a := 6) (b := 6) (by omega) (by decide)) (h ll sz wa ?_)
    intro q hq
    have z := hls q hq
    rw [tg_mix_lt hq] at z
    exact z
  | succ d ih =>
    intro p n ll sz wa hp hn hls
    obtain ⟨n, rfl⟩ : ∃ k, n = k + 1 := ⟨n - 1, by omega⟩
    have p6 : p < 6 := by omega
    have cl : (nI p).toNatClampNeg = p := nI_clamp (by omega)
    have hp0 := hls p p6
    rw [tg_mix_ge (by omega)] at hp0
    have gl := (hg p p6).1
    have fl := tg_fl_len (g p) m 3
    have h3 : ∀ q, q < 6 → (tg_g' g m L b q).length ≤ 3 ∧ (g q).length ≤ 3 := fun q hq => ⟨tg_g'_len q, (hg q hq).1⟩
    refine br_f (nI_ge (b := 6) (by omega) (by decide)) ⟨(g p).length + 1, ?_⟩
    refine ty_cp_l (g := g p) (l0 := ll) p6 hm gl (hg p p6).2 hp0.1 (fun ll2 n2 hI => ?_) (g p).length 0 _ ll (by omega) (by omega) ⟨fun j hj => absurd hj (by simp [tg_fl]), fun j _ hj => hp0.2 j hj, fun q _ => rfl⟩
    refine ⟨vp_in_nI p6 (by decide), br_t (by rw [cl, hp0.1]; exact nI_le (Nat.le_refl _) (by omega)) ⟨vp_in_nI p6 (by decide), nm_r (tg_u rfl (by omega) (tg_vB2 (by omega))) ?_⟩⟩
    by_cases c : tg_fl (g p) m 3 = []
    · have z := tg_lz_t (g := g) c
      have gp : tg_g' g m L b p = (tg_w p L b 5).take 1 := if_pos z
      refine br_t (by rw [c]; rfl) (ty_lose p6 hL hb hli (fun wa2 hw => nm_r (nI_1 p) ?_))
      have I := ih (p + 1) n (tg_n1 (tg_w p L b 5) p wa2 ll2) (tg_s1 (tg_w p L b 5) p (upd sz p (nI (tg_fl (g p) m 3).length))) wa2 (by omega) (by omega)
        (tg_ly_s hls (fun q hq => by rw [tg_s1_ne hq, pk_un hq]) (fun q hq => by rw [tg_n1_ne (by omega)]; exact hI.2.2 q hq) h3 (by rw [gp]; exact tg_new hw (by rw [pk_us, c]; rfl)))
      unfold tg_dL tg_dE tg_dN at I
      rw [if_pos z, if_pos z, if_pos z] at I
      exact I
    · have z := tg_lz_f (g := g) c
      have gp : tg_g' g m L b p = tg_fl (g p) m 3 := if_neg z
      have l0 := tg_len0 c
      have I := ih (p + 1) n ll2 (upd sz p (nI (tg_fl (g p) m 3).length)) wa (by omega) (by omega)
        (tg_ly_s hls (fun q hq => pk_un hq) hI.2.2 h3 (by rw [gp]; exact ⟨pk_us, hI.1⟩))
      unfold tg_dL tg_dE tg_dN at I
      rw [if_neg z, if_neg z, if_neg z] at I
      exact br_f (fun e => by have := (nI_eq (a := (tg_fl (g p) m 3).length) (b := 0) (by omega) (by decide)).mp e; omega) (nm_r (nI_1 p) I)
theorem ty_dr {post : SY → Prop} {m L b : Nat} {g : Nat → List Nat} (hm : m < 5) (hL : L < 32) (hb : b ≤ 2) (hli : tg_LI L li)
    (hg : ∀ p, p < 6 → (g p).length ≤ 3 ∧ ∀ x, x ∈ g p → x < 5) (hly : tg_LY g ll sz)
    (h : ∀ li ll sz wa, tg_LI (tg_del L m) li → tg_LY (tg_g' g m (tg_del L m) b) ll sz → post ((nI b), fk, (tg_dL (tg_lz g m) lo 6), ex, vh, vw, oc, li, ll, sz, (tg_dE (tg_lz g m) eT 6), va, (tg_dN (tg_lz g m) rN 6), rC, rR, yo, yg, le, pa, st, qN, qT, qK, qA, on, cR, wa)) :
    wpY_dropOut post ((nI b), fk, lo, ex, vh, vw, oc, li, ll, sz, eT, va, rN, rC, rR, yo, yg, le, pa, st, qN, qT, qK, qA, on, cR, wa) (nI m) := by
  refine ⟨vp_in_nI hm (by decide), nm_r (tg_u rfl (by omega) tg_vb0) ⟨7, ?_⟩⟩
  have hl2 := tg_LI_u hL hm hli
  exact ty_dr_l hm (tg_anb L hL m hm).1 hb hl2 hg (fun ll sz wa hy => h _ ll sz wa hl2 hy) 6 0 7 ll sz wa (by omega) (by omega) (fun q hq => by rw [tg_mix_ge (by omega)]; exact hly q hq)
end YD
