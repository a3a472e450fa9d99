/-! 04: small walks, lists of members -/
section SM
variable {bk : Int32} {lv : Int32} {ds : Int32} {fk : Int32} {lo : Int32} {ex : Int32} {ht : Int32} {vt : Int32} {vv : Int64} {rc : Int32} {rr : Int64} {ls : Nat → Int32} {eT : Nat → Int32} {eV : Nat → Int64} {rN : Nat → Int32} {rC : Nat → Int32} {rR : Nat → Int64} {dO : Nat → Int32} {dC : Nat → Int64} {tS : Nat → Int32} {tO : Nat → Int32} {tC : Nat → Int64} {re : Nat → Int32} {qN : Nat → Int32} {qT : Nat → Int32} {qK : Nat → Int32} {qA : Nat → Int32} {an : Nat → Int32} {cR : Nat → Int64} {sk : Nat → Int64} {vh : Int32} {vw : Int64} {oc : Int64} {li : Nat → Int32} {ll : Nat → Int32} {sz : Nat → Int32} {va : Nat → Int64} {yo : Nat → Int32} {yg : Nat → Int64} {le : Nat → Int32} {pa : Nat → Int32} {st : Nat → Int64} {on : Nat → Int32} {wa : Nat → Int32}
theorem tx_isM1 {post : Int32 → Prop} {m : Nat} (hm : m < 5) (h : post 1) : wpX_isMember post (nI m) :=
  br_f (nI_pos (by omega)) (br_f (nI_ge (b := 5) hm (by decide)) h)
theorem tx_isM0 {post : Int32 → Prop} {x : Int32} (hx : x < 0 ∨ nI 5 ≤ x) (h : post 0) : wpX_isMember post x := by
  by_cases z : x < 0
  · exact br_t z h
  · exact br_f z (br_t (hx.resolve_left z) h)
theorem tx_isP1 {post : Int32 → Prop} {m : Nat} (hm : m < 6) (h : post 1) : wpX_isPartition post (nI m) :=
  br_f (nI_pos (by omega)) (br_f (nI_ge (b := 6) hm (by decide)) h)
theorem tx_isP0 {post : Int32 → Prop} {x : Int32} (hx : x < 0 ∨ nI 6 ≤ x) (h : post 0) : wpX_isPartition post x := by
  by_cases z : x < 0
  · exact br_t z h
  · exact br_f z (br_t (hx.resolve_left z) h)
theorem tx_isC1 {post : Int32 → Prop} {m : Nat} (hm : m < 3) (h : post 1) : wpX_isClient post (nI m) :=
  br_f (nI_pos (by omega)) (br_f (nI_ge (b := 3) hm (by decide)) h)
theorem tx_isC0 {post : Int32 → Prop} {x : Int32} (hx : x < 0 ∨ nI 3 ≤ x) (h : post 0) : wpX_isClient post x := by
  by_cases z : x < 0
  · exact br_t z h
  · exact br_f z (br_t (hx.resolve_left z) h)
theorem tx_isK1 {post : Int32 → Prop} {m : Nat} (hm : m < 18) (h : post 1) : wpX_isKey post (nI m) :=
  br_f (nI_pos (by omega)) (br_f (nI_ge (b := 18) hm (by decide)) h)
theorem tx_isK0 {post : Int32 → Prop} {x : Int32} (hx : x < 0 ∨ nI 18 ≤ x) (h : post 0) : wpX_isKey post x := by
  by_cases z : x < 0
  · exact br_t z h
  · exact br_f z (br_t (hx.resolve_left z) h)
theorem tx_in1 {post : Int32 → Prop} {L m : Nat} (hL : L < 32) (hm : m < 5) (ht : L.testBit m = true) (h : post 1) : wpX_isIn post (nI L) (nI m) :=
  br_t ((tg_in L hL m hm).mpr ht) h
theorem tx_in0 {post : Int32 → Prop} {L m : Nat} (hL : L < 32) (hm : m < 5) (ht : L.testBit m = false) (h : post 0) : wpX_isIn post (nI L) (nI m) :=
  br_f (fun z => by rw [(tg_in L hL m hm).mp z] at ht; exact absurd ht (by decide)) h
theorem tg_d1 : ¬ (1 : Int32) = 0 := by decide
theorem tg_d5 : ¬ (5 : Int32) = 0 := by decide
theorem tg_d6 : ¬ (6 : Int32) = 0 := by decide
theorem tg_vb0 : vp_nar .boolean 0 = 0 := by decide
theorem tg_vb1 : vp_nar .boolean 1 = 1 := by decide
theorem tg_nm1 : (-1 : Int32) < 0 := by decide
theorem tg_i8 : ∀ n, n < 128 → (nI n).toInt8.toInt32 = nI n := by decide +kernel
theorem tg_vB {n : Nat} (h : n < 128) : vp_nar .byte (nI n) = nI n := by rw [vp_nar_byte, tg_i8 n h]
theorem tg_vB2 {n : Nat} (h : n < 128) : vp_nar .byte (nI n).toInt8.toInt32 = nI n := by rw [tg_i8 n h, tg_vB h]
theorem tx_mem1 {post : Int32 → Prop} {g : List Nat} (hl : g.length ≤ 3) (hm : ∀ m, m ∈ g → m < 5) {j : Nat} (hj : j < g.length) (h : post (nI (g.getD j 0))) : wpX_memberAt post (nI (tg_pk g)) (nI j) := by
  have e := tg_mem hl hm j (by omega)
  unfold wpX_memberAt
  rw [e, show tg_at g j = nI (g.getD j 0) from if_pos hj]
  exact h
theorem tx_mem0 {post : Int32 → Prop} {g : List Nat} (hl : g.length ≤ 3) (hm : ∀ m, m ∈ g → m < 5) {j : Nat} (h3 : j < 3) (hj : ¬ j < g.length) (h : post (-1)) : wpX_memberAt post (nI (tg_pk g)) (nI j) := by
  have e := tg_mem hl hm j h3
  unfold wpX_memberAt
  rw [e, show tg_at g j = -1 from if_neg hj]
  exact h
theorem tx_wm {post : Int32 → Prop} {g : List Nat} (hl : g.length ≤ 2) (hm : ∀ m, m ∈ g → m < 5) {m : Nat} (h5 : m < 5) (h : post (nI (tg_pk (g ++ [m])))) : wpX_withMemberAt post (nI (tg_pk g)) (nI g.length) (nI m) := by
  unfold wpX_withMemberAt
  rw [tg_app hl hm m h5]
  exact h
theorem tx_fa {post : Int32 → Prop} {g : List Nat} (hl : g.length ≤ 3) (hm : ∀ m, m ∈ g → m < 5) (h : post (nI (tg_pk (g.take 1)))) : wpX_firstAlone post (nI (tg_pk g)) := by
  unfold wpX_firstAlone
  rw [tg_fst hl hm]
  exact h
theorem tg_fl_y {g : List Nat} {m j : Nat} (h : j < g.length ∧ g.getD j 0 ≠ m) : tg_fl g m (j + 1) = tg_fl g m j ++ [g.getD j 0] := if_pos h
theorem tg_fl_n {g : List Nat} {m j : Nat} (h : ¬ (j < g.length ∧ g.getD j 0 ≠ m)) : tg_fl g m (j + 1) = tg_fl g m j := if_neg h
theorem tx_lw_l {post : Int32 → Prop} {g : List Nat} (hl : g.length ≤ 3) (hm : ∀ m, m ∈ g → m < 5) {m : Nat} (h5 : m < 5) (h : post (nI (tg_pk (tg_fl g m 3)))) : ∀ d j n, j + d = 3 → d < n → wX_listWithout_7 post (nI (tg_pk g)) (nI m) n (nI (tg_pk (tg_fl g m j))) (nI (tg_fl g m j).length) (nI j) := by
  intro d
  induction d with
  | zero =>
    intro j n hj hn
    obtain ⟨n, rfl⟩ : ∃ k, n = k + 1 := ⟨n - 1, by omega⟩
    obtain rfl : j = 3 := by omega
    exact br_t (nI_le (a := 3) (b := 3) (by omega) (by decide)) h
  | succ d ih =>
    intro j n hj hn
    obtain ⟨n, rfl⟩ : ∃ k, n = k + 1 := ⟨n - 1, by omega⟩
    refine br_f (nI_ge (b := 3) (by omega) (by decide)) ?_
    have I := ih (j + 1) n (by omega) (by omega)
    by_cases c : j < g.length
    · have a5 := hm _ (tg_getD c)
      refine tx_mem1 hl hm c (br_f (nI_pos (by omega)) ?_)
      by_cases e : g.getD j 0 = m
      · rw [tg_fl_n (by omega)] at I
        exact br_t (by rw [e]) (nm_r (nI_1 _) I)
      · rw [tg_fl_y ⟨c, e⟩, List.length_append, List.length_singleton] at I
        have hlen := tg_fl_len g m j
        refine br_f (fun z => e ((nI_eq (by omega) (by omega)).mp z)) (tx_wm (by omega) (fun x hx => hm x (tg_fl_mem g m j x hx).1) a5 ?_)
        exact nm_r (nI_1 _) (nm_r (nI_1 _) I)
    · rw [tg_fl_n (by omega)] at I
      exact tx_mem0 hl hm (by omega) c (br_t tg_nm1 (nm_r (nI_1 _) I))
theorem tx_lw {post : Int32 → Prop} {g : List Nat} (hl : g.length ≤ 3) (hm : ∀ m, m ∈ g → m < 5) {m : Nat} (h5 : m < 5) (h : post (nI (tg_pk (tg_fl g m 3)))) : wpX_listWithout post (nI (tg_pk g)) (nI m) :=
  ⟨4, tx_lw_l hl hm h5 h 3 0 4 (by omega) (by omega)⟩
/-! the wanted list, X -/
theorem tg_w_y {p L b i : Nat} (h : L.testBit ((p + i) % 5) = true ∧ (tg_w p L b i).length ≤ b) : tg_w p L b (i + 1) = tg_w p L b i ++ [(p + i) % 5] := if_pos h
theorem tg_w_n {p L b i : Nat} (h : ¬ (L.testBit ((p + i) % 5) = true ∧ (tg_w p L b i).length ≤ b)) : tg_w p L b (i + 1) = tg_w p L b i := if_neg h
theorem tg_nf {x : Bool} (h : ¬ x = true) : x = false := by cases x with | true => exact absurd rfl h | false => rfl
theorem tx_wl_l {post : Int32 → Prop} {p L b : Nat} (hp : p < 6) (hL : L < 32) (hb : b ≤ 2) (h : post (nI (tg_pk (tg_w p L b 5)))) : ∀ d j n, j + d = 5 → d < n → wX_wantedList_8 post (nI p) (nI L) (nI b) lv ds fk lo ex ht vt vv rc rr ls eT eV rN rC rR dO dC tS tO tC re qN qT qK qA an cR sk n (nI (tg_pk (tg_w p L b j))) (nI (tg_w p L b j).length) (nI j) := by
  intro d
  induction d with
  | zero =>
    intro j n hj hn
    obtain ⟨n, rfl⟩ : ∃ k, n = k + 1 := ⟨n - 1, by omega⟩
    obtain rfl : j = 5 := by omega
    exact br_t (nI_le (a := 5) (b := 5) (by omega) (by decide)) h
  | succ d ih =>
    intro j n hj hn
    obtain ⟨n, rfl⟩ : ∃ k, n = k + 1 := ⟨n - 1, by omega⟩
    have I := ih (j + 1) n (by omega) (by omega)
    have e : (nI p + nI j) - (nI p + nI j) / 5 * 5 = nI ((p + j) % 5) := by
      rw [nI_add]; exact pk_rem (d := 5) (by omega) (by decide) (by decide)
    refine br_f (nI_ge (b := 5) (by omega) (by decide)) ⟨tg_d5, nm_r e ?_⟩
    have m5 : (p + j) % 5 < 5 := Nat.mod_lt _ (by decide)
    have hlen := tg_w_len p L b j
    by_cases c : L.testBit ((p + j) % 5) = true
    · refine tx_in1 hL m5 c (br_f tg_d1 ?_)
      by_cases s : (tg_w p L b j).length ≤ b
      · rw [tg_w_y ⟨c, s⟩, List.length_append, List.length_singleton] at I
        refine br_f (nI_nlt (by omega) (by omega)) (tx_wm (by omega) (fun x hx => (tg_w_mem p L b j x hx).1) m5 ?_)
        exact nm_r (nI_1 _) (nm_r (nI_1 _) I)
      · rw [tg_w_n (fun z => s z.2)] at I
        exact br_t (nI_lt (by omega) (by omega)) (nm_r (nI_1 _) I)
    · rw [tg_w_n (fun z => c z.1)] at I
      exact tx_in0 hL m5 (tg_nf c) (br_t rfl (nm_r (nI_1 _) I))
theorem tx_wl {post : Int32 → Prop} {p L b : Nat} (hp : p < 6) (hL : L < 32) (hb : b ≤ 2) (h : post (nI (tg_pk (tg_w p L b 5)))) : wpX_wantedList post ((nI b), lv, ds, fk, lo, ex, ht, vt, vv, rc, rr, ls, eT, eV, rN, rC, rR, dO, dC, tS, tO, tC, re, qN, qT, qK, qA, an, cR, sk) (nI p) (nI L) :=
  ⟨6, tx_wl_l hp hL hb h 5 0 6 (by omega) (by omega)⟩
/-! the set of a list, X -/
theorem tg_st_y {g : List Nat} {j : Nat} (h : j < g.length) : tg_st g (j + 1) = tg_st g j ||| ((1 : Int32) <<< (nI (g.getD j 0) &&& 31)) := if_pos h
theorem tg_st_n {g : List Nat} {j : Nat} (h : ¬ j < g.length) : tg_st g (j + 1) = tg_st g j := if_neg h
theorem tx_so_l {post : Int32 → Prop} {g : List Nat} (hl : g.length ≤ 3) (hm : ∀ m, m ∈ g → m < 5) (h : post (tg_st g 3)) : ∀ d j n, j + d = 3 → d < n → wX_setOf_4 post (nI (tg_pk g)) n (tg_st g j) (nI j) := by
  intro d
  induction d with
  | zero =>
    intro j n hj hn
    obtain ⟨n, rfl⟩ : ∃ k, n = k + 1 := ⟨n - 1, by omega⟩
    obtain rfl : j = 3 := by omega
    exact br_t (nI_le (a := 3) (b := 3) (by omega) (by decide)) h
  | succ d ih =>
    intro j n hj hn
    obtain ⟨n, rfl⟩ : ∃ k, n = k + 1 := ⟨n - 1, by omega⟩
    refine br_f (nI_ge (b := 3) (by omega) (by decide)) ?_
    have I := ih (j + 1) n (by omega) (by omega)
    by_cases c : j < g.length
    · have a5 := hm _ (tg_getD c)
      rw [tg_st_y c] at I
      exact tx_mem1 hl hm c (br_f (nI_pos (by omega)) (nm_e (nm_r (nI_1 _) I)))
    · rw [tg_st_n c] at I
      exact tx_mem0 hl hm (by omega) c (br_t tg_nm1 (nm_r (nI_1 _) I))
theorem tx_so {post : Int32 → Prop} {g : List Nat} (hl : g.length ≤ 3) (hm : ∀ m, m ∈ g → m < 5) (h : post (tg_st g 3)) : wpX_setOf post (nI (tg_pk g)) :=
  ⟨4, tx_so_l hl hm h 3 0 4 (by omega) (by omega)⟩
end SM
