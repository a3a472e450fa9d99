/-! 06: Y: wanted lists, partitions lost, members that go -/
section YC
variable {bk : Int32} {lv : Int32} {ds : Int32} {fk : Int32} {lo : Int32} {ex : Int32} {ht : Int32} {vt : Int32} {vv : Int64} {rc : Int32} {rr : Int64} {ls : Nat → Int32} {eT : Nat → Int32} {eV : Nat → Int64} {rN : Nat → Int32} {rC : Nat → Int32} {rR : Nat → Int64} {dO : Nat → Int32} {dC : Nat → Int64} {tS : Nat → Int32} {tO : Nat → Int32} {tC : Nat → Int64} {re : Nat → Int32} {qN : Nat → Int32} {qT : Nat → Int32} {qK : Nat → Int32} {qA : Nat → Int32} {an : Nat → Int32} {cR : Nat → Int64} {sk : Nat → Int64} {vh : Int32} {vw : Int64} {oc : Int64} {li : Nat → Int32} {ll : Nat → Int32} {sz : Nat → Int32} {va : Nat → Int64} {yo : Nat → Int32} {yg : Nat → Int64} {le : Nat → Int32} {pa : Nat → Int32} {st : Nat → Int64} {on : Nat → Int32} {wa : Nat → Int32}
def tg_WA (w : List Nat) (wa : Nat → Int32) : Prop := ∀ j, j < w.length → wa j = nI (w.getD j 0)
theorem tg_WA_s {w : List Nat} {wa : Nat → Int32} {m : Nat} {v : Int32} (h : tg_WA w wa) (hv : v = nI m) : tg_WA (w ++ [m]) (upd wa w.length v) := by
  intro j hj
  rw [List.length_append, List.length_singleton] at hj
  by_cases e : j = w.length
  · subst e
    rw [pk_us, tg_getD_a, hv]
  · rw [pk_un e, tg_getD_l (by omega)]
    exact h j (by omega)
theorem ty_wt_l {post : Int32 → SY → Prop} {p L b : Nat} {x2 : Int32} (hp : p < 6) (hb : b ≤ 2)
    (hq : ∀ m, m < 5 → (L.testBit m = true ↔ (¬ li m = 0 ∧ ¬ nI m = x2)))
    (h : ∀ wa, tg_WA (tg_w p L b 5) wa → post (nI (tg_w p L b 5).length) ((nI b), fk, lo, ex, vh, vw, oc, li, ll, sz, eT, va, rN, rC, rR, yo, yg, le, pa, st, qN, qT, qK, qA, on, cR, wa)) :
    ∀ d j n wa, j + d = 5 → d < n → tg_WA (tg_w p L b j) wa → wY_want_5 post (nI p) x2 (nI b) fk lo ex vh vw oc n (nI (tg_w p L b j).length) (nI j) li ll sz eT va rN rC rR yo yg le pa st qN qT qK qA on cR wa := by
  intro d
  induction d with
  | zero =>
    intro j n wa hj hn hw
    obtain ⟨n, rfl⟩ : ∃ k, n = k + 1 := ⟨n - 1, by omega⟩
    obtain rfl : j = 5 := by omega
    exact br_t (nI_le (a := 5) (b := 5) (by omega) (by decide)) (h wa hw)
  | succ d ih =>
    intro j n wa hj hn hw
    obtain ⟨n, rfl⟩ : ∃ k, n = k + 1 := ⟨n - 1, by omega⟩
    have e : (nI p + nI j) - (nI p + nI j) / 5 * 5 = nI ((p + j) % 5) := by
      rw [nI_add]; exact pk_rem (d := 5) (by omega) (by decide) (by decide)
    have m5 : (p + j) % 5 < 5 := Nat.mod_lt _ (by decide)
    have cl : (nI ((p + j) % 5)).toNatClampNeg = (p + j) % 5 := nI_clamp (by omega)
    have hlen := tg_w_len p L b j
    refine br_f (nI_ge (b := 5) (by omega) (by decide)) ⟨tg_d5, nm_r e ⟨vp_in_nI m5 (by decide), ?_⟩⟩
    rw [cl]
    by_cases c : L.testBit ((p + j) % 5) = true
    · have c2 := (hq _ m5).mp c
      refine br_f c2.1 (br_f c2.2 ?_)
      by_cases s : (tg_w p L b j).length ≤ b
      · have I := ih (j + 1) n (upd wa (tg_w p L b j).length (nI ((p + j) % 5))) (by omega) (by omega) (by rw [tg_w_y ⟨c, s⟩]; exact tg_WA_s hw rfl)
        rw [tg_w_y ⟨c, s⟩, List.length_append, List.length_singleton] at I
        exact br_f (nI_nlt (by omega) (by omega)) (nm_r (nI_1 _) ⟨vp_in_nI (by omega) (by decide), nm_r (tg_u rfl (by omega) (tg_vB2 (by omega))) (nm_r (nI_1 _) I)⟩)
      · have I := ih (j + 1) n wa (by omega) (by omega) (by rw [tg_w_n (fun z => s z.2)]; exact hw)
        rw [tg_w_n (fun z => s z.2)] at I
        exact br_t (nI_lt (by omega) (by omega)) (nm_r (nI_1 _) I)
    · have I := ih (j + 1) n wa (by omega) (by omega) (by rw [tg_w_n (fun z => c z.1)]; exact hw)
      rw [tg_w_n (fun z => c z.1)] at I
      by_cases y : li ((p + j) % 5) = 0
      · exact br_t y (nm_r (nI_1 _) I)
      · by_cases y2 : nI ((p + j) % 5) = x2
        · exact br_f y (br_t y2 (nm_r (nI_1 _) I))
        · exact absurd ((hq _ m5).mpr ⟨y, y2⟩) c
theorem ty_wt {post : Int32 → SY → Prop} {p L b : Nat} {x2 : Int32} (hp : p < 6) (hb : b ≤ 2)
    (hq : ∀ m, m < 5 → (L.testBit m = true ↔ (¬ li m = 0 ∧ ¬ nI m = x2)))
    (h : ∀ wa, tg_WA (tg_w p L b 5) wa → post (nI (tg_w p L b 5).length) ((nI b), fk, lo, ex, vh, vw, oc, li, ll, sz, eT, va, rN, rC, rR, yo, yg, le, pa, st, qN, qT, qK, qA, on, cR, wa)) :
    wpY_want post ((nI b), fk, lo, ex, vh, vw, oc, li, ll, sz, eT, va, rN, rC, rR, yo, yg, le, pa, st, qN, qT, qK, qA, on, cR, wa) (nI p) x2 :=
  ⟨6, ty_wt_l hp hb hq h 5 0 6 wa (by omega) (by omega) (fun j hj => absurd hj (by simp [tg_w]))⟩
theorem tg_ne1 {m : Nat} (h : m < 5) : ¬ nI m = -1 := by
  intro e
  have := nI_pos (n := m) (by omega)
  rw [e] at this
  exact this tg_nm1
theorem tg_LI_q {L : Nat} {li : Nat → Int32} (h : tg_LI L li) : ∀ m, m < 5 → (L.testBit m = true ↔ (¬ li m = 0 ∧ ¬ nI m = -1)) := by
  intro m hm
  rw [h m hm]
  by_cases c : L.testBit m = true
  · rw [if_pos c]; exact ⟨fun _ => ⟨tg_d1, tg_ne1 hm⟩, fun _ => c⟩
  · rw [if_neg c]; exact ⟨fun z => absurd z c, fun z => absurd rfl z.1⟩
theorem tg_LI_d {L m0 : Nat} {li : Nat → Int32} (hL : L < 32) (h0 : m0 < 5) (h : tg_LI L li) : ∀ m, m < 5 → ((tg_del L m0).testBit m = true ↔ (¬ li m = 0 ∧ ¬ nI m = nI m0)) := by
  intro m hm
  rw [h m hm, (tg_anb L hL m0 h0).2 m hm, nI_eq (by omega) (by omega)]
  by_cases c : L.testBit m = true
  · rw [if_pos c, c]
    by_cases e : m = m0
    · simp [e]
    · simp [e]
  · rw [if_neg c, tg_nf c]; simp
theorem tg_LI_u {L m0 : Nat} {li : Nat → Int32} (hL : L < 32) (h0 : m0 < 5) (h : tg_LI L li) : tg_LI (tg_del L m0) (upd li m0 0) := by
  intro m hm
  rw [(tg_anb L hL m0 h0).2 m hm]
  by_cases e : m = m0
  · subst e; rw [pk_us]; simp
  · rw [pk_un e, h m hm]; simp [e]
theorem tg_LI_o {L m0 : Nat} {li : Nat → Int32} (hL : L < 32) (h0 : m0 < 5) (h : tg_LI L li) : tg_LI (L ||| 2 ^ m0) (upd li m0 1) := by
  intro m hm
  rw [(tg_orb L hL m0 h0).2.2 m hm]
  by_cases e : m = m0
  · subst e; rw [pk_us]; simp
  · rw [pk_un e, h m hm]; simp [e]
/-- Y's new list of a lost partition -/
def tg_n1 (w : List Nat) (p : Nat) (wa ll : Nat → Int32) : Nat → Int32 := if w = [] then ll else upd ll (5 * p) (wa 0)
def tg_s1 (w : List Nat) (p : Nat) (sz : Nat → Int32) : Nat → Int32 := if w = [] then sz else upd sz p 1
theorem tg_len0 {w : List Nat} (h : ¬ w = []) : 0 < w.length := List.length_pos_iff.mpr h
theorem ty_lose {post : SY → Prop} {p L b : Nat} (hp : p < 6) (hL : L < 32) (hb : b ≤ 2) (hli : tg_LI L li)
    (h : ∀ wa, tg_WA (tg_w p L b 5) wa → post ((nI b), fk, (lo + 1), ex, vh, vw, oc, li, (tg_n1 (tg_w p L b 5) p wa ll), (tg_s1 (tg_w p L b 5) p sz), (tg_e3 eT p), va, (tg_n3 rN p), rC, rR, yo, yg, le, pa, st, qN, qT, qK, qA, on, cR, wa)) :
    wpY_lose post ((nI b), fk, lo, ex, vh, vw, oc, li, ll, sz, eT, va, rN, rC, rR, yo, yg, le, pa, st, qN, qT, qK, qA, on, cR, wa) (nI p) := by
  have G := tg_w_G (p := p) (L := L) hb 5
  refine nm_e ⟨4, ?_⟩
  refine br_f (nI_ge (b := 18) (by omega) (by decide)) ⟨tg_vi rfl (by omega) (by decide), nm_r (tg_u rfl (by omega) tg_vb0) (nm_r (tg_p6 _) ?_)⟩
  refine br_f (nI_ge (b := 18) (by omega) (by decide)) ⟨tg_vi rfl (by omega) (by decide), nm_r (tg_u rfl (by omega) tg_vb0) (nm_r (tg_p6 _) ?_)⟩
  refine br_f (nI_ge (b := 18) (by omega) (by decide)) ⟨tg_vi rfl (by omega) (by decide), nm_r (tg_u rfl (by omega) tg_vb0) (nm_r (tg_p6 _) ?_)⟩
  refine br_t (nI_le (a := 18) (by omega) (by omega)) ⟨4, ?_⟩
  refine br_f (by decide) ⟨tg_vi (tg_3i p 0) (by omega) (by decide), nm_r (tg_u (tg_3i p 0) (by omega) rfl) (nm_r (nI_1 0) ?_)⟩
  refine br_f (by decide) ⟨tg_vi (tg_3i p 1) (by omega) (by decide), nm_r (tg_u (tg_3i p 1) (by omega) rfl) (nm_r (nI_1 1) ?_)⟩
  refine br_f (by decide) ⟨tg_vi (tg_3i p 2) (by omega) (by decide), nm_r (tg_u (tg_3i p 2) (by omega) rfl) (nm_r (nI_1 2) ?_)⟩
  refine br_t (by decide) (ty_wt hp hb (tg_LI_q hli) (fun wa hw => ?_))
  have H := h wa hw
  by_cases c : tg_w p L b 5 = []
  · unfold tg_n1 tg_s1 at H
    rw [if_pos c, if_pos c] at H
    exact br_t (by rw [c]; rfl) H
  · unfold tg_n1 tg_s1 at H
    rw [if_neg c, if_neg c] at H
    have l0 := tg_len0 c
    have gl := G.1
    have w0 := hw 0 l0
    have m0 := G.lt _ (tg_getD l0)
    refine br_f (fun z => ?_) ⟨tg_vi (tg_5p p) (by omega) (by decide), nm_r (tg_u (w := wa 0) (tg_5p p) (by omega) (by rw [w0]; exact tg_vB (by omega))) ⟨vp_in_nI hp (by decide), nm_r (tg_u rfl (by omega) (tg_vB (n := 1) (by decide))) ?_⟩⟩
    · have := (nI_eq (a := (tg_w p L b 5).length) (b := 0) (by omega) (by decide)).mp z
      omega
    · exact H
/-- one partition's list without m, in place -/
def tg_IP (g : List Nat) (m p k : Nat) (l0 ll : Nat → Int32) : Prop :=
  (∀ j, j < (tg_fl g m k).length → ll (5 * p + j) = nI ((tg_fl g m k).getD j 0)) ∧ (∀ j, k ≤ j → j < g.length → ll (5 * p + j) = nI (g.getD j 0)) ∧ ∀ q, q < 5 * p ∨ 5 * p + 5 ≤ q → ll q = l0 q
theorem ty_cp_l {post : SY → Prop} {J : Int32 → Int32 → Int32 → Int32 → Int32 → Int32 → Int64 → Int64 → (Nat → Int32) → (Nat → Int32) → (Nat → Int32) → (Nat → Int32) → (Nat → Int64) → (Nat → Int32) → (Nat → Int32) → (Nat → Int64) → (Nat → Int32) → (Nat → Int64) → (Nat → Int32) → (Nat → Int32) → (Nat → Int64) → (Nat → Int32) → (Nat → Int32) → (Nat → Int32) → (Nat → Int32) → (Nat → Int32) → (Nat → Int64) → (Nat → Int32) → Prop} {g : List Nat} {m p : Nat} {l0 : Nat → Int32} (hp : p < 6) (hm : m < 5) (hl : g.length ≤ 3) (h5 : ∀ x, x ∈ g → x < 5) (hsz : sz p = nI g.length)
    (h : ∀ ll n, tg_IP g m p 3 l0 ll → wY_dropOut_20 post J (nI m) (nI p) bk fk lo ex vh vw oc (n + 1) (nI (tg_fl g m 3).length) (nI g.length) li ll sz eT va rN rC rR yo yg le pa st qN qT qK qA on cR wa) :
    ∀ d k n ll, k + d = g.length → d < n → tg_IP g m p k l0 ll → wY_dropOut_20 post J (nI m) (nI p) bk fk lo ex vh vw oc n (nI (tg_fl g m k).length) (nI k) li ll sz eT va rN rC rR yo yg le pa st qN qT qK qA on cR wa := by
  intro d
  induction d with
  | zero =>
    intro k n ll hk hn hI
    obtain ⟨n, rfl⟩ : ∃ k, n = k + 1 := ⟨n - 1, by omega⟩
    obtain rfl : k = g.length := by omega
    have e : tg_fl g m 3 = tg_fl g m g.length := by
      have := tg_fl_big (m := m) (Nat.le_refl g.length) (3 - g.length)
      rwa [show g.length + (3 - g.length) = 3 from by omega] at this
    have H := h ll n ⟨by rw [e]; exact hI.1, fun j h1 h2 => by omega, hI.2.2⟩
    rw [e] at H
    exact H
  | succ d ih =>
    intro k n ll hk hn hI
    obtain ⟨n, rfl⟩ : ∃ k, n = k + 1 := ⟨n - 1, by omega⟩
    have cl : (nI p).toNatClampNeg = p := nI_clamp (by omega)
    have ck : (5 * nI p + nI k).toNatClampNeg = 5 * p + k := by rw [tg_5i, nI_clamp (by omega)]
    have hk2 : k < g.length := by omega
    have lk := hI.2.1 k (Nat.le_refl k) hk2
    have a5 := h5 _ (tg_getD hk2)
    have hlen := tg_fl_len g m k
    refine ⟨vp_in_nI hp (by decide), br_f ?_ ⟨tg_vi (tg_5i p k) (by omega) (by decide), ?_⟩⟩
    · rw [cl, hsz]; exact nI_ge hk2 (by omega)
    rw [ck, lk]
    by_cases e : g.getD k 0 = m
    · have I := ih (k + 1) n ll (by omega) (by omega) ⟨by rw [tg_fl_n (by omega)]; exact hI.1, fun j h1 h2 => hI.2.1 j (by omega) h2, hI.2.2⟩
      rw [tg_fl_n (by omega)] at I
      exact br_t (by rw [e]) (nm_r (nI_1 _) I)
    · have y := tg_fl_y (m := m) (j := k) ⟨hk2, e⟩
      have I := ih (k + 1) n (upd ll (5 * p + (tg_fl g m k).length) (nI (g.getD k 0))) (by omega) (by omega) (by
        refine ⟨?_, ?_, ?_⟩
        · rw [y]
          intro j hj
          rw [List.length_append, List.length_singleton] at hj
          by_cases z : j = (tg_fl g m k).length
          · rw [z, pk_us, tg_getD_a]
          · rw [pk_un (by omega), tg_getD_l (by omega)]
            exact hI.1 j (by omega)
        · intro j h1 h2
          rw [pk_un (by omega)]
          exact hI.2.1 j (by omega) h2
        · intro q hq
          rw [pk_un (by omega)]
          exact hI.2.2 q hq)
      rw [y, List.length_append, List.length_singleton] at I
      refine br_f (fun z => e ((nI_eq (by omega) (by omega)).mp z)) (nm_r (nI_1 _) ⟨tg_vi (tg_5i p k) (by omega) (by decide), tg_vi (tg_5i p _) (by omega) (by decide), nm_r (tg_u (tg_5i p _) (by omega) (tg_vB (by omega))) (nm_r (nI_1 _) I)⟩)
theorem tg_ly_s {p : Nat} {g' g : Nat → List Nat} {ll sz ll2 sz2 : Nat → Int32} (h : tg_LY (tg_mix p g' g) ll sz) (hs : ∀ q, q ≠ p → sz2 q = sz q) (hl : ∀ q, q < 5 * p ∨ 5 * p + 5 ≤ q → ll2 q = ll q) (h3 : ∀ q, q < 6 → (g' q).length ≤ 3 ∧ (g q).length ≤ 3)
    (hn : sz2 p = nI (g' p).length ∧ ∀ j, j < (g' p).length → ll2 (5 * p + j) = nI ((g' p).getD j 0)) : tg_LY (tg_mix (p + 1) g' g) ll2 sz2 := by
  intro q hq
  by_cases e : q = p
  · subst e
    rw [tg_mix_lt (by omega)]
    exact hn
  · have z := h q hq
    have hh : tg_mix (p + 1) g' g q = tg_mix p g' g q := by
      by_cases z : q < p
      · rw [tg_mix_lt z, tg_mix_lt (by omega)]
      · rw [tg_mix_ge z, tg_mix_ge (by omega)]
    have h5 : (tg_mix p g' g q).length ≤ 3 := by
      unfold tg_mix
      split
      · exact (h3 q hq).1
      · exact (h3 q hq).2
    rw [hh, hs q e]
    exact ⟨z.1, fun j hj => by rw [hl _ (by omega)]; exact z.2 j hj⟩
end YC
