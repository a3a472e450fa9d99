/-! 05: X: partitions lost, members that go -/
def tg_e3 (a : Nat → Int32) (p : Nat) : Nat → Int32 := upd (upd (upd a p 0) (p + 6) 0) (p + 12) 0
def tg_v3 (a : Nat → Int64) (p : Nat) : Nat → Int64 := vp_updL (vp_updL (vp_updL a p 0) (p + 6) 0) (p + 12) 0
def tg_n3 (a : Nat → Int32) (p : Nat) : Nat → Int32 := upd (upd (upd a (3 * p) 0) (3 * p + 1) 0) (3 * p + 2) 0
theorem tg_u {f : Nat → Int32} {x v w : Int32} {n : Nat} (e : x = nI n) (hn : n < 2 ^ 31) (ev : v = w) : upd f x.toNatClampNeg v = upd f n w := by
  rw [e, nI_clamp hn, ev]
theorem tg_uL {f : Nat → Int64} {x : Int32} {v w : Int64} {n : Nat} (e : x = nI n) (hn : n < 2 ^ 31) (ev : v = w) : vp_updL f x.toNatClampNeg v = vp_updL f n w := by
  rw [e, nI_clamp hn, ev]
theorem tg_vi {x : Int32} {n N : Nat} (e : x = nI n) (h : n < N) (hN : N < 2 ^ 31) : vp_in x N := by
  rw [e]; exact vp_in_nI h hN
theorem tg_rd {f : Nat → Int32} {x : Int32} {n : Nat} (e : x = nI n) (hn : n < 2 ^ 31) : f x.toNatClampNeg = f n := by
  rw [e, nI_clamp hn]
theorem tg_rdL {f : Nat → Int64} {x : Int32} {n : Nat} (e : x = nI n) (hn : n < 2 ^ 31) : f x.toNatClampNeg = f n := by
  rw [e, nI_clamp hn]
theorem tg_i3 (p j : Nat) : nI p * 3 + nI j = nI (3 * p + j) := by
  have e : nI p * 3 = nI (p * 3) := pk_mul p 3
  rw [e, nI_add, Nat.mul_comm]
theorem tg_3i (p j : Nat) : 3 * nI p + nI j = nI (3 * p + j) := by
  have e : 3 * nI p = nI (3 * p) := pk_mul 3 p
  rw [e, nI_add]
theorem tg_5i (p j : Nat) : 5 * nI p + nI j = nI (5 * p + j) := by
  have e : 5 * nI p = nI (5 * p) := pk_mul 5 p
  rw [e, nI_add]
theorem tg_5p (p : Nat) : 5 * nI p = nI (5 * p) := pk_mul 5 p
theorem tg_p6 (p : Nat) : nI p + 6 = nI (p + 6) := nI_add p 6
section XC
variable {bk : Int32} {lv : Int32} {ds : Int32} {fk : Int32} {lo : Int32} {ex : Int32} {ht : Int32} {vt : Int32} {vv : Int64} {rc : Int32} {rr : Int64} {ls : Nat → Int32} {eT : Nat → Int32} {eV : Nat → Int64} {rN : Nat → Int32} {rC : Nat → Int32} {rR : Nat → Int64} {dO : Nat → Int32} {dC : Nat → Int64} {tS : Nat → Int32} {tO : Nat → Int32} {tC : Nat → Int64} {re : Nat → Int32} {qN : Nat → Int32} {qT : Nat → Int32} {qK : Nat → Int32} {qA : Nat → Int32} {an : Nat → Int32} {cR : Nat → Int64} {sk : Nat → Int64} {vh : Int32} {vw : Int64} {oc : Int64} {li : Nat → Int32} {ll : Nat → Int32} {sz : Nat → Int32} {va : Nat → Int64} {yo : Nat → Int32} {yg : Nat → Int64} {le : Nat → Int32} {pa : Nat → Int32} {st : Nat → Int64} {on : Nat → Int32} {wa : Nat → Int32}
theorem tx_lose {post : SX → Prop} {p L b : Nat} (hp : p < 6) (hL : L < 32) (hb : b ≤ 2)
    (h : post ((nI b), (nI L), ds, fk, (lo + 1), ex, ht, vt, vv, rc, rr, (upd ls p (nI (tg_pk ((tg_w p L b 5).take 1)))), (tg_e3 eT p), (tg_v3 eV p), (tg_n3 rN p), rC, rR, dO, dC, tS, tO, tC, re, qN, qT, qK, qA, an, cR, sk)) :
    wpX_losePartition post ((nI b), (nI L), ds, fk, lo, ex, ht, vt, vv, rc, rr, ls, eT, eV, rN, rC, rR, dO, dC, tS, tO, tC, re, qN, qT, qK, qA, an, cR, sk) (nI p) := by
  have G := tg_w_G (p := p) (L := L) hb 5
  refine nm_e ⟨4, ?_⟩
  refine br_f (nI_ge (b := 18) (by omega) (by decide)) ⟨tg_vi rfl (by omega) (by decide), nm_r (tg_u rfl (by omega) tg_vb0) ⟨tg_vi rfl (by omega) (by decide), nm_r (tg_uL rfl (by omega) rfl) (nm_r (tg_p6 _) ?_)⟩⟩
  refine br_f (nI_ge (b := 18) (by omega) (by decide)) ⟨tg_vi rfl (by omega) (by decide), nm_r (tg_u rfl (by omega) tg_vb0) ⟨tg_vi rfl (by omega) (by decide), nm_r (tg_uL rfl (by omega) rfl) (nm_r (tg_p6 _) ?_)⟩⟩
  refine br_f (nI_ge (b := 18) (by omega) (by decide)) ⟨tg_vi rfl (by omega) (by decide), nm_r (tg_u rfl (by omega) tg_vb0) ⟨tg_vi rfl (by omega) (by decide), nm_r (tg_uL rfl (by omega) rfl) (nm_r (tg_p6 _) ?_)⟩⟩
  refine br_t (nI_le (a := 18) (by omega) (by omega)) ⟨4, ?_⟩
  refine br_f (by decide) ⟨tg_vi (tg_i3 p 0) (by omega) (by decide), nm_r (tg_u (tg_i3 p 0) (by omega) rfl) (nm_r (nI_1 0) ?_)⟩
  refine br_f (by decide) ⟨tg_vi (tg_i3 p 1) (by omega) (by decide), nm_r (tg_u (tg_i3 p 1) (by omega) rfl) (nm_r (nI_1 1) ?_)⟩
  refine br_f (by decide) ⟨tg_vi (tg_i3 p 2) (by omega) (by decide), nm_r (tg_u (tg_i3 p 2) (by omega) rfl) (nm_r (nI_1 2) ?_)⟩
  refine br_t (by decide) (tx_wl hp hL hb (tx_fa G.1 G.lt ⟨vp_in_nI hp (by decide), nm_r (tg_u rfl (by omega) rfl) ?_⟩))
  exact h
/-- what a member's going does, pure -/
def tg_lz (g : Nat → List Nat) (m : Nat) (p : Nat) : Bool := (tg_fl (g p) m 3).isEmpty
def tg_g' (g : Nat → List Nat) (m L b : Nat) (p : Nat) : List Nat := if tg_lz g m p = true then (tg_w p L b 5).take 1 else tg_fl (g p) m 3
def tg_dE (z : Nat → Bool) (a : Nat → Int32) : Nat → Nat → Int32
  | 0 => a
  | p + 1 => if z p = true then tg_e3 (tg_dE z a p) p else tg_dE z a p
def tg_dV (z : Nat → Bool) (a : Nat → Int64) : Nat → Nat → Int64
  | 0 => a
  | p + 1 => if z p = true then tg_v3 (tg_dV z a p) p else tg_dV z a p
def tg_dN (z : Nat → Bool) (a : Nat → Int32) : Nat → Nat → Int32
  | 0 => a
  | p + 1 => if z p = true then tg_n3 (tg_dN z a p) p else tg_dN z a p
def tg_dL (z : Nat → Bool) (a : Int32) : Nat → Int32
  | 0 => a
  | p + 1 => if z p = true then tg_dL z a p + 1 else tg_dL z a p
def tg_LX (g : Nat → List Nat) (ls : Nat → Int32) : Prop := ∀ p, p < 6 → ls p = nI (tg_pk (g p))
def tg_LY (g : Nat → List Nat) (ll sz : Nat → Int32) : Prop := ∀ p, p < 6 → sz p = nI (g p).length ∧ ∀ j, j < (g p).length → ll (5 * p + j) = nI ((g p).getD j 0)
def tg_LI (L : Nat) (li : Nat → Int32) : Prop := ∀ m, m < 5 → li m = if L.testBit m = true then 1 else 0
def tg_mix (p : Nat) (g' g : Nat → List Nat) (q : Nat) : List Nat := if q < p then g' q else g q
theorem tg_mix_lt {p q : Nat} {g' g : Nat → List Nat} (h : q < p) : tg_mix p g' g q = g' q := if_pos h
theorem tg_mix_ge {p q : Nat} {g' g : Nat → List Nat} (h : ¬ q < p) : tg_mix p g' g q = g q := if_neg h
theorem tg_lx_s {p : Nat} {g' g : Nat → List Nat} {ls : Nat → Int32} {v : Int32} (h : tg_LX (tg_mix p g' g) ls) (hv : v = nI (tg_pk (g' p))) : tg_LX (tg_mix (p + 1) g' g) (upd ls p v) := by
  intro q hq
  by_cases e : q = p
  · subst e
    rw [pk_us, tg_mix_lt (by omega)]
    exact hv
  · rw [pk_un e, h q hq]
    by_cases z : q < p
    · rw [tg_mix_lt z, tg_mix_lt (by omega)]
    · rw [tg_mix_ge z, tg_mix_ge (by omega)]
theorem tg_uu {f : Nat → Int32} {k : Nat} {x y : Int32} : upd (upd f k x) k y = upd f k y := by
  funext j
  unfold upd
  by_cases e : j = k
  · rw [if_pos e, if_pos e]
  · rw [if_neg e, if_neg e, if_neg e]
theorem tg_lz_t {g : Nat → List Nat} {m p : Nat} (h : tg_fl (g p) m 3 = []) : tg_lz g m p = true := by unfold tg_lz; rw [h]; rfl
theorem tg_lz_f {g : Nat → List Nat} {m p : Nat} (h : ¬ tg_fl (g p) m 3 = []) : ¬ tg_lz g m p = true := by
  intro z; unfold tg_lz at z; exact h (List.isEmpty_iff.mp z)
theorem tx_dr_l {post : SX → Prop} {m L b : Nat} {g : Nat → List Nat} (hm : m < 5) (hL : L < 32) (hb : b ≤ 2)
    (hg : ∀ p, p < 6 → (g p).length ≤ 3 ∧ ∀ x, x ∈ g p → x < 5)
    (h : ∀ ls, tg_LX (tg_g' g m L b) ls → post ((nI b), (nI L), ds, fk, (tg_dL (tg_lz g m) lo 6), ex, ht, vt, vv, rc, rr, ls, (tg_dE (tg_lz g m) eT 6), (tg_dV (tg_lz g m) eV 6), (tg_dN (tg_lz g m) rN 6), rC, rR, dO, dC, tS, tO, tC, re, qN, qT, qK, qA, an, cR, sk)) :
    ∀ d p n ls, p + d = 6 → d < n → tg_LX (tg_mix p (tg_g' g m L b) g) ls → wX_dropOut_16 post (nI m) n (nI p) (nI b) (nI L) ds fk (tg_dL (tg_lz g m) lo p) ex ht vt vv rc rr ls (tg_dE (tg_lz g m) eT p) (tg_dV (tg_lz g m) eV p) (tg_dN (tg_lz g m) rN p) rC rR dO dC tS tO tC re qN qT qK qA an cR sk := by
  intro d
  induction d with
  | zero =>
    intro p n ls hp hn hls
    obtain ⟨n, rfl⟩ : ∃ k, n = k + 1 := ⟨n - 1, by omega⟩
    obtain rfl : p = 6 := by omega
    refine br_t (nI_le (a := 6) (b := 6) (by omega) (by decide)) (h ls ?_)
    intro q hq
    rw [hls q hq, tg_mix_lt hq]
  | succ d ih =>
    intro p n ls hp hn hls
    obtain ⟨n, rfl⟩ : ∃ k, n = k + 1 := ⟨n - 1, by omega⟩
    have p6 : p < 6 := by omega
    have cl : (nI p).toNatClampNeg = p := nI_clamp (by omega)
    have hp0 := hls p p6
    rw [tg_mix_ge (by omega)] at hp0
    refine br_f (nI_ge (b := 6) (by omega) (by decide)) ⟨vp_in_nI p6 (by decide), ?_⟩
    rw [cl, hp0]
    refine tx_lw (hg p p6).1 (hg p p6).2 hm ⟨vp_in_nI p6 (by decide), nm_e ⟨vp_in_nI p6 (by decide), ?_⟩⟩
    rw [pk_us]
    have hm5 : ∀ x, x ∈ tg_fl (g p) m 3 → x < 5 := fun x hx => (hg p p6).2 x (tg_fl_mem _ _ _ x hx).1
    have pl := tg_pk_lt (tg_fl_len (g p) m 3) hm5
    by_cases c : tg_fl (g p) m 3 = []
    · have z := tg_lz_t (g := g) c
      have I := ih (p + 1) n (upd ls p (nI (tg_pk ((tg_w p L b 5).take 1)))) (by omega) (by omega) (tg_lx_s hls (by unfold tg_g'; rw [if_pos z]))
      unfold tg_dL tg_dE tg_dV tg_dN at I
      rw [if_pos z, if_pos z, if_pos z, if_pos z] at I
      refine br_t (by rw [c]; rfl) (tx_lose p6 hL hb (nm_r (nI_1 p) ?_))
      rw [tg_uu]
      exact I
    · have z := tg_lz_f (g := g) c
      have I := ih (p + 1) n (upd ls p (nI (tg_pk (tg_fl (g p) m 3)))) (by omega) (by omega) (tg_lx_s hls (by unfold tg_g'; rw [if_neg z]))
      unfold tg_dL tg_dE tg_dV tg_dN at I
      rw [if_neg z, if_neg z, if_neg z, if_neg z] at I
      refine br_f (fun e => c (tg_pk_0.mp ((nI_eq (b := 0) (by omega) (by decide)).mp e))) (nm_r (nI_1 p) I)
theorem tx_dr {post : SX → Prop} {m L b : Nat} {g : Nat → List Nat} (hm : m < 5) (hL : L < 32) (hb : b ≤ 2)
    (hg : ∀ p, p < 6 → (g p).length ≤ 3 ∧ ∀ x, x ∈ g p → x < 5) (hls : tg_LX g ls)
    (h : ∀ ls, tg_LX (tg_g' g m (tg_del L m) b) ls → post ((nI b), (nI (tg_del L m)), ds, fk, (tg_dL (tg_lz g m) lo 6), ex, ht, vt, vv, rc, rr, ls, (tg_dE (tg_lz g m) eT 6), (tg_dV (tg_lz g m) eV 6), (tg_dN (tg_lz g m) rN 6), rC, rR, dO, dC, tS, tO, tC, re, qN, qT, qK, qA, an, cR, sk)) :
    wpX_dropOut post ((nI b), (nI L), ds, fk, lo, ex, ht, vt, vv, rc, rr, ls, eT, eV, rN, rC, rR, dO, dC, tS, tO, tC, re, qN, qT, qK, qA, an, cR, sk) (nI m) := by
  refine nm_r (tg_an L hL m hm) ⟨7, ?_⟩
  exact tx_dr_l hm (tg_anb L hL m hm).1 hb hg h 6 0 7 ls (by omega) (by omega) (fun q hq => by rw [tg_mix_ge (by omega)]; exact hls q hq)
end XC
