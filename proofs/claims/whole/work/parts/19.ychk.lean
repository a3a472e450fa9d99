/-! 19: the check of a draft, Y (begun by gendepy.py) -/
def tg_ch (o : Nat) : Int32 := if o < 4 ∨ o = 15 then 1 else if o ≤ 14 ∨ o = 17 ∨ o = 18 ∨ o = 21 then -1 else 0
def tg_ye (o d : Nat) : Nat := if o = 23 then d else tg_e o d
section YK
variable {bk : Int32} {lv : Int32} {ds : Int32} {fk : Int32} {lo : Int32} {ex : Int32} {ht : Int32} {vt : Int32} {vv : Int64} {rc : Int32} {rr : Int64} {ls : Nat → Int32} {eT : Nat → Int32} {eV : Nat → Int64} {rN : Nat → Int32} {rC : Nat → Int32} {rR : Nat → Int64} {dO : Nat → Int32} {dC : Nat → Int64} {tS : Nat → Int32} {tO : Nat → Int32} {tC : Nat → Int64} {re : Nat → Int32} {qN : Nat → Int32} {qT : Nat → Int32} {qK : Nat → Int32} {qA : Nat → Int32} {an : Nat → Int32} {cR : Nat → Int64} {sk : Nat → Int64} {vh : Int32} {vw : Int64} {oc : Int64} {li : Nat → Int32} {ll : Nat → Int32} {sz : Nat → Int32} {va : Nat → Int64} {yo : Nat → Int32} {yg : Nat → Int64} {le : Nat → Int32} {pa : Nat → Int32} {st : Nat → Int64} {on : Nat → Int32} {wa : Nat → Int32} {n : Nat} {w : Nat → Nat}
theorem ty_tk {post : Int32 → Prop} {o : Nat} (ho : o < 24) (h : post (nI (tg_tk o))) : wpY_takes post (bk, fk, lo, ex, vh, vw, oc, li, ll, sz, eT, va, rN, rC, rR, yo, yg, le, pa, st, qN, qT, qK, qA, on, cR, wa) (nI o) := by
  by_cases b : 4 ≤ o ∧ o ≤ 14
  · rw [tg_tk_b b] at h
    exact br_f (nI_nlt (b := 4) b.1 (by omega)) (br_t (nI_le (b := 14) b.2 (by decide)) h)
  · rcases tg_nb ho b with rfl | rfl | rfl | rfl | rfl | rfl | rfl | rfl | rfl | rfl | rfl | rfl | rfl
    · exact br_t (by decide) (br_f (by decide) (br_f (by decide) (br_f (by decide) (br_f (by decide) (br_f (by decide) (br_f (by decide) (h)))))))
    · exact br_t (by decide) (br_f (by decide) (br_f (by decide) (br_f (by decide) (br_f (by decide) (br_f (by decide) (br_f (by decide) (h)))))))
    · exact br_t (by decide) (br_f (by decide) (br_f (by decide) (br_f (by decide) (br_f (by decide) (br_f (by decide) (br_f (by decide) (h)))))))
    · exact br_t (by decide) (br_f (by decide) (br_f (by decide) (br_f (by decide) (br_f (by decide) (br_f (by decide) (br_f (by decide) (h)))))))
    · exact br_f (by decide) (br_f (by decide) (br_f (by decide) (br_t (by decide) (h))))
    · exact br_f (by decide) (br_f (by decide) (br_t (by decide) (h)))
    · exact br_f (by decide) (br_f (by decide) (br_f (by decide) (br_f (by decide) (br_t (by decide) (h)))))
    · exact br_f (by decide) (br_f (by decide) (br_f (by decide) (br_f (by decide) (br_f (by decide) (br_t (by decide) (h))))))
    · exact br_f (by decide) (br_f (by decide) (br_f (by decide) (br_f (by decide) (br_f (by decide) (br_f (by decide) (br_f (by decide) (br_f (by decide) (h))))))))
    · exact br_f (by decide) (br_f (by decide) (br_f (by decide) (br_f (by decide) (br_f (by decide) (br_f (by decide) (br_f (by decide) (br_f (by decide) (h))))))))
    · exact br_f (by decide) (br_f (by decide) (br_f (by decide) (br_f (by decide) (br_f (by decide) (br_f (by decide) (br_t (by decide) (h)))))))
    · exact br_f (by decide) (br_f (by decide) (br_f (by decide) (br_f (by decide) (br_f (by decide) (br_f (by decide) (br_f (by decide) (br_f (by decide) (h))))))))
    · exact br_f (by decide) (br_f (by decide) (br_f (by decide) (br_f (by decide) (br_f (by decide) (br_f (by decide) (br_f (by decide) (br_t (by decide) (h))))))))
theorem ty_ch {post : Int32 → Prop} {o : Nat} (ho : o < 24) (h : post (tg_ch o)) : wpY_change post (bk, fk, lo, ex, vh, vw, oc, li, ll, sz, eT, va, rN, rC, rR, yo, yg, le, pa, st, qN, qT, qK, qA, on, cR, wa) (nI o) := by
  by_cases b : 4 ≤ o ∧ o ≤ 14
  · rw [show tg_ch o = -1 from by unfold tg_ch; rw [if_neg (by omega), if_pos (by omega)]] at h
    exact br_f (nI_nlt (b := 4) b.1 (by omega)) (br_f (tg_neI (b := 15) (by omega) (by omega) (by decide)) (br_t (nI_le (b := 14) b.2 (by decide)) h))
  · rcases tg_nb ho b with rfl | rfl | rfl | rfl | rfl | rfl | rfl | rfl | rfl | rfl | rfl | rfl | rfl
    · exact br_t (by decide) (h)
    · exact br_t (by decide) (h)
    · exact br_t (by decide) (h)
    · exact br_t (by decide) (h)
    · exact br_f (by decide) (br_t (by decide) (h))
    · exact br_f (by decide) (br_f (by decide) (br_f (by decide) (br_f (by decide) (br_f (by decide) (br_f (by decide) (h))))))
    · exact br_f (by decide) (br_f (by decide) (br_f (by decide) (br_t (by decide) (h))))
    · exact br_f (by decide) (br_f (by decide) (br_f (by decide) (br_f (by decide) (br_t (by decide) (h)))))
    · exact br_f (by decide) (br_f (by decide) (br_f (by decide) (br_f (by decide) (br_f (by decide) (br_f (by decide) (h))))))
    · exact br_f (by decide) (br_f (by decide) (br_f (by decide) (br_f (by decide) (br_f (by decide) (br_f (by decide) (h))))))
    · exact br_f (by decide) (br_f (by decide) (br_f (by decide) (br_f (by decide) (br_f (by decide) (br_t (by decide) (h))))))
    · exact br_f (by decide) (br_f (by decide) (br_f (by decide) (br_f (by decide) (br_f (by decide) (br_f (by decide) (h))))))
    · exact br_f (by decide) (br_f (by decide) (br_f (by decide) (br_f (by decide) (br_f (by decide) (br_f (by decide) (h))))))
theorem tg_m1s {d : Nat} (h : 1 ≤ d) : nI d + (-1) = nI (d - 1) := by
  obtain ⟨e, rfl⟩ : ∃ e, d = e + 1 := ⟨d - 1, by omega⟩
  exact pk_m1 e
theorem tg_ye_eq {o d : Nat} (ho : o < 24) (h : tg_tk o ≤ d) : nI d + tg_ch o = nI (tg_ye o d) := by
  unfold tg_ye tg_e
  by_cases b : 4 ≤ o ∧ o ≤ 14
  · rw [tg_tk_b b] at h
    rw [show tg_ch o = -1 from by unfold tg_ch; rw [if_neg (by omega), if_pos (by omega)], if_neg (by omega), tg_tk_b b, tg_gv_b b, tg_m1s (by omega)]
    exact congrArg nI (by omega)
  · rcases tg_nb ho b with rfl | rfl | rfl | rfl | rfl | rfl | rfl | rfl | rfl | rfl | rfl | rfl | rfl
    · exact nI_1 d
    · exact nI_1 d
    · exact nI_1 d
    · exact nI_1 d
    · have h1 : 1 ≤ d := h
      show nI d + 1 = nI (d - 1 + 2)
      rw [nI_1]; exact congrArg nI (by omega)
    · have h1 : 2 ≤ d := h
      show nI d + nI 0 = nI (d - 2 + 2)
      rw [nI_add]; exact congrArg nI (by omega)
    · have h1 : 1 ≤ d := h
      show nI d + (-1) = nI (d - 1 + 0)
      exact tg_m1s h1
    · have h1 : 1 ≤ d := h
      show nI d + (-1) = nI (d - 1 + 0)
      exact tg_m1s h1
    · show nI d + nI 0 = nI (d - 0 + 0)
      rw [nI_add]; exact congrArg nI (by omega)
    · show nI d + nI 0 = nI (d - 0 + 0)
      rw [nI_add]; exact congrArg nI (by omega)
    · have h1 : 1 ≤ d := h
      show nI d + (-1) = nI (d - 1 + 0)
      exact tg_m1s h1
    · show nI d + nI 0 = nI (d - 0 + 0)
      rw [nI_add]; exact congrArg nI (by omega)
    · show nI d + nI 0 = nI d
      rw [nI_add]; exact congrArg nI (by omega)
theorem tg_ye4 {o d : Nat} (hd : d < 5) : tg_ye o d ≤ 4 ↔ tg_e o d ≤ 4 := by
  unfold tg_ye
  by_cases c : o = 23
  · subst c
    rw [if_pos rfl]
    have : tg_e 23 d = d - 1 + 0 := rfl
    omega
  · rw [if_neg c]
theorem tg_ye9 {o d : Nat} (hd : d < 5) : tg_ye o d < 9 := by
  have a := tg_gv_le o
  unfold tg_ye tg_e
  split <;> omega
/-- Y's draft -/
def tg_Dy (n : Nat) (w : Nat → Nat) (dC : Nat → Int64) (yo : Nat → Int32) (yg : Nat → Int64) (le : Nat → Int32) : Prop := le 4 = nI n ∧ ∀ i, i < n → w i < 24 ∧ yo (64 + i) = nI (w i) ∧ yg (64 + i) = dC i
theorem tg_64 (i : Nat) : 64 + nI i = nI (64 + i) := nI_add 64 i
theorem ty_nx {post : Int32 → Prop} {i m : Nat} (hn : n ≤ 16) (hy : tg_Dy n w dC yo yg le) (hi : i < n) (hm : m < n) (h : post (tg_bi (tg_nx w dC i m))) : wpY_next post (bk, fk, lo, ex, vh, vw, oc, li, ll, sz, eT, va, rN, rC, rR, yo, yg, le, pa, st, qN, qT, qK, qA, on, cR, wa) (nI i) (lN m) := by
  obtain ⟨hl, hy2⟩ := hy
  obtain ⟨w24, e1, e2⟩ := hy2 i hi
  have i80 : vp_in (64 + nI i) 80 := tg_vi (tg_64 i) (by omega) (by decide)
  have c64 : (64 + nI i).toNatClampNeg = 64 + i := by rw [tg_64, nI_clamp (by omega)]
  have ei : (nI i + 1).toInt64 = lN (i + 1) := by rw [nI_1, nI_l (by omega)]
  have em : lN m = lN (i + 1) ↔ m = i + 1 := pk_lEQ (by omega) (by omega)
  have j46 : (w i = 20 ∨ w i = 21 → ¬ lN m = dC i) → wY_next_46 post (nI i) (lN m) (nI (w i)) bk fk lo ex vh vw oc li ll sz eT va rN rC rR yo yg le pa st qN qT qK qA on cR wa := by
    intro nj
    by_cases c20 : w i = 20
    · refine br_t (by rw [c20]; rfl) (tg_bi_f h (fun z => ?_))
      rcases tg_nx_iff.mp z with y | y
      · exact y.1 c20
      · exact nj y.1 y.2.symm
    refine br_f (tg_neI (b := 20) c20 (by omega) (by decide)) ?_
    by_cases c22 : 22 ≤ w i
    · refine br_t (nI_le (a := 22) c22 (by omega)) (tg_bi_f h (fun z => ?_))
      have := tg_nx_iff.mp z
      omega
    refine br_f (nI_ge (b := 22) (by omega) (by decide)) ?_
    rw [ei]
    by_cases c : m = i + 1
    · exact br_t (em.mpr c) (tg_bi_t h (tg_nx_iff.mpr (Or.inl ⟨c20, by omega, c⟩)))
    · refine br_f (fun z => c (em.mp z)) (tg_bi_f h (fun z => ?_))
      rcases tg_nx_iff.mp z with y | y
      · exact c y.2.2
      · exact nj y.1 y.2.symm
  have j32 : w i = 20 ∨ w i = 21 → wY_next_32 post (nI i) (lN m) (nI (w i)) bk fk lo ex vh vw oc li ll sz eT va rN rC rR yo yg le pa st qN qT qK qA on cR wa := by
    intro c
    refine ⟨i80, ?_⟩
    rw [c64, e2]
    by_cases d : lN m = dC i
    · exact br_t d (tg_bi_t h (tg_nx_iff.mpr (Or.inr ⟨c, d.symm⟩)))
    · exact br_f d (j46 (fun _ => d))
  refine ⟨i80, nm_r (e' := nI (w i)) (by rw [c64]; exact e1) ?_⟩
  by_cases c22 : 22 ≤ w i
  · exact br_t (nI_le (a := 22) c22 (by omega)) (j46 (fun z => by omega))
  refine br_f (nI_ge (b := 22) (by omega) (by decide)) ?_
  by_cases c20 : w i = 20
  · exact br_t (by rw [c20]; rfl) (j32 (Or.inl c20))
  refine br_f (tg_neI (b := 20) c20 (by omega) (by decide)) ?_
  by_cases c21 : w i = 21
  · exact br_t (by rw [c21]; rfl) (j32 (Or.inr c21))
  exact br_f (tg_neI (b := 21) c21 (by omega) (by decide)) (j46 (fun z => by omega))
theorem ty_106 {post : SY → Prop} {J31 J39 : Int32 → (Nat → Int32) → (Nat → Int32) → (Nat → Int32) → (Nat → Int32) → (Nat → Int64) → (Nat → Int32) → (Nat → Int32) → (Nat → Int64) → (Nat → Int32) → (Nat → Int64) → (Nat → Int32) → (Nat → Int32) → (Nat → Int64) → (Nat → Int32) → (Nat → Int32) → (Nat → Int32) → (Nat → Int32) → (Nat → Int32) → (Nat → Int64) → (Nat → Int32) → Prop} {x1 : Int32} {k d4 : Nat} {P : Nat → Prop} (hn : n ≤ 16) (hy : tg_Dy n w dC yo yg le) (hk : k < 5 * n) (h4 : d4 ≤ 4)
    (hJ : ∀ pa, tg_A pa (fun q => P q ∨ (q / 5 < n ∧ tg_nx w dC (k / 5) (q / 5) = true ∧ q % 5 = d4)) → J39 (nI (k + 1)) li ll sz eT va rN rC rR yo yg le pa st qN qT qK qA on cR wa) :
    ∀ e m N pa, m + e = n → e < N → tg_A pa (fun q => P q ∨ (q / 5 < m ∧ tg_nx w dC (k / 5) (q / 5) = true ∧ q % 5 = d4)) → wY_spread_106 post J31 J39 x1 (nI k) (nI d4) bk fk lo ex vh vw oc N (nI m) li ll sz eT va rN rC rR yo yg le pa st qN qT qK qA on cR wa := by
  have e5 : nI k / 5 = nI (k / 5) := pk_div (d := 5) (by omega) (by decide) (by decide)
  intro e
  induction e with
  | zero =>
    intro m N pa hm hN hA
    obtain ⟨N, rfl⟩ : ∃ k, N = k + 1 := ⟨N - 1, by omega⟩
    obtain rfl : m = n := by omega
    exact br_t (by rw [hy.1]; exact nI_le (Nat.le_refl _) (by omega)) (nm_r (nI_1 k) (hJ pa hA))
  | succ e ih =>
    intro m N pa hm hN hA
    obtain ⟨N, rfl⟩ : ∃ k, N = k + 1 := ⟨N - 1, by omega⟩
    refine br_f (by rw [hy.1]; exact nI_ge (by omega) (by omega)) ⟨tg_d5, ?_⟩
    rw [e5, nI_l (by omega)]
    refine ty_nx hn hy (by omega) (by omega) ?_
    by_cases c : tg_nx w dC (k / 5) m = true
    · rw [c]
      refine br_f tg_d1 ⟨tg_vi (tg_5i m d4) (by omega) (by decide), nm_r (tg_u (tg_5i m d4) (by omega) tg_vb1) (nm_r (nI_1 m) (ih (m + 1) N _ (by omega) (by omega) (tg_A_c (tg_A_u hA) (fun q hq => ?_))))⟩
      constructor
      · rintro ((z | z) | z)
        · exact Or.inl z
        · exact Or.inr ⟨by omega, z.2⟩
        · refine Or.inr ⟨by omega, ?_, by omega⟩
          rw [show q / 5 = m from by omega]; exact c
      · rintro (z | ⟨z1, z2, z3⟩)
        · exact Or.inl (Or.inl z)
        · by_cases y : q / 5 = m
          · exact Or.inr (by omega)
          · exact Or.inl (Or.inr ⟨by omega, z2, z3⟩)
    · rw [tg_nf c]
      refine br_t rfl (nm_r (nI_1 m) (ih (m + 1) N _ (by omega) (by omega) (tg_A_c hA (fun q hq => ?_))))
      constructor
      · rintro (z | z)
        · exact Or.inl z
        · exact Or.inr ⟨by omega, z.2⟩
      · rintro (z | ⟨z1, z2, z3⟩)
        · exact Or.inl z
        · by_cases y : q / 5 = m
          · rw [y] at z2; exact absurd z2 c
          · exact Or.inr ⟨by omega, z2, z3⟩
theorem ty_39 {post : SY → Prop} {J31 : Int32 → (Nat → Int32) → (Nat → Int32) → (Nat → Int32) → (Nat → Int32) → (Nat → Int64) → (Nat → Int32) → (Nat → Int32) → (Nat → Int64) → (Nat → Int32) → (Nat → Int64) → (Nat → Int32) → (Nat → Int32) → (Nat → Int64) → (Nat → Int32) → (Nat → Int32) → (Nat → Int32) → (Nat → Int32) → (Nat → Int32) → (Nat → Int64) → (Nat → Int32) → Prop} {r : Nat} {S : Nat → Bool} (hn : n ≤ 16) (hy : tg_Dy n w dC yo yg le)
    (hJ : ∀ pa, tg_A pa (fun q => tg_r w dC n S (5 * n) q = true) → J31 (nI (r + 1)) li ll sz eT va rN rC rR yo yg le pa st qN qT qK qA on cR wa) :
    ∀ d k N pa, k + d = 5 * n → d < N → tg_A pa (fun q => tg_r w dC n S k q = true) → wY_spread_39 post J31 (nI r) bk fk lo ex vh vw oc N (nI k) li ll sz eT va rN rC rR yo yg le pa st qN qT qK qA on cR wa := by
  have l5 : 5 * le 4 = nI (5 * n) := by rw [hy.1]; exact tg_5p n
  intro d
  induction d with
  | zero =>
    intro k N pa hk hN hA
    obtain ⟨N, rfl⟩ : ∃ k, N = k + 1 := ⟨N - 1, by omega⟩
    obtain rfl : k = 5 * n := by omega
    exact br_t (by rw [l5]; exact nI_le (Nat.le_refl _) (by omega)) (nm_r (nI_1 r) (hJ pa hA))
  | succ d ih =>
    intro k N pa hk hN hA
    obtain ⟨N, rfl⟩ : ∃ k, N = k + 1 := ⟨N - 1, by omega⟩
    have k5 : k < 5 * n := by omega
    have i80 : vp_in (nI k) 80 := vp_in_nI (by omega) (by decide)
    have cl : (nI k).toNatClampNeg = k := nI_clamp (by omega)
    have e1 : nI k / 5 = nI (k / 5) := pk_div (d := 5) (by omega) (by decide) (by decide)
    have e2 : nI k - nI k / 5 * 5 = nI (k % 5) := pk_rem (d := 5) (by omega) (by decide) (by decide)
    have e64 : 64 + nI k / 5 = nI (64 + k / 5) := by rw [e1]; exact tg_64 _
    obtain ⟨w24, eo, eg⟩ := hy.2 (k / 5) (by omega)
    have d5 : k % 5 < 5 := Nat.mod_lt _ (by decide)
    have z := tg_A_0 hA (q := k) (by omega)
    have skip : (tg_r w dC n S k k = true → tg_fit (w (k / 5)) (k % 5) = true → False) → ∀ pa2, pa2 = pa → wY_spread_39 post J31 (nI r) bk fk lo ex vh vw oc N (nI (k + 1)) li ll sz eT va rN rC rR yo yg le pa2 st qN qT qK qA on cR wa := by
      intro y pa2 ep
      subst ep
      refine ih (k + 1) N _ (by omega) (by omega) (tg_A_c hA (fun q hq => ?_))
      show _ ↔ tg_s w dC n (tg_r w dC n S k) k q = true
      rw [tg_s_iff]
      exact ⟨Or.inl, fun x => x.elim id (fun x => absurd x.2.1 (y x.1))⟩
    refine br_f (by rw [l5]; exact nI_ge (by omega) (by omega)) ⟨tg_d5, tg_vi e64 (by omega) (by decide), nm_r (e' := nI (w (k / 5))) (by rw [e64, nI_clamp (by omega)]; exact eo) ⟨tg_d5, ty_ch w24 (nm_e ⟨i80, ?_⟩)⟩⟩
    rw [cl]
    by_cases hR : tg_r w dC n S k k = true
    · refine br_f (fun y => z.mp y hR) ⟨tg_d5, ty_tk w24 ?_⟩
      rw [e2]
      have tl := tg_tk_le (w (k / 5))
      by_cases c1 : tg_tk (w (k / 5)) ≤ k % 5
      · refine br_f (nI_nlt c1 (by omega)) ?_
        rw [tg_ye_eq w24 c1]
        have y9 := tg_ye9 (o := w (k / 5)) d5
        by_cases c2 : tg_ye (w (k / 5)) (k % 5) ≤ 4
        · have cf : tg_fit (w (k / 5)) (k % 5) = true := tg_fit_iff.mpr ⟨c1, (tg_ye4 d5).mp c2⟩
          refine br_t (nI_le (b := 4) c2 (by decide)) ⟨n + 1, ty_106 (P := fun q => tg_r w dC n S k q = true) hn hy k5 c2 (fun pa2 h2 => ih (k + 1) N pa2 (by omega) (by omega) (tg_A_c h2 (fun q hq => ?_))) n 0 _ pa (by omega) (by omega) (tg_A_c hA (fun q hq => ⟨Or.inl, fun x => x.elim id (fun x => absurd x.1 (by omega))⟩))⟩
          show _ ↔ tg_s w dC n (tg_r w dC n S k) k q = true
          rw [tg_s_iff]
          have yy : tg_nx w dC (k / 5) (q / 5) = true → tg_ye (w (k / 5)) (k % 5) = tg_e (w (k / 5)) (k % 5) := by
            intro x
            have := tg_nx_iff.mp x
            exact if_neg (by omega)
          constructor
          · rintro (x | ⟨x1, x2, x3⟩)
            · exact Or.inl x
            · exact Or.inr ⟨hR, cf, x1, x2, by rw [← yy x2]; exact x3⟩
          · rintro (x | ⟨x1, x2, x3, x4, x5⟩)
            · exact Or.inl x
            · exact Or.inr ⟨x3, x4, by rw [yy x4]; exact x5⟩
        · refine br_f (nI_ge (a := 4) (by omega) (by omega)) (nm_r (nI_1 k) (skip (fun _ y => c2 ((tg_ye4 d5).mpr (tg_fit_iff.mp y).2)) pa rfl))
      · exact br_t (nI_lt (by omega) (by omega)) (nm_r (nI_1 k) (skip (fun _ y => c1 (tg_fit_iff.mp y).1) pa rfl))
    · exact br_t (z.mpr hR) (nm_r (nI_1 k) (skip (fun y _ => hR y) pa rfl))
theorem ty_31 {post : SY → Prop} (hn : n ≤ 16) (hy : tg_Dy n w dC yo yg le)
    (h : ∀ pa, tg_A pa (fun q => tg_sp w dC n 80 q = true) → post (bk, fk, lo, ex, vh, vw, oc, li, ll, sz, eT, va, rN, rC, rR, yo, yg, le, pa, st, qN, qT, qK, qA, on, cR, wa)) :
    ∀ d r N pa, r + d = 80 → d < N → tg_A pa (fun q => tg_sp w dC n r q = true) → wY_spread_31 post bk fk lo ex vh vw oc N (nI r) li ll sz eT va rN rC rR yo yg le pa st qN qT qK qA on cR wa := by
  intro d
  induction d with
  | zero =>
    intro r N pa hr hN hA
    obtain ⟨N, rfl⟩ : ∃ k, N = k + 1 := ⟨N - 1, by omega⟩
    obtain rfl : r = 80 := by omega
    exact br_t (nI_le (a := 80) (b := 80) (by omega) (by decide)) (h pa hA)
  | succ d ih =>
    intro r N pa hr hN hA
    obtain ⟨N, rfl⟩ : ∃ k, N = k + 1 := ⟨N - 1, by omega⟩
    exact br_f (nI_ge (b := 80) (by omega) (by decide)) ⟨5 * n + 1, ty_39 (S := tg_sp w dC n r) hn hy (fun pa2 h2 => ih (r + 1) N pa2 (by omega) (by omega) h2) (5 * n) 0 _ pa (by omega) (by omega) hA⟩
theorem ty_2 {post : SY → Prop} (hn : n ≤ 16) (hy : tg_Dy n w dC yo yg le)
    (h : ∀ pa, tg_A pa (fun q => tg_sp w dC n 80 q = true) → post (bk, fk, lo, ex, vh, vw, oc, li, ll, sz, eT, va, rN, rC, rR, yo, yg, le, pa, st, qN, qT, qK, qA, on, cR, wa)) :
    ∀ d k N pa, k + d = 80 → d < N → (∀ q, q < k → pa q = if q = 0 then 1 else 0) → wY_spread_2 post bk fk lo ex vh vw oc N (nI k) li ll sz eT va rN rC rR yo yg le pa st qN qT qK qA on cR wa := by
  intro d
  induction d with
  | zero =>
    intro k N pa hk hN h0
    obtain ⟨N, rfl⟩ : ∃ k, N = k + 1 := ⟨N - 1, by omega⟩
    obtain rfl : k = 80 := by omega
    refine br_t (nI_le (a := 80) (b := 80) (by omega) (by decide)) ⟨81, ty_31 hn hy h 80 0 81 pa (by omega) (by omega) (fun q hq => ?_)⟩
    show (decide (q = 0) = true ∧ _) ∨ (¬ decide (q = 0) = true ∧ _)
    rw [h0 q hq]
    by_cases e : q = 0
    · exact Or.inl ⟨decide_eq_true e, if_pos e⟩
    · exact Or.inr ⟨by rw [decide_eq_true_eq]; exact e, if_neg e⟩
  | succ d ih =>
    intro k N pa hk hN h0
    obtain ⟨N, rfl⟩ : ∃ k, N = k + 1 := ⟨N - 1, by omega⟩
    have i80 : vp_in (nI k) 80 := vp_in_nI (by omega) (by decide)
    refine br_f (nI_ge (b := 80) (by omega) (by decide)) ?_
    by_cases c : k = 0
    · refine br_t (by rw [c]; rfl) ⟨i80, nm_r (tg_u rfl (by omega) tg_vb1) (nm_r (nI_1 k) (ih (k + 1) N _ (by omega) (by omega) (fun q hq => ?_)))⟩
      rw [show q = k from by omega, pk_us, if_pos c]
    · refine br_f (tg_neI (b := 0) c (by omega) (by decide)) ⟨i80, nm_r (tg_u rfl (by omega) tg_vb0) (nm_r (nI_1 k) (ih (k + 1) N _ (by omega) (by omega) (fun q hq => ?_)))⟩
      by_cases e : q = k
      · rw [e, pk_us, if_neg c]
      · rw [pk_un e]; exact h0 q (by omega)
theorem ty_sp {post : SY → Prop} (hn : n ≤ 16) (hy : tg_Dy n w dC yo yg le)
    (h : ∀ pa, tg_A pa (fun q => tg_sp w dC n 80 q = true) → post (bk, fk, lo, ex, vh, vw, oc, li, ll, sz, eT, va, rN, rC, rR, yo, yg, le, pa, st, qN, qT, qK, qA, on, cR, wa)) : wpY_spread post (bk, fk, lo, ex, vh, vw, oc, li, ll, sz, eT, va, rN, rC, rR, yo, yg, le, pa, st, qN, qT, qK, qA, on, cR, wa) :=
  ⟨81, ty_2 hn hy h 80 0 81 pa (by omega) (by omega) (fun q hq => absurd hq (by omega))⟩
theorem ty_out {post : Int32 → Prop} {i : Nat} (hn : n ≤ 16) (hy : tg_Dy n w dC yo yg le) (hi : i < n) (h : post (tg_bi (tg_out w dC n i))) : wpY_out post (bk, fk, lo, ex, vh, vw, oc, li, ll, sz, eT, va, rN, rC, rR, yo, yg, le, pa, st, qN, qT, qK, qA, on, cR, wa) (nI i) := by
  obtain ⟨hl, hy2⟩ := hy
  obtain ⟨w24, e1, e2⟩ := hy2 i hi
  have i80 : vp_in (64 + nI i) 80 := tg_vi (tg_64 i) (by omega) (by decide)
  have c64 : (64 + nI i).toNatClampNeg = 64 + i := by rw [tg_64, nI_clamp (by omega)]
  have j66 : (w i = 20 ∨ w i = 21 → tg_ind n (dC i) = true) → wY_out_66 post (nI i) (nI (w i)) bk fk lo ex vh vw oc li ll sz eT va rN rC rR yo yg le pa st qN qT qK qA on cR wa := by
    intro nj
    have nn : ∀ P : Prop, ((w i = 20 ∨ w i = 21) ∧ tg_ind n (dC i) = false) → P := fun P y => by
      have := nj y.1
      rw [y.2] at this
      exact absurd this (by decide)
    by_cases c20 : w i = 20
    · refine br_t (by rw [c20]; rfl) (tg_bi_f h (fun z => ?_))
      rcases tg_out_iff.mp z with y | y
      · exact nn _ y
      · exact y.1 c20
    refine br_f (tg_neI (b := 20) c20 (by omega) (by decide)) ?_
    by_cases c22 : 22 ≤ w i
    · refine br_t (nI_le (a := 22) c22 (by omega)) (tg_bi_f h (fun z => ?_))
      rcases tg_out_iff.mp z with y | y
      · exact nn _ y
      · omega
    refine br_f (nI_ge (b := 22) (by omega) (by decide)) ?_
    rw [hl, nI_1]
    by_cases c : i + 1 = n
    · exact br_t (by rw [c]) (tg_bi_t h (tg_out_iff.mpr (Or.inr ⟨c20, by omega, c⟩)))
    · refine br_f (tg_neI c (by omega) (by omega)) (tg_bi_f h (fun z => ?_))
      rcases tg_out_iff.mp z with y | y
      · exact nn _ y
      · exact c y.2.2
  have j27 : w i = 20 ∨ w i = 21 → wY_out_27 post (nI i) (nI (w i)) 1 bk fk lo ex vh vw oc li ll sz eT va rN rC rR yo yg le pa st qN qT qK qA on cR wa := by
    intro c
    refine br_f tg_d1 ⟨i80, ?_⟩
    rw [c64, e2]
    by_cases d0 : dC i < 0
    · refine br_t d0 (tg_bi_t h (tg_out_iff.mpr (Or.inl ⟨c, ?_⟩)))
      unfold tg_ind
      rw [decide_eq_false (Int64.not_le.mpr d0), Bool.false_and]
    · refine br_f d0 ⟨i80, ?_⟩
      rw [hl, nI_l (by omega)]
      by_cases d1 : lN n ≤ dC i
      · refine br_t d1 (tg_bi_t h (tg_out_iff.mpr (Or.inl ⟨c, ?_⟩)))
        unfold tg_ind
        rw [decide_eq_false (Int64.not_lt.mpr d1), Bool.and_false]
      · refine br_f d1 (j66 (fun _ => ?_))
        unfold tg_ind
        rw [decide_eq_true (Int64.not_lt.mp d0), decide_eq_true (Int64.not_le.mp d1)]
        rfl
  refine ⟨i80, nm_r (e' := nI (w i)) (by rw [c64]; exact e1) ?_⟩
  by_cases c20 : w i = 20
  · exact br_t (by rw [c20]; rfl) (j27 (Or.inl c20))
  refine br_f (tg_neI (b := 20) c20 (by omega) (by decide)) ?_
  by_cases c21 : w i = 21
  · exact br_t (by rw [c21]; rfl) (j27 (Or.inr c21))
  exact br_f (tg_neI (b := 21) c21 (by omega) (by decide)) (br_t rfl (j66 (fun z => by omega)))
theorem ty_fa_l {post : Int32 → Prop} {i : Nat} {R : Nat → Bool} (hn : n ≤ 16) (hy : tg_Dy n w dC yo yg le) (hi : i < n) (hA : tg_A pa (fun q => R q = true)) (h : post (tg_bi (tg_f w dC n R i))) :
    ∀ e d N, d + e = 5 → e < N → wY_faulty_7 post (nI i) bk fk lo ex vh vw oc li ll sz eT va rN rC rR yo yg le pa st qN qT qK qA on cR wa N (nI (tg_h R i d)) (tg_bi (tg_b w R i d)) (nI d) := by
  obtain ⟨w24, e1, e2⟩ := hy.2 i hi
  have i80 : vp_in (64 + nI i) 80 := tg_vi (tg_64 i) (by omega) (by decide)
  have c64 : (64 + nI i).toNatClampNeg = 64 + i := by rw [tg_64, nI_clamp (by omega)]
  intro e
  induction e with
  | zero =>
    intro d N hd hN
    obtain ⟨N, rfl⟩ : ∃ k, N = k + 1 := ⟨N - 1, by omega⟩
    obtain rfl : d = 5 := by omega
    have hl := tg_h_le (R := R) (i := i) 5
    refine br_t (by decide) ?_
    unfold tg_f at h
    by_cases hb : tg_b w R i 5 = true
    · rw [hb] at h ⊢
      rw [Bool.true_or, Bool.true_or] at h
      exact br_f tg_d1 h
    rw [tg_nf hb] at h ⊢
    rw [Bool.false_or] at h
    refine br_t rfl ?_
    by_cases c1 : 1 < tg_h R i 5
    · rw [decide_eq_true c1, Bool.true_or] at h
      exact br_t (nI_lt (a := 1) c1 (by omega)) h
    · rw [decide_eq_false c1, Bool.false_or] at h
      refine br_f (nI_nlt (a := 1) (b := tg_h R i 5) (by omega) (by decide)) ?_
      by_cases c2 : 0 < tg_h R i 5
      · rw [decide_eq_true c2, Bool.true_and] at h
        refine br_f (nI_nle c2 (by omega)) (ty_out hn hy hi ?_)
        by_cases o : tg_out w dC n i = true
        · rw [o]; exact br_f tg_d1 (tg_bi_t h o)
        · rw [tg_nf o]; exact br_t rfl (tg_bi_f h o)
      · rw [decide_eq_false c2, Bool.false_and] at h
        exact br_t (nI_le (b := 0) (by omega) (by decide)) h
  | succ e ih =>
    intro d N hd hN
    obtain ⟨N, rfl⟩ : ∃ k, N = k + 1 := ⟨N - 1, by omega⟩
    have c5 : (5 * nI i + nI d).toNatClampNeg = 5 * i + d := by rw [tg_5i, nI_clamp (by omega)]
    have z := tg_A_0 hA (q := 5 * i + d) (by omega)
    have I := ih (d + 1) N (by omega) (by omega)
    refine br_f (nI_ge (b := 5) (by omega) (by decide)) ⟨tg_vi (tg_5i i d) (by omega) (by decide), ?_⟩
    rw [c5]
    by_cases hR : R (5 * i + d) = true
    · have hh : tg_h R i (d + 1) = tg_h R i d + 1 := by
        show tg_h R i d + (if R (5 * i + d) = true then 1 else 0) = _
        rw [if_pos hR]
      have hb2 : tg_b w R i (d + 1) = (tg_b w R i d || !tg_fit (w i) d) := by
        show (tg_b w R i d || (R (5 * i + d) && !tg_fit (w i) d)) = _
        rw [hR, Bool.true_and]
      rw [hh, hb2] at I
      have tl := tg_tk_le (w i)
      have bad : ¬ tg_fit (w i) d = true → tg_bi (tg_b w R i d || !tg_fit (w i) d) = 1 := fun y => by rw [tg_nf y, Bool.not_false, Bool.or_true]; rfl
      refine br_f (fun y => z.mp y hR) (nm_r (nI_1 _) ⟨i80, ?_⟩)
      rw [c64, e1]
      refine ty_tk w24 ?_
      by_cases c1 : tg_tk (w i) ≤ d
      · refine br_f (nI_nlt c1 (by omega)) ⟨i80, ty_ch w24 ?_⟩
        rw [tg_ye_eq w24 c1]
        have y9 := tg_ye9 (o := w i) (d := d) (by omega)
        by_cases c2 : tg_ye (w i) d ≤ 4
        · have cf : tg_fit (w i) d = true := tg_fit_iff.mpr ⟨c1, (tg_ye4 (by omega)).mp c2⟩
          rw [cf, Bool.not_true, Bool.or_false] at I
          exact br_t (nI_le (b := 4) c2 (by decide)) (nm_r (nI_1 d) I)
        · rw [bad (fun y => c2 ((tg_ye4 (by omega)).mpr (tg_fit_iff.mp y).2))] at I
          exact br_f (nI_ge (a := 4) (by omega) (by omega)) (nm_r (nI_1 d) I)
      · rw [bad (fun y => c1 (tg_fit_iff.mp y).1)] at I
        exact br_t (nI_lt (by omega) (by omega)) (nm_r (nI_1 d) I)
    · have hh : tg_h R i (d + 1) = tg_h R i d := by
        show tg_h R i d + (if R (5 * i + d) = true then 1 else 0) = _
        rw [if_neg hR]; omega
      have hb2 : tg_b w R i (d + 1) = tg_b w R i d := by
        show (tg_b w R i d || (R (5 * i + d) && !tg_fit (w i) d)) = _
        rw [tg_nf hR]; simp
      rw [hh, hb2] at I
      exact br_t (z.mpr hR) (nm_r (nI_1 d) I)
theorem ty_fa {post : Int32 → Prop} {i : Nat} {R : Nat → Bool} (hn : n ≤ 16) (hy : tg_Dy n w dC yo yg le) (hi : i < n) (hA : tg_A pa (fun q => R q = true)) (h : post (tg_bi (tg_f w dC n R i))) : wpY_faulty post (bk, fk, lo, ex, vh, vw, oc, li, ll, sz, eT, va, rN, rC, rR, yo, yg, le, pa, st, qN, qT, qK, qA, on, cR, wa) (nI i) :=
  ⟨6, ty_fa_l hn hy hi hA h 5 0 6 (by omega) (by omega)⟩
end YK
