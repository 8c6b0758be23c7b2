/-! the output that an event finds, both sides -/
theorem ed_gw_cg {M : Nat → Nat → Prop} {last : Nat} {Ty A T Ty' A' T' : Nat → Int32} {st N : Int32} {eq on e j : Nat} (hl : last ≤ 2) (hl1 : 1 ≤ last) (hj : j < e) (h : ∀ i, i ≤ e → Ty' i = Ty i ∧ A' i = A i ∧ T' i = T i) : ed_gw M last Ty' A' T' st N eq on e j = ed_gw M last Ty A T st N eq on e j := by
  have mm : ∀ k, j < k → k ≤ e → ed_mt M last Ty' A' T' st (eq = 1) N j k = ed_mt M last Ty A T st (eq = 1) N j k := fun k a b =>
    ed_mt_cg a hl hl1 (fun _ _ _ _ _ => Iff.rfl) (fun i hi => h i (by omega))
  have c : (on = 1 ∧ ∃ k, j < k ∧ k < e ∧ 0 < ed_mt M last Ty' A' T' st (eq = 1) N j k) ↔ (on = 1 ∧ ∃ k, j < k ∧ k < e ∧ 0 < ed_mt M last Ty A T st (eq = 1) N j k) := by
    constructor
    · rintro ⟨o, k, a, b, d⟩; exact ⟨o, k, a, b, by rw [← mm k a (by omega)]; exact d⟩
    · rintro ⟨o, k, a, b, d⟩; exact ⟨o, k, a, b, by rw [mm k a (by omega)]; exact d⟩
  unfold ed_gw
  rw [mm e hj (Nat.le_refl _)]
  rcases Classical.em (on = 1 ∧ ∃ k, j < k ∧ k < e ∧ 0 < ed_mt M last Ty A T st (eq = 1) N j k) with y | y
  · rw [if_pos y, if_pos (c.mpr y)]
  · rw [if_neg y, if_neg (fun q => y (c.mp q))]
section
variable {xl xw xk : Int32} {xP xL xF xQ xT xA xB xC xM xG kF kQ kT kA kB kC kM kG xS xZ : Nat → Int32}
variable {fT fL fK fW fB fH fO : Int32} {aT aL aQ aE aG aKQ aKE aKG aW aS aM aV aZ aB : Nat → Int32}
theorem yd_w {s e c : Nat} {post : SY → Prop} {fH' fO' : Int32} {V Z : Nat → Int32} (hs : s < 6) (hc : c ≤ 3) (c20 : aQ (100 * s + 20) = nI c) (q0 : aQ (100 * s) = 1) (w : ∀ post : SY → Prop, post (fT, fL, fK, fW, fB, fH', fO', aT, aL, aQ, aE, aG, aKQ, aKE, aKG, aW, aS, aM, V, Z, aB) → wpY_windowOf post (fT, fL, fK, fW, fB, fH, fO, aT, aL, aQ, aE, aG, aKQ, aKE, aKG, aW, aS, aM, aV, aZ, aB) (nI s) (nI e)) (t : wY_ask_137 post (nI s) fT fL fK fW fB fH' fO' aT aL aQ aE aG aKQ aKE aKG aW aS aM V Z aB) : wY_ask_12 post (nI s) (nI e) 1 (nI c) fT fL fK fW fB fH fO aT aL aQ aE aG aKQ aKE aKG aW aS aM aV aZ aB := by
  have w20 := ed_y s 20 hs (by omega)
  have d20 : (100 * nI s + 20).toNatClampNeg = 100 * s + 20 := w20.2
  have w0 := ed_y0 s hs
  refine ⟨w20.1, br_t (by rw [d20, c20]; exact nI_le (Nat.le_refl _) (by omega)) ⟨w0.1, br_t (by rw [w0.2]; exact q0) (w _ ⟨w0.1, br_f (by rw [w0.2, q0]; decide) ⟨w0.1, br_f (by rw [w0.2, q0]; decide) t⟩⟩)⟩⟩
theorem yd_p {s e c : Nat} {post : SY → Prop} {fH' fO' : Int32} {B : Nat → Int32} (hs : s < 6) (hc : c ≤ 3) (c20 : aQ (100 * s + 20) = nI c) (q0 : aQ (100 * s) = 2) (w : ∀ post : SY → Prop, post (fT, fL, fK, fW, fB, fH', fO', aT, aL, aQ, aE, aG, aKQ, aKE, aKG, aW, aS, aM, aV, aZ, B) → wpY_patternOf post (fT, fL, fK, fW, fB, fH, fO, aT, aL, aQ, aE, aG, aKQ, aKE, aKG, aW, aS, aM, aV, aZ, aB) (nI s) (nI e)) (t : wY_ask_137 post (nI s) fT fL fK fW fB fH' fO' aT aL aQ aE aG aKQ aKE aKG aW aS aM aV aZ B) : wY_ask_12 post (nI s) (nI e) 1 (nI c) fT fL fK fW fB fH fO aT aL aQ aE aG aKQ aKE aKG aW aS aM aV aZ aB := by
  have w20 := ed_y s 20 hs (by omega)
  have d20 : (100 * nI s + 20).toNatClampNeg = 100 * s + 20 := w20.2
  have w0 := ed_y0 s hs
  refine ⟨w20.1, br_t (by rw [d20, c20]; exact nI_le (Nat.le_refl _) (by omega)) ⟨w0.1, br_f (by rw [w0.2, q0]; decide) ⟨w0.1, br_t (by rw [w0.2]; exact q0) (w _ ⟨w0.1, br_f (by rw [w0.2, q0]; decide) t⟩)⟩⟩⟩
theorem yd_j {s e c : Nat} {post : SY → Prop} {fH' fO' : Int32} (hs : s < 6) (hc : c ≤ 3) (c20 : aQ (100 * s + 20) = nI c) (q0 : aQ (100 * s) = 3) (w : ∀ post : SY → Prop, post (fT, fL, fK, fW, fB, fH', fO', aT, aL, aQ, aE, aG, aKQ, aKE, aKG, aW, aS, aM, aV, aZ, aB) → wpY_joinOf post (fT, fL, fK, fW, fB, fH, fO, aT, aL, aQ, aE, aG, aKQ, aKE, aKG, aW, aS, aM, aV, aZ, aB) (nI s) (nI e)) (t : wY_ask_137 post (nI s) fT fL fK fW fB fH' fO' aT aL aQ aE aG aKQ aKE aKG aW aS aM aV aZ aB) : wY_ask_12 post (nI s) (nI e) 1 (nI c) fT fL fK fW fB fH fO aT aL aQ aE aG aKQ aKE aKG aW aS aM aV aZ aB := by
  have w20 := ed_y s 20 hs (by omega)
  have d20 : (100 * nI s + 20).toNatClampNeg = 100 * s + 20 := w20.2
  have w0 := ed_y0 s hs
  refine ⟨w20.1, br_t (by rw [d20, c20]; exact nI_le (Nat.le_refl _) (by omega)) ⟨w0.1, br_f (by rw [w0.2, q0]; decide) ⟨w0.1, br_f (by rw [w0.2, q0]; decide) ⟨w0.1, br_t (by rw [w0.2]; exact q0) (w _ t)⟩⟩⟩⟩
theorem xd_1 {s e : Nat} {post : Int64 → SX → Prop} (hs : s < 6) (q0 : xQ (99 * s) = 1) (h : wpX_findWindowOutput post (xl, xw, xk, xP, xL, xF, xQ, xT, xA, xB, xC, xM, xG, kF, kQ, kT, kA, kB, kC, kM, kG, xS, xZ) (nI s) (nI e)) : wpX_findOutput post (xl, xw, xk, xP, xL, xF, xQ, xT, xA, xB, xC, xM, xG, kF, kQ, kT, kA, kB, kC, kM, kG, xS, xZ) (nI s) (nI e) := by
  have w0 := ed_x s 0 hs (by omega)
  have c0 : (nI s * 99 + 0).toNatClampNeg = 99 * s := w0.2
  exact ⟨w0.1, nm_r (e' := 1) (by rw [c0]; exact q0) (br_f (by decide) (br_f (by decide) (br_t rfl h)))⟩
theorem xd_2 {s e : Nat} {post : Int64 → SX → Prop} (hs : s < 6) (q0 : xQ (99 * s) = 2) (h : wpX_findPatternOutput post (xl, xw, xk, xP, xL, xF, xQ, xT, xA, xB, xC, xM, xG, kF, kQ, kT, kA, kB, kC, kM, kG, xS, xZ) (nI s) (nI e)) : wpX_findOutput post (xl, xw, xk, xP, xL, xF, xQ, xT, xA, xB, xC, xM, xG, kF, kQ, kT, kA, kB, kC, kM, kG, xS, xZ) (nI s) (nI e) := by
  have w0 := ed_x s 0 hs (by omega)
  have c0 : (nI s * 99 + 0).toNatClampNeg = 99 * s := w0.2
  exact ⟨w0.1, nm_r (e' := 2) (by rw [c0]; exact q0) (br_f (by decide) (br_f (by decide) (br_f (by decide) (br_t rfl h))))⟩
theorem xd_3 {s e : Nat} {post : Int64 → SX → Prop} (hs : s < 6) (q0 : xQ (99 * s) = 3) (h : wpX_findJoinOutput (fun r => post r (xl, xw, xk, xP, xL, xF, xQ, xT, xA, xB, xC, xM, xG, kF, kQ, kT, kA, kB, kC, kM, kG, xS, xZ)) (xl, xw, xk, xP, xL, xF, xQ, xT, xA, xB, xC, xM, xG, kF, kQ, kT, kA, kB, kC, kM, kG, xS, xZ) (nI s) (nI e)) : wpX_findOutput post (xl, xw, xk, xP, xL, xF, xQ, xT, xA, xB, xC, xM, xG, kF, kQ, kT, kA, kB, kC, kM, kG, xS, xZ) (nI s) (nI e) := by
  have w0 := ed_x s 0 hs (by omega)
  have c0 : (nI s * 99 + 0).toNatClampNeg = 99 * s := w0.2
  exact ⟨w0.1, nm_r (e' := 3) (by rw [c0]; exact q0) (br_f (by decide) (br_f (by decide) (br_f (by decide) (br_f (by decide) (br_t rfl h)))))⟩
/-- what the began bits may have become -/
def ed_GG (s e f c hi : Nat) (xQ xT xA xB xC xG G : Nat → Int32) : Prop :=
  (∀ j, e ≤ j → j < hi → bt (G j) s = bt (xG j) s) ∧ (∀ i l, l ≠ s → bt (G i) l = bt (xG i) l) ∧ (∀ eq on : Nat, xQ (99 * s) = 2 → eq ≤ 1 → on ≤ 1 → xQ (99 * s + 7) = nI eq → xQ (99 * s + 8) = nI on → ∀ j, f ≤ j → j < e → (bt (G j) s = true ↔ (bt (xG j) s = true ∨ 0 < ed_wt (ed_M (fun j => xQ (99 * s + j)) xT xA xB xC) (c - 1) xT xA xC (xQ (99 * s + 6)) (xQ (99 * s + 1)) eq on (fun j => bt (xG j) s = true) e j)))
theorem xy_find {s e f g c r hi : Nat} {tn : Nat → Nat} {mb0 : Nat → Nat → Bool} (hs : s < 6) (he : e < hi) (hi64 : hi ≤ 64) (e0 : xQ (99 * s) = aQ (100 * s)) (H : ed_Qs f g c r e hi (fun j => xQ (99 * s + j)) (fun j => aQ (100 * s + j)) xT xA xB xC mb0 (fun i => bt (xG i) s)) (EV : ∀ j, j ≤ e → aE (4 * j) = xT j ∧ aE (4 * j + 1) = xA j ∧ aE (4 * j + 2) = xB j ∧ aE (4 * j + 3) = xC j) (HT : ∀ j, j ≤ e → xC j = nI (tn j)) (Hmo : ∀ a b, a ≤ b → b ≤ e → tn a ≤ tn b) (Hb : tn e < 2 ^ 30) (HB : ∀ w i, w < c → f ≤ i → i ≤ e → (bt (xM i) (3 * s + w) = true ↔ ed_M (fun j => xQ (99 * s + j)) xT xA xB xC w i)) (HM : ∀ w j, w < c → f ≤ j → j ≤ e → aM (64 * w + j) = ed_bi (ed_M (fun j => xQ (99 * s + j)) xT xA xB xC w j)) : ∃ (hit : Prop) (fo : Int32), (∀ post : Int64 → SX → Prop, (∀ G Z, ed_GG s e f c hi xQ xT xA xB xC xG G → ((hit → post fo.toInt64 (xl, xw, xk, xP, xL, xF, xQ, xT, xA, xB, xC, xM, G, kF, kQ, kT, kA, kB, kC, kM, kG, xS, Z)) ∧ (¬ hit → post 1099511627776 (xl, xw, xk, xP, xL, xF, xQ, xT, xA, xB, xC, xM, G, kF, kQ, kT, kA, kB, kC, kM, kG, xS, Z)))) → wpX_findOutput post (xl, xw, xk, xP, xL, xF, xQ, xT, xA, xB, xC, xM, xG, kF, kQ, kT, kA, kB, kC, kM, kG, xS, xZ) (nI s) (nI e)) ∧ (∃ fo' V Z B, (hit → fo' = fo) ∧ ∀ post : SY → Prop, wY_ask_137 post (nI s) fT fL fK fW fB (ed_bi hit) fo' aT aL aQ aE aG aKQ aKE aKG aW aS aM V Z B → wY_ask_12 post (nI s) (nI e) 1 (nI c) fT fL fK fW fB 0 0 aT aL aQ aE aG aKQ aKE aKG aW aS aM aV aZ aB) := by
  obtain ⟨⟨hf, hg, hr1, hr8, hc⟩, ⟨n12, n14, n23, n10⟩, ⟨q9, q10, q11, q12, q13, q14, q23, qc⟩, ho, hv, hm, hz, hq⟩ := H
  have he64 : e < 64 := by omega
  have n12 : xQ (99 * s + 12) = nI f := n12
  have n23 : xQ (99 * s + 23) = nI c := n23
  have m9 : aQ (100 * s + 9) = nI f := q12.symm.trans n12
  have m20 : aQ (100 * s + 20) = nI c := q23.symm.trans n23
  have same : xQ (99 * s) ≠ 2 → ed_GG s e f c hi xQ xT xA xB xC xG xG := fun n2 => ⟨fun _ _ _ => rfl, fun _ _ _ => rfl, fun _ _ y => absurd y n2⟩
  rcases hq with hq | hq | hq
  · obtain ⟨z0, zc, kind, to, gr, k1, k2, k3, k4, k5, k6, k7, k8, k9, k10, k11⟩ := hq
    subst zc
    have z0 : xQ (99 * s) = 1 := z0
    have y0 : aQ (100 * s) = 1 := e0.symm.trans z0
    have k6 : xQ (99 * s + 1) = aQ (100 * s + 2) := k6
    obtain ⟨mem, hmem⟩ : ∃ mem : Nat → Prop, mem = fun i => ed_M (fun j => xQ (99 * s + j)) xT xA xB xC 0 i := ⟨_, rfl⟩
    have HB0 : ∀ i, f ≤ i → i ≤ e → (bt (xM i) (3 * s + 0) = true ↔ mem i) := fun i a b => by rw [hmem]; exact HB 0 i (by omega) a b
    have HM0 : ∀ j, f ≤ j → j ≤ e → aM j = ed_bi (mem j) := fun j a b => by
      have := HM 0 j (by omega) a b
      rw [Nat.mul_zero, Nat.zero_add] at this
      rw [hmem]; exact this
    have nG : xQ (99 * s) ≠ 2 := by rw [z0]; decide
    obtain ⟨Y0, Y1, Y2⟩ := yv_window (fT := fT) (fL := fL) (fK := fK) (fW := fW) (fB := fB) (fH := 0) (fO := 0) (aT := aT) (aL := aL) (aQ := aQ) (aE := aE) (aG := aG) (aKQ := aKQ) (aKE := aKE) (aKG := aKG) (aW := aW) (aS := aS) (aV := aV) (aZ := aZ) (aB := aB) (s := s) (kind := kind) (gr := gr) (to := to) (N := aQ (100 * s + 2)) hs he64 hf k5 rfl k9 k11 m9 k1 k2 k3 (fun a b => by rw [← k6]; exact k7 a b) HM0
    rw [← k6] at Y1 Y2
    have XW : ∀ post : Int64 → SX → Prop, _ → _ → _ → wpX_findWindowOutput post (xl, xw, xk, xP, xL, xF, xQ, xT, xA, xB, xC, xM, xG, kF, kQ, kT, kA, kB, kC, kM, kG, xS, xZ) (nI s) (nI e) := fun post => xv_window (post := post) (mem := mem) (kind := kind) (gr := gr) (to := to) (N := xQ (99 * s + 1)) hs he64 hf n12 rfl k4 k8 k10 k1 k2 k3 k7 HB0
    rcases Classical.em (mem e) with me | me
    rotate_left
    · refine ⟨False, 0, fun post h => xd_1 hs z0 (XW post (fun _ => (h xG xZ (same nG)).2 id) (fun a => absurd a me) (fun a => absurd a me)), 0, aV, aZ, aB, fun q => q.elim, fun post t => ?_⟩
      rw [ed_bi_f id] at t
      exact yd_w hs (by omega) m20 y0 (Y0 me) t
    rcases Classical.em (kind = 3 → ed_cn mem f (e + 1 - f) % (xQ (99 * s + 1)).toNatClampNeg = 0) with kb | kb
    rotate_left
    · have k3' : kind = 3 := Classical.byContradiction (fun q => kb (fun w => absurd w q))
      have nb : ¬ ed_cn mem f (e + 1 - f) % (xQ (99 * s + 1)).toNatClampNeg = 0 := fun q => kb (fun _ => q)
      obtain ⟨V, Yv⟩ := Y1 me k3' nb
      refine ⟨False, 0, fun post h => xd_1 hs z0 (XW post (fun a => absurd me a) (fun _ _ _ => (h xG xZ (same nG)).2 id) (fun _ b => absurd b kb)), 0, V, aZ, aB, fun q => q.elim, fun post t => ?_⟩
      rw [ed_bi_f id] at t
      exact yd_w hs (by omega) m20 y0 Yv t
    · obtain ⟨V, Z, n, s1, s2, Yv⟩ := Y2 me kb
      refine ⟨True, ed_tt to Z n, fun post h => xd_1 hs z0 (XW post (fun a => absurd me a) (fun _ a b => absurd (kb a) b) (fun _ _ Z' n' s1' s2' => ?_)), ed_tt to Z n, V, Z, aB, fun _ => rfl, fun post t => ?_⟩
      · have el : ed_bs (ed_px mem xC xA kind (xQ (99 * s + 1)) (gr = 1) e) xB f (e + 1 - f) = ed_bs (fun j => ed_vw mem (fun j => aE (4 * j + 3)) (fun j => aE (4 * j + 1)) kind (xQ (99 * s + 1)) e j ∧ (gr = 1 → aE (4 * j + 1) = aE (4 * e + 1))) (fun j => aE (4 * j + 2)) f (e + 1 - f) := by
          refine ed_bs_cg (fun i a b => ?_) (fun i a b => (EV i (by omega)).2.2.1.symm)
          rw [ed_pxy k1 HT Hmo Hb he64 (by omega), ed_vw_cg (T := xC) (A := xA) (fun j hj => (EV j hj).2.2.2) (fun j hj => (EV j hj).2.1) (by omega), (EV i (by omega)).2.1, (EV e (Nat.le_refl _)).2.1]
        obtain ⟨en, eZ⟩ := ed_st_eq s1' s1 (by rw [el])
        subst en
        have := (h xG Z' (same nG)).1 trivial
        rw [ed_tt_cg s2' eZ]
        exact this
      · rw [ed_bi_t trivial] at t
        exact yd_w hs (by omega) m20 y0 Yv t
  · obtain ⟨z0, zc, eq, on, z1, z2, z3, z4, z5, z6, z7, z8, zb⟩ := hq
    have z0 : xQ (99 * s) = 2 := z0
    have y0 : aQ (100 * s) = 2 := e0.symm.trans z0
    have z3 : xQ (99 * s + 1) = aQ (100 * s + 1) := z3
    have z4 : xQ (99 * s + 6) = aQ (100 * s + 2) := z4
    have z5 : xQ (99 * s + 7) = nI eq := z5
    have z7 : xQ (99 * s + 8) = nI on := z7
    obtain ⟨M, hM⟩ : ∃ M : Nat → Nat → Prop, M = ed_M (fun j => xQ (99 * s + j)) xT xA xB xC := ⟨_, rfl⟩
    have uq : ∀ a b : Nat, a ≤ 1 → b ≤ 1 → xQ (99 * s + 7) = nI a → xQ (99 * s + 8) = nI b → a = eq ∧ b = on := by
      intro a b h1 h2 h3 h4
      exact ⟨(nI_eq (by omega) (by omega)).mp (h3.symm.trans z5), (nI_eq (by omega) (by omega)).mp (h4.symm.trans z7)⟩
    have HBM : ∀ w i, w < c → f ≤ i → i ≤ e → (bt (xM i) (3 * s + w) = true ↔ M w i) := by rw [hM]; exact HB
    have HMM : ∀ w j, w < c → f ≤ j → j ≤ e → aM (64 * w + j) = ed_bi (M w j) := by rw [hM]; exact HM
    obtain ⟨Y0, Y1⟩ := yv_pattern (fT := fT) (fL := fL) (fK := fK) (fW := fW) (fB := fB) (fH := 0) (fO := 0) (aT := aT) (aL := aL) (aQ := aQ) (aE := aE) (aG := aG) (aKQ := aKQ) (aKE := aKE) (aKG := aKG) (aW := aW) (aS := aS) (aV := aV) (aZ := aZ) (aB := aB) (M := M) (st := xQ (99 * s + 6)) (N := xQ (99 * s + 1)) hs he64 hf zc z3.symm z4.symm z6 z8 m9 m20 z1 z2 rfl HMM
    have XP : ∀ post : Int64 → SX → Prop, _ → _ → wpX_findPatternOutput post (xl, xw, xk, xP, xL, xF, xQ, xT, xA, xB, xC, xM, xG, kF, kQ, kT, kA, kB, kC, kM, kG, xS, xZ) (nI s) (nI e) := fun post => xv_pattern (post := post) (M := M) (st := xQ (99 * s + 6)) (N := xQ (99 * s + 1)) hs he64 hf n12 rfl rfl z5 z7 n23 zc z1 z2 HBM
    rcases Classical.em (M (c - 1) e) with me | me
    rotate_left
    · have gg : ed_GG s e f c hi xQ xT xA xB xC xG xG := by
        refine ⟨fun _ _ _ => rfl, fun _ _ _ => rfl, fun a b _ h1 h2 h3 h4 j _ _ => ⟨Or.inl, fun q => q.elim id (fun w => ?_)⟩⟩
        rw [← hM] at w
        unfold ed_wt at w
        rw [ed_mt_0 (fun y => me y.2.1)] at w
        simp at w
      refine ⟨False, 0, fun post h => xd_2 hs z0 (XP post (fun _ => (h xG xZ gg).2 id) (fun a => absurd a me)), 0, aV, aZ, aB, fun q => q.elim, fun post t => ?_⟩
      rw [ed_bi_f id] at t
      exact yd_p hs hc m20 y0 (Y0 me) t
    · obtain ⟨B, Yv⟩ := Y1 me
      have es : ed_su (ed_wt M (c - 1) xT xA xC (xQ (99 * s + 6)) (xQ (99 * s + 1)) eq on (fun j => bt (xG j) s = true) e) f (e - f) = ed_su (ed_gw M (c - 1) (fun j => aE (4 * j)) (fun j => aE (4 * j + 1)) (fun j => aE (4 * j + 3)) (xQ (99 * s + 6)) (xQ (99 * s + 1)) eq on e) f (e - f) := by
        have l2 : c - 1 ≤ 2 := by omega
        have l1 : 1 ≤ c - 1 := by omega
        refine ed_su_cg (fun i a b => ?_)
        have ie : i < e := by omega
        have zi := zb i a ie
        dsimp only at zi
        rw [← hM] at zi
        rw [ed_wt_gw z2 zi]
        exact (ed_gw_cg l2 l1 ie (fun j hj => ⟨(EV j hj).1, (EV j hj).2.1, (EV j hj).2.2.2⟩)).symm
      rw [← es] at Yv
      refine ⟨¬ ed_su (ed_wt M (c - 1) xT xA xC (xQ (99 * s + 6)) (xQ (99 * s + 1)) eq on (fun j => bt (xG j) s = true) e) f (e - f) = 0, nI (ed_su (ed_wt M (c - 1) xT xA xC (xQ (99 * s + 6)) (xQ (99 * s + 1)) eq on (fun j => bt (xG j) s = true) e) f (e - f)), fun post h => xd_2 hs z0 (XP post (fun a => absurd me a) (fun _ G hG => ?_)), _, aV, aZ, B, fun _ => rfl, fun post t => yd_p hs hc m20 y0 Yv t⟩
      have gg : ed_GG s e f c hi xQ xT xA xB xC xG G := by
        refine ⟨fun j a b => ?_, fun i l hl => ?_, fun a b _ h1 h2 h3 h4 j j1 j2 => ?_⟩
        · rw [Bool.eq_iff_iff, hG j s]
          exact ⟨fun q => q.elim id (fun w => by omega), Or.inl⟩
        · rw [Bool.eq_iff_iff, hG i l]
          exact ⟨fun q => q.elim id (fun w => absurd w.1 hl), Or.inl⟩
        · obtain ⟨rfl, rfl⟩ := uq a b h1 h2 h3 h4
          rw [hG j s, ← hM]
          exact ⟨fun q => q.elim Or.inl (fun w => Or.inr w.2.2.2), fun q => q.elim Or.inl (fun w => Or.inr ⟨rfl, j1, j2, w⟩)⟩
      have hh := h G xZ gg
      exact ⟨fun q => hh.2 (fun w => w q), fun q => hh.1 q⟩
  · obtain ⟨z0, zc, n, m, k1, k2, k3, k4, k5, k6, k7, k8⟩ := hq
    subst zc
    have z0 : xQ (99 * s) = 3 := z0
    have y0 : aQ (100 * s) = 3 := e0.symm.trans z0
    have nG : xQ (99 * s) ≠ 2 := by rw [z0]; decide
    obtain ⟨hit, fo, X1, Y1⟩ := xy_join (xl := xl) (xw := xw) (xk := xk) (xP := xP) (xL := xL) (xF := xF) (xQ := xQ) (xT := xT) (xA := xA) (xB := xB) (xC := xC) (xM := xM) (xG := xG) (kF := kF) (kQ := kQ) (kT := kT) (kA := kA) (kB := kB) (kC := kC) (kM := kM) (kG := kG) (xS := xS) (xZ := xZ) (fT := fT) (fL := fL) (fK := fK) (fW := fW) (fB := fB) (aT := aT) (aL := aL) (aQ := aQ) (aE := aE) (aG := aG) (aKQ := aKQ) (aKE := aKE) (aKG := aKG) (aW := aW) (aS := aS) (aM := aM) (aV := aV) (aZ := aZ) (aB := aB) hs he64 hf k2 k4 k5 k7 n12 k6 k8 m9 HB HM (fun j hj => ⟨(EV j hj).2.1, (EV j hj).2.2.1⟩)
    refine ⟨hit, fo, fun post h => xd_3 hs z0 (X1 _ (fun q => (h xG xZ (same nG)).1 q) (fun q => (h xG xZ (same nG)).2 q)), fo, aV, aZ, aB, fun _ => rfl, fun post t => yd_j hs hc m20 y0 Y1 t⟩
end
