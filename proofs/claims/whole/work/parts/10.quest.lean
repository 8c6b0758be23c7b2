/-! window, pattern, join -/
theorem ed_nI5 {p : Int32} (h0 : ¬ p < 0) (h5 : p ≤ 5) : ∃ j : Nat, j ≤ 5 ∧ p = nI j := nI_of2 (M := 5) (n := 5) (by decide) h0 h5
theorem ed_win_n {v n : Nat} {p : Int32} (h : ed_win (nI v) p) (hv : v ≤ 5) (h0 : v ≠ 0) (h4 : v ≠ 4) : ∃ n : Nat, 1 ≤ n ∧ n ≤ 100 ∧ p = nI n := by
  have k : ∀ M : Int32, M ≤ 100 → ¬ p < 1 → ¬ M < p → ∃ n : Nat, 1 ≤ n ∧ n ≤ 100 ∧ p = nI n := by
    intro M hM a b
    obtain ⟨j, hj, e⟩ := nI_of2 (x := p) (M := 100) (n := 100) (by decide) (fun q => a (Int32.lt_trans q (by decide))) (Int32.le_trans (Int32.not_lt.mp b) hM)
    refine ⟨j, ?_, hj, e⟩
    rcases Nat.eq_zero_or_pos j with q | q
    · subst q; rw [e] at a; exact absurd (by decide) a
    · exact q
  rcases h with (h | h) | ⟨_, a, b⟩ | ⟨_, a, b⟩
  · exact absurd ((nI_eq (b := 0) (by omega) (by omega)).mp h) h0
  · exact absurd ((nI_eq (b := 4) (by omega) (by omega)).mp h) h4
  · exact k 16 (by decide) a b
  · exact k 100 (by decide) a b
theorem i_vc_window {k : Nat} {u : SX} {v : SY} (I : i_Rel k u v) (hk : k + 6 ≤ 3072) (v1 : Int32) (v2 : Int32) (v3 : Int32) (v4 : Int32) (v5 : Int32) : wpX_window (fun r u' => wpY_window (fun r' v' => r' = r ∧ i_Rel (k + 6) u' v') v v1 v2 v3 v4 (lw_bz v5)) u v1 v2 v3 v4 (lw_bz v5) := by
  obtain ⟨xl, xw, xk, xP, xL, xF, xQ, xT, xA, xB, xC, xM, xG, kF, kQ, kT, kA, kB, kC, kM, kG, xS, xZ⟩ := u
  obtain ⟨fT, fL, fK, fW, fB, fH, fO, aT, aL, aQ, aE, aG, aKQ, aKE, aKG, aW, aS, aM, aV, aZ, aB⟩ := v
  have I' := i_up I
  obtain ⟨hP, ⟨l, hl, l1, l2, l3, l4⟩, hw, ⟨h, hC⟩, hK⟩ := I
  generalize lw_bz v5 = p4
  unfold wpX_window
  dsimp only
  rcases ed_slot v1 with hb | ⟨s, hs, rfl⟩
  · refine xb_isSlot0 hb (br_t rfl ?_)
    unfold wpY_window
    dsimp only
    exact yb_isSlot0 hb (br_t rfl ⟨rfl, I'⟩)
  refine xb_isSlot hs (br_f (by decide) ?_)
  by_cases z : l = 1
  rotate_left
  · have zx : ¬ xl = 1 := fun q => z (by rw [l1] at q; exact (nI_eq (b := 1) (by omega) (by omega)).mp q)
    have zy : ¬ fL = 1 := fun q => z (by rw [l2] at q; exact (nI_eq (b := 1) (by omega) (by omega)).mp q)
    refine br_f zx ?_
    unfold wpY_window
    dsimp only
    exact yb_isSlot hs (br_f (by decide) (br_f zy ⟨rfl, I'⟩))
  subst z
  have bad : ¬ (ed_win v2 v3 ∧ ¬ v4 < 0 ∧ v4 ≤ 5) → wpY_window (fun r' v' => r' = 0 ∧ i_Rel (k + 6) (xl, xw, xk, xP, xL, xF, xQ, xT, xA, xB, xC, xM, xG, kF, kQ, kT, kA, kB, kC, kM, kG, xS, xZ) v') (fT, fL, fK, fW, fB, fH, fO, aT, aL, aQ, aE, aG, aKQ, aKE, aKG, aW, aS, aM, aV, aZ, aB) (nI s) v2 v3 v4 p4 := fun q =>
    yb_window hs l2 (fun a b c => absurd ⟨a, b, c⟩ q) (fun _ => ⟨rfl, I'⟩)
  refine br_t l1 (xb_wsize (fun zw => br_f (by decide) ?_) (fun zw => br_t rfl (bad (fun q => zw q.1))))
  by_cases z0 : v4 < 0
  · exact br_t z0 (bad (fun q => q.2.1 z0))
  by_cases z5 : v4 ≤ 5
  rotate_left
  · exact br_f z0 (br_f z5 (bad (fun q => z5 q.2.2)))
  refine br_f z0 (br_t z5 (xs_set hs (fun q hq => nm_e ?_)))
  have w3 := ed_x s 3 hs (by omega)
  have w4 := ed_x s 4 hs (by omega)
  have w5 := ed_x s 5 hs (by omega)
  have c3 : (nI s * 99 + 3).toNatClampNeg = 99 * s + 3 := w3.2
  have c4 : (nI s * 99 + 4).toNatClampNeg = 99 * s + 4 := w4.2
  have c5 : (nI s * 99 + 5).toNatClampNeg = 99 * s + 5 := w5.2
  have y4 := ed_y s 4 hs (by omega)
  have d4 : (100 * nI s + 4).toNatClampNeg = 100 * s + 4 := y4.2
  obtain ⟨vw, hvw, rfl⟩ := ed_nI5 (ed_win_r zw).1 (Int32.not_lt.mp (ed_win_r zw).2)
  obtain ⟨to, hto, rfl⟩ := ed_nI5 z0 z5
  obtain ⟨x0, x1, x9, x10, x11, x12, x13, x14, x23, xc, xo⟩ := hq
  have f0 : xF 0 = nI h := hC.1.1
  have g0 : aG 0 = nI h := hC.1.2.1
  have fin : ∀ (gr : Nat) (r : Nat → Int32), gr ≤ 1 → ed_YS s 1 (nI vw) v3 (nI to) (aG 0) fL aL aQ r → i_Rel (k + 6) (0, xw, xk, xP, xL, xF, upd (upd (upd q (99 * s + 3) (nI vw)) (99 * s + 4) (nI to)) (99 * s + 5) (nI gr), xT, xA, xB, xC, xM, xG, kF, kQ, kT, kA, kB, kC, kM, kG, xS, xZ) (fT, 0, fK, fW, fB, fH, fO, aT, aL, upd r (100 * s + 4) (nI gr), aE, aG, aKQ, aKE, aKG, aW, aS, aM, aV, aZ, aB) := by
    intro gr r hgr hr
    obtain ⟨⟨y0, y1, y2, y3⟩, y6, y7, y8, y9, y10, y11, y20, yc, yo⟩ := hr
    refine ⟨hP, ⟨0, by omega, rfl, rfl, l3, fun w hw => absurd hw (Nat.not_lt_zero _)⟩, hw, ed_B_up (by omega) (ed_B_slot hs ?_ ?_ ?_ hC), ed_K_up (by omega) hK⟩
    · intro j _ hj; simp (disch := omega) only [pk_us, pk_un]; exact xo j hj
    · intro j _ hj; simp (disch := omega) only [pk_us, pk_un]; exact yo j hj
    · refine ed_Q_new (l := 1) (xL := xL) (aL := aL) (by omega) ?_ ?_ ?_ ?_ ?_ ?_ ?_ ?_ ?_ ?_ ?_ ?_ ?_ ?_ ?_ ?_ l3 l4 ?_ (Or.inl ⟨?_, rfl, vw, to, gr, hvw, hto, hgr, ?_, ?_, ?_, ?_, ?_, ?_, ?_, ?_⟩)
      · (try dsimp only); simp (disch := omega) only [pk_us, pk_un]; exact x9
      · (try dsimp only); simp (disch := omega) only [pk_us, pk_un]; exact x10
      · (try dsimp only); simp (disch := omega) only [pk_us, pk_un]; exact x11
      · (try dsimp only); simp (disch := omega) only [pk_us, pk_un]; exact x12.trans f0
      · (try dsimp only); simp (disch := omega) only [pk_us, pk_un]; exact x13
      · (try dsimp only); simp (disch := omega) only [pk_us, pk_un]; exact x14
      · (try dsimp only); simp (disch := omega) only [pk_us, pk_un]; exact x23.trans l1
      · intro j hj; (try dsimp only); simp (disch := omega) only [pk_us, pk_un]; rw [← Nat.add_assoc]; exact xc j hj
      · (try dsimp only); simp (disch := omega) only [pk_us, pk_un]; exact y6
      · (try dsimp only); simp (disch := omega) only [pk_us, pk_un]; exact y7
      · (try dsimp only); simp (disch := omega) only [pk_us, pk_un]; exact y8
      · (try dsimp only); simp (disch := omega) only [pk_us, pk_un]; exact y9.trans g0
      · (try dsimp only); simp (disch := omega) only [pk_us, pk_un]; exact y10
      · (try dsimp only); simp (disch := omega) only [pk_us, pk_un]; exact y11
      · (try dsimp only); simp (disch := omega) only [pk_us, pk_un]; exact y20.trans l2
      · intro j hj; (try dsimp only); simp (disch := omega) only [pk_us, pk_un]; rw [← Nat.add_assoc]; exact yc j hj
      · (try dsimp only); simp (disch := omega) only [pk_us, pk_un]; exact x0.trans y0.symm
      · (try dsimp only); simp (disch := omega) only [pk_us, pk_un]; exact x0
      · (try dsimp only); simp (disch := omega) only [pk_us, pk_un]
      · (try dsimp only); simp (disch := omega) only [pk_us, pk_un]; exact y1
      · (try dsimp only); simp (disch := omega) only [pk_us, pk_un]; exact x1.trans y2.symm
      · intro h1 h2; (try dsimp only); simp (disch := omega) only [pk_us, pk_un]; rw [x1]; exact ed_win_n (n := 0) zw hvw h1 h2
      · (try dsimp only); simp (disch := omega) only [pk_us, pk_un]
      · (try dsimp only); simp (disch := omega) only [pk_us, pk_un]; exact y3
      · (try dsimp only); simp (disch := omega) only [pk_us, pk_un]
      · (try dsimp only); simp (disch := omega) only [pk_us, pk_un]
  refine ⟨w3.1, nm_e ⟨w4.1, nm_e ?_⟩⟩
  rw [c3, c4, c5]
  by_cases z4 : p4 = 0
  · refine br_t z4 ⟨w5.1, nm_e (yb_window hs l2 (fun _ _ _ => ys_set hs (fun r hr => br_t z4 ⟨y4.1, nm_e ⟨rfl, ?_⟩⟩)) (fun q => absurd ⟨zw, z0, z5⟩ q))⟩
    rw [d4]
    exact fin 0 r (by omega) hr
  · refine br_f z4 ⟨w5.1, nm_e (yb_window hs l2 (fun _ _ _ => ys_set hs (fun r hr => br_f z4 ⟨y4.1, nm_e ⟨rfl, ?_⟩⟩)) (fun q => absurd ⟨zw, z0, z5⟩ q))⟩
    rw [d4]
    exact fin 1 r (by omega) hr
theorem i_vc_pattern {k : Nat} {u : SX} {v : SY} (I : i_Rel k u v) (hk : k + 6 ≤ 3072) (v1 : Int32) (v2 : Int32) (v3 : Int32) (v4 : Int32) (v5 : Int32) : wpX_pattern (fun r u' => wpY_pattern (fun r' v' => r' = r ∧ i_Rel (k + 6) u' v') v v1 v2 v3 (lw_bz v4) (lw_bz v5)) u v1 v2 v3 (lw_bz v4) (lw_bz v5) := by
  obtain ⟨xl, xw, xk, xP, xL, xF, xQ, xT, xA, xB, xC, xM, xG, kF, kQ, kT, kA, kB, kC, kM, kG, xS, xZ⟩ := u
  obtain ⟨fT, fL, fK, fW, fB, fH, fO, aT, aL, aQ, aE, aG, aKQ, aKE, aKG, aW, aS, aM, aV, aZ, aB⟩ := v
  have I' := i_up I
  obtain ⟨hP, ⟨l, hl, l1, l2, l3, l4⟩, hw, ⟨h, hC⟩, hK⟩ := I
  generalize lw_bz v4 = p3
  generalize lw_bz v5 = p4
  unfold wpX_pattern
  dsimp only
  rcases ed_slot v1 with hb | ⟨s, hs, rfl⟩
  · refine xb_isSlot0 hb (br_t rfl ?_)
    unfold wpY_pattern
    dsimp only
    exact yb_isSlot0 hb (br_t rfl ⟨rfl, I'⟩)
  refine xb_isSlot hs (br_f (by decide) ?_)
  have Y : ∀ A : Int32 → SY → Prop, ((fL < 2 → A 0 (fT, fL, fK, fW, fB, fH, fO, aT, aL, aQ, aE, aG, aKQ, aKE, aKG, aW, aS, aM, aV, aZ, aB)) ∧ (¬ fL < 2 → ((v2 < 1 → A 0 (fT, fL, fK, fW, fB, fH, fO, aT, aL, aQ, aE, aG, aKQ, aKE, aKG, aW, aS, aM, aV, aZ, aB)) ∧ (¬ v2 < 1 → ((1000 < v2 → A 0 (fT, fL, fK, fW, fB, fH, fO, aT, aL, aQ, aE, aG, aKQ, aKE, aKG, aW, aS, aM, aV, aZ, aB)) ∧ (¬ 1000 < v2 → ((v3 < 0 → A 0 (fT, fL, fK, fW, fB, fH, fO, aT, aL, aQ, aE, aG, aKQ, aKE, aKG, aW, aS, aM, aV, aZ, aB)) ∧ (¬ v3 < 0 → ((v3 ≤ 4 → ((p3 = 0 → wY_pattern_54 A (nI s) p4 0 v3 v2 2 (nI s) fT fL fK fW fB fH fO aT aL aQ aE aG aKQ aKE aKG aW aS aM aV aZ aB) ∧ (¬ p3 = 0 → wY_pattern_54 A (nI s) p4 1 v3 v2 2 (nI s) fT fL fK fW fB fH fO aT aL aQ aE aG aKQ aKE aKG aW aS aM aV aZ aB))) ∧ (¬ v3 ≤ 4 → A 0 (fT, fL, fK, fW, fB, fH, fO, aT, aL, aQ, aE, aG, aKQ, aKE, aKG, aW, aS, aM, aV, aZ, aB))))))))))) → wpY_pattern A (fT, fL, fK, fW, fB, fH, fO, aT, aL, aQ, aE, aG, aKQ, aKE, aKG, aW, aS, aM, aV, aZ, aB) (nI s) v2 v3 p3 p4 := by
    intro A H
    unfold wpY_pattern
    dsimp only
    exact yb_isSlot hs (br_f (by decide) H)
  by_cases z : l < 2
  · have zx : xl < 2 := by rw [l1]; exact nI_lt (b := 2) z (by omega)
    have zy : fL < 2 := by rw [l2]; exact nI_lt (b := 2) z (by omega)
    exact br_t zx (Y _ (br_t zy ⟨rfl, I'⟩))
  have zx : ¬ xl < 2 := by rw [l1]; exact nI_nlt (b := 2) (by omega) (by omega)
  have zy : ¬ fL < 2 := by rw [l2]; exact nI_nlt (b := 2) (by omega) (by omega)
  refine br_f zx ?_
  by_cases z1 : v2 < 1
  · exact br_t z1 (Y _ (br_f zy (br_t z1 ⟨rfl, I'⟩)))
  by_cases z2 : 1000 < v2
  · exact br_f z1 (br_t z2 (Y _ (br_f zy (br_f z1 (br_t z2 ⟨rfl, I'⟩)))))
  by_cases z3 : v3 < 0
  · exact br_f z1 (br_f z2 (br_t z3 (Y _ (br_f zy (br_f z1 (br_f z2 (br_t z3 ⟨rfl, I'⟩)))))))
  by_cases z4 : v3 ≤ 4
  rotate_left
  · exact br_f z1 (br_f z2 (br_f z3 (br_f z4 (Y _ (br_f zy (br_f z1 (br_f z2 (br_f z3 (br_f z4 ⟨rfl, I'⟩)))))))))
  refine br_f z1 (br_f z2 (br_f z3 (br_t z4 (xs_set hs (fun q hq => nm_e ?_)))))
  have w6 := ed_x s 6 hs (by omega)
  have w7 := ed_x s 7 hs (by omega)
  have w8 := ed_x s 8 hs (by omega)
  have c6 : (nI s * 99 + 6).toNatClampNeg = 99 * s + 6 := w6.2
  have c7 : (nI s * 99 + 7).toNatClampNeg = 99 * s + 7 := w7.2
  have c8 : (nI s * 99 + 8).toNatClampNeg = 99 * s + 8 := w8.2
  have y4 := ed_y s 4 hs (by omega)
  have d4 : (100 * nI s + 4).toNatClampNeg = 100 * s + 4 := y4.2
  obtain ⟨x0, x1, x9, x10, x11, x12, x13, x14, x23, xc, xo⟩ := hq
  have f0 : xF 0 = nI h := hC.1.1
  have g0 : aG 0 = nI h := hC.1.2.1
  have fin : ∀ (eq on : Nat) (r : Nat → Int32), eq ≤ 1 → on ≤ 1 → ed_YS s 2 v2 v3 (nI eq) (aG 0) fL aL aQ r → i_Rel (k + 6) (0, xw, xk, xP, xL, xF, upd (upd (upd q (99 * s + 6) v3) (99 * s + 7) (nI eq)) (99 * s + 8) (nI on), xT, xA, xB, xC, xM, xG, kF, kQ, kT, kA, kB, kC, kM, kG, xS, xZ) (fT, 0, fK, fW, fB, fH, fO, aT, aL, upd r (100 * s + 4) (nI on), aE, aG, aKQ, aKE, aKG, aW, aS, aM, aV, aZ, aB) := by
    intro eq on r heq hon hr
    obtain ⟨⟨y0, y1, y2, y3⟩, y6, y7, y8, y9, y10, y11, y20, yc, yo⟩ := hr
    refine ⟨hP, ⟨0, by omega, rfl, rfl, l3, fun w hw => absurd hw (Nat.not_lt_zero _)⟩, hw, ed_B_up (by omega) (ed_B_slot hs ?_ ?_ ?_ hC), ed_K_up (by omega) hK⟩
    · intro j _ hj; simp (disch := omega) only [pk_us, pk_un]; exact xo j hj
    · intro j _ hj; simp (disch := omega) only [pk_us, pk_un]; exact yo j hj
    · refine ed_Q_new (l := l) (xL := xL) (aL := aL) hl ?_ ?_ ?_ ?_ ?_ ?_ ?_ ?_ ?_ ?_ ?_ ?_ ?_ ?_ ?_ ?_ l3 l4 ?_ (Or.inr (Or.inl ⟨?_, by omega, eq, on, heq, hon, ?_, ?_, ?_, ?_, ?_, ?_, fun i h1 h2 => by omega⟩))
      · (try dsimp only); simp (disch := omega) only [pk_us, pk_un]; exact x9
      · (try dsimp only); simp (disch := omega) only [pk_us, pk_un]; exact x10
      · (try dsimp only); simp (disch := omega) only [pk_us, pk_un]; exact x11
      · (try dsimp only); simp (disch := omega) only [pk_us, pk_un]; exact x12.trans f0
      · (try dsimp only); simp (disch := omega) only [pk_us, pk_un]; exact x13
      · (try dsimp only); simp (disch := omega) only [pk_us, pk_un]; exact x14
      · (try dsimp only); simp (disch := omega) only [pk_us, pk_un]; exact x23.trans l1
      · intro j hj; (try dsimp only); simp (disch := omega) only [pk_us, pk_un]; rw [← Nat.add_assoc]; exact xc j hj
      · (try dsimp only); simp (disch := omega) only [pk_us, pk_un]; exact y6
      · (try dsimp only); simp (disch := omega) only [pk_us, pk_un]; exact y7
      · (try dsimp only); simp (disch := omega) only [pk_us, pk_un]; exact y8
      · (try dsimp only); simp (disch := omega) only [pk_us, pk_un]; exact y9.trans g0
      · (try dsimp only); simp (disch := omega) only [pk_us, pk_un]; exact y10
      · (try dsimp only); simp (disch := omega) only [pk_us, pk_un]; exact y11
      · (try dsimp only); simp (disch := omega) only [pk_us, pk_un]; exact y20.trans l2
      · intro j hj; (try dsimp only); simp (disch := omega) only [pk_us, pk_un]; rw [← Nat.add_assoc]; exact yc j hj
      · (try dsimp only); simp (disch := omega) only [pk_us, pk_un]; exact x0.trans y0.symm
      · (try dsimp only); simp (disch := omega) only [pk_us, pk_un]; exact x0
      · (try dsimp only); simp (disch := omega) only [pk_us, pk_un]; exact x1.trans y1.symm
      · (try dsimp only); simp (disch := omega) only [pk_us, pk_un]; exact y2.symm
      · (try dsimp only); simp (disch := omega) only [pk_us, pk_un]
      · (try dsimp only); simp (disch := omega) only [pk_us, pk_un]; exact y3
      · (try dsimp only); simp (disch := omega) only [pk_us, pk_un]
      · (try dsimp only); simp (disch := omega) only [pk_us, pk_un]
  have X81 : ∀ (eq : Nat) (A : Int32 → SX → Prop), ((p4 = 0 → A 1 (0, xw, xk, xP, xL, xF, upd (upd (upd q (99 * s + 6) v3) (99 * s + 7) (nI eq)) (99 * s + 8) 0, xT, xA, xB, xC, xM, xG, kF, kQ, kT, kA, kB, kC, kM, kG, xS, xZ)) ∧ (¬ p4 = 0 → A 1 (0, xw, xk, xP, xL, xF, upd (upd (upd q (99 * s + 6) v3) (99 * s + 7) (nI eq)) (99 * s + 8) 1, xT, xA, xB, xC, xM, xG, kF, kQ, kT, kA, kB, kC, kM, kG, xS, xZ))) → wX_pattern_81 A p4 (nI s * 99) (nI eq) (nI s * 99 + 7) 0 xw xk xP xL xF (upd q (99 * s + 6) v3) xT xA xB xC xM xG kF kQ kT kA kB kC kM kG xS xZ := by
    intro eq A H
    unfold wX_pattern_81
    rw [c7, c8]
    exact ⟨w7.1, nm_e ⟨fun a => ⟨w8.1, nm_e (H.1 a)⟩, fun a => ⟨w8.1, nm_e (H.2 a)⟩⟩⟩
  have Y54 : ∀ (eq : Nat) (A : Int32 → SY → Prop), (∀ r, ed_YS s 2 v2 v3 (nI eq) (aG 0) fL aL aQ r → ((p4 = 0 → A 1 (fT, 0, fK, fW, fB, fH, fO, aT, aL, upd r (100 * s + 4) 0, aE, aG, aKQ, aKE, aKG, aW, aS, aM, aV, aZ, aB)) ∧ (¬ p4 = 0 → A 1 (fT, 0, fK, fW, fB, fH, fO, aT, aL, upd r (100 * s + 4) 1, aE, aG, aKQ, aKE, aKG, aW, aS, aM, aV, aZ, aB)))) → wY_pattern_54 A (nI s) p4 (nI eq) v3 v2 2 (nI s) fT fL fK fW fB fH fO aT aL aQ aE aG aKQ aKE aKG aW aS aM aV aZ aB := by
    intro eq A H
    unfold wY_pattern_54
    refine ys_set hs (fun r hr => ?_)
    rw [d4]
    exact ⟨fun a => ⟨y4.1, nm_e ((H r hr).1 a)⟩, fun a => ⟨y4.1, nm_e ((H r hr).2 a)⟩⟩
  have YY : ∀ A : Int32 → SY → Prop, ((p3 = 0 → wY_pattern_54 A (nI s) p4 0 v3 v2 2 (nI s) fT fL fK fW fB fH fO aT aL aQ aE aG aKQ aKE aKG aW aS aM aV aZ aB) ∧ (¬ p3 = 0 → wY_pattern_54 A (nI s) p4 1 v3 v2 2 (nI s) fT fL fK fW fB fH fO aT aL aQ aE aG aKQ aKE aKG aW aS aM aV aZ aB)) → wpY_pattern A (fT, fL, fK, fW, fB, fH, fO, aT, aL, aQ, aE, aG, aKQ, aKE, aKG, aW, aS, aM, aV, aZ, aB) (nI s) v2 v3 p3 p4 := fun A H => Y A (br_f zy (br_f z1 (br_f z2 (br_f z3 (br_t z4 H)))))
  refine ⟨w6.1, nm_e ?_⟩
  rw [c6]
  by_cases a : p3 = 0
  · refine br_t a (X81 0 _ ⟨fun b => YY _ (br_t a (Y54 0 _ (fun r hr => br_t b ⟨rfl, fin 0 0 r (by omega) (by omega) hr⟩))), fun b => YY _ (br_t a (Y54 0 _ (fun r hr => br_f b ⟨rfl, fin 0 1 r (by omega) (by omega) hr⟩)))⟩)
  · refine br_f a (X81 1 _ ⟨fun b => YY _ (br_f a (Y54 1 _ (fun r hr => br_t b ⟨rfl, fin 1 0 r (by omega) (by omega) hr⟩))), fun b => YY _ (br_f a (Y54 1 _ (fun r hr => br_f b ⟨rfl, fin 1 1 r (by omega) (by omega) hr⟩)))⟩)
theorem ed_16 {p : Int32} (h1 : ¬ p < 1) (h : p ≤ 16) : ∃ j : Nat, 1 ≤ j ∧ j ≤ 16 ∧ p = nI j := by
  obtain ⟨j, hj, e⟩ := nI_of2 (x := p) (M := 16) (n := 16) (by decide) (fun q => h1 (Int32.lt_trans q (by decide))) h
  refine ⟨j, ?_, hj, e⟩
  rcases Nat.eq_zero_or_pos j with q | q
  · subst q; rw [e] at h1; exact absurd (by decide) h1
  · exact q
theorem i_vc_join {k : Nat} {u : SX} {v : SY} (I : i_Rel k u v) (hk : k + 6 ≤ 3072) (v1 : Int32) (v2 : Int32) (v3 : Int32) : wpX_join (fun r u' => wpY_join (fun r' v' => r' = r ∧ i_Rel (k + 6) u' v') v v1 v2 v3) u v1 v2 v3 := by
  obtain ⟨xl, xw, xk, xP, xL, xF, xQ, xT, xA, xB, xC, xM, xG, kF, kQ, kT, kA, kB, kC, kM, kG, xS, xZ⟩ := u
  obtain ⟨fT, fL, fK, fW, fB, fH, fO, aT, aL, aQ, aE, aG, aKQ, aKE, aKG, aW, aS, aM, aV, aZ, aB⟩ := v
  have I' := i_up I
  obtain ⟨hP, ⟨l, hl, l1, l2, l3, l4⟩, hw, ⟨h, hC⟩, hK⟩ := I
  unfold wpX_join
  dsimp only
  rcases ed_slot v1 with hb | ⟨s, hs, rfl⟩
  · refine xb_isSlot0 hb (br_t rfl ?_)
    unfold wpY_join
    dsimp only
    exact yb_isSlot0 hb (br_t rfl ⟨rfl, I'⟩)
  refine xb_isSlot hs (br_f (by decide) ?_)
  have Y : ∀ A : Int32 → SY → Prop, ((fL = 2 → ((v2 < 1 → A 0 (fT, fL, fK, fW, fB, fH, fO, aT, aL, aQ, aE, aG, aKQ, aKE, aKG, aW, aS, aM, aV, aZ, aB)) ∧ (¬ v2 < 1 → ((16 < v2 → A 0 (fT, fL, fK, fW, fB, fH, fO, aT, aL, aQ, aE, aG, aKQ, aKE, aKG, aW, aS, aM, aV, aZ, aB)) ∧ (¬ 16 < v2 → ((v3 < 1 → A 0 (fT, fL, fK, fW, fB, fH, fO, aT, aL, aQ, aE, aG, aKQ, aKE, aKG, aW, aS, aM, aV, aZ, aB)) ∧ (¬ v3 < 1 → ((v3 ≤ 16 → ∀ r, ed_YS s 3 v2 v3 0 (aG 0) fL aL aQ r → A 1 (fT, 0, fK, fW, fB, fH, fO, aT, aL, r, aE, aG, aKQ, aKE, aKG, aW, aS, aM, aV, aZ, aB)) ∧ (¬ v3 ≤ 16 → A 0 (fT, fL, fK, fW, fB, fH, fO, aT, aL, aQ, aE, aG, aKQ, aKE, aKG, aW, aS, aM, aV, aZ, aB)))))))))) ∧ (¬ fL = 2 → A 0 (fT, fL, fK, fW, fB, fH, fO, aT, aL, aQ, aE, aG, aKQ, aKE, aKG, aW, aS, aM, aV, aZ, aB))) → wpY_join A (fT, fL, fK, fW, fB, fH, fO, aT, aL, aQ, aE, aG, aKQ, aKE, aKG, aW, aS, aM, aV, aZ, aB) (nI s) v2 v3 := by
    intro A H
    unfold wpY_join
    dsimp only
    exact yb_isSlot hs (br_f (by decide) ⟨fun a => ⟨(H.1 a).1, fun b => ⟨((H.1 a).2 b).1, fun c => ⟨(((H.1 a).2 b).2 c).1, fun d => ⟨fun e => ys_set hs (((((H.1 a).2 b).2 c).2 d).1 e), ((((H.1 a).2 b).2 c).2 d).2⟩⟩⟩⟩, H.2⟩)
  by_cases z : l = 2
  rotate_left
  · have zx : ¬ xl = 2 := fun q => z (by rw [l1] at q; exact (nI_eq (b := 2) (by omega) (by omega)).mp q)
    have zy : ¬ fL = 2 := fun q => z (by rw [l2] at q; exact (nI_eq (b := 2) (by omega) (by omega)).mp q)
    exact br_f zx (Y _ (br_f zy ⟨rfl, I'⟩))
  subst z
  refine br_t l1 ?_
  by_cases z1 : v2 < 1
  · exact br_t z1 (Y _ (br_t l2 (br_t z1 ⟨rfl, I'⟩)))
  by_cases z2 : 16 < v2
  · exact br_f z1 (br_t z2 (Y _ (br_t l2 (br_f z1 (br_t z2 ⟨rfl, I'⟩)))))
  by_cases z3 : v3 < 1
  · exact br_f z1 (br_f z2 (br_t z3 (Y _ (br_t l2 (br_f z1 (br_f z2 (br_t z3 ⟨rfl, I'⟩)))))))
  by_cases z4 : v3 ≤ 16
  rotate_left
  · exact br_f z1 (br_f z2 (br_f z3 (br_f z4 (Y _ (br_t l2 (br_f z1 (br_f z2 (br_f z3 (br_f z4 ⟨rfl, I'⟩)))))))))
  have w2 := ed_x s 2 hs (by omega)
  have c2 : (nI s * 99 + 2).toNatClampNeg = 99 * s + 2 := w2.2
  have f0 : xF 0 = nI h := hC.1.1
  have g0 : aG 0 = nI h := hC.1.2.1
  have fin : ∀ q r : Nat → Int32, ed_XS s 3 v2 (xF 0) xl xL xQ q → ed_YS s 3 v2 v3 0 (aG 0) fL aL aQ r → i_Rel (k + 6) (0, xw, xk, xP, xL, xF, upd q (99 * s + 2) v3, xT, xA, xB, xC, xM, xG, kF, kQ, kT, kA, kB, kC, kM, kG, xS, xZ) (fT, 0, fK, fW, fB, fH, fO, aT, aL, r, aE, aG, aKQ, aKE, aKG, aW, aS, aM, aV, aZ, aB) := by
    intro q r hq hr
    obtain ⟨x0, x1, x9, x10, x11, x12, x13, x14, x23, xc, xo⟩ := hq
    obtain ⟨⟨y0, y1, y2, y3⟩, y6, y7, y8, y9, y10, y11, y20, yc, yo⟩ := hr
    refine ⟨hP, ⟨0, by omega, rfl, rfl, l3, fun w hw => absurd hw (Nat.not_lt_zero _)⟩, hw, ed_B_up (by omega) (ed_B_slot hs ?_ ?_ ?_ hC), ed_K_up (by omega) hK⟩
    · intro j _ hj; simp (disch := omega) only [pk_us, pk_un]; exact xo j hj
    · intro j _ hj; exact yo j hj
    · obtain ⟨n, n1, n16, rfl⟩ := ed_16 z1 (Int32.not_lt.mp z2)
      obtain ⟨m, m1, m16, rfl⟩ := ed_16 z3 z4
      refine ed_Q_new (l := 2) (xL := xL) (aL := aL) (by omega) ?_ ?_ ?_ ?_ ?_ ?_ ?_ ?_ y6 y7 y8 (y9.trans g0) y10 y11 (y20.trans l2) ?_ l3 l4 ?_ (Or.inr (Or.inr ⟨?_, rfl, n, m, n1, n16, m1, m16, ?_, y1, ?_, y2⟩))
      · (try dsimp only); simp (disch := omega) only [pk_us, pk_un]; exact x9
      · (try dsimp only); simp (disch := omega) only [pk_us, pk_un]; exact x10
      · (try dsimp only); simp (disch := omega) only [pk_us, pk_un]; exact x11
      · (try dsimp only); simp (disch := omega) only [pk_us, pk_un]; exact x12.trans f0
      · (try dsimp only); simp (disch := omega) only [pk_us, pk_un]; exact x13
      · (try dsimp only); simp (disch := omega) only [pk_us, pk_un]; exact x14
      · (try dsimp only); simp (disch := omega) only [pk_us, pk_un]; exact x23.trans l1
      · intro j hj; (try dsimp only); simp (disch := omega) only [pk_us, pk_un]; rw [← Nat.add_assoc]; exact xc j hj
      · intro j hj; (try dsimp only); rw [← Nat.add_assoc]; exact yc j hj
      · (try dsimp only); simp (disch := omega) only [pk_us, pk_un]; exact x0.trans y0.symm
      · (try dsimp only); simp (disch := omega) only [pk_us, pk_un]; exact x0
      · (try dsimp only); simp (disch := omega) only [pk_us, pk_un]; exact x1
      · (try dsimp only); simp (disch := omega) only [pk_us, pk_un]
  refine br_f z1 (br_f z2 (br_f z3 (br_t z4 (xs_set hs (fun q hq => ⟨w2.1, nm_e ?_⟩)))))
  rw [c2]
  exact Y _ (br_t l2 (br_f z1 (br_f z2 (br_f z3 (br_t z4 (fun r hr => ⟨rfl, fin q r hq hr⟩))))))
