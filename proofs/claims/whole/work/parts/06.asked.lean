/-! remove, giving, given, output -/
theorem i_vc_remove {k : Nat} {u : SX} {v : SY} (I : i_Rel k u v) (hk : k + 6 ≤ 3072) (v1 : Int32) : wpX_remove (fun r u' => wpY_remove (fun r' v' => r' = r ∧ i_Rel (k + 6) u' v') v v1) u v1 := by
  obtain ⟨xl, xw, xk, xP, xL, xF, xQ, xT, xA, xB, xC, xM, xG, kF, kQ, kT, kA, kB, kC, kM, kG, xS, xZ⟩ := u
  obtain ⟨fT, fL, fK, fW, fB, fH, fO, aT, aL, aQ, aE, aG, aKQ, aKE, aKG, aW, aS, aM, aV, aZ, aB⟩ := v
  have I' := i_up I
  obtain ⟨hP, hL, hw, ⟨h, hC⟩, hK⟩ := I
  unfold wpX_remove
  dsimp only
  rcases ed_slot v1 with hb | ⟨s, hs, rfl⟩
  · refine xb_hasQ0 hb (br_t rfl ?_)
    unfold wpY_remove
    dsimp only
    exact yb_isSlot0 hb (br_t rfl ⟨rfl, I'⟩)
  have hS := ed_C_s hC hs
  have e0 : xQ (99 * s) = aQ (100 * s) := hS.1
  have cx : (nI s * 99 + 0).toNatClampNeg = 99 * s := (ed_x s 0 hs (by omega)).2
  have vx : vp_in (nI s * 99 + 0) 594 := (ed_x s 0 hs (by omega)).1
  have cy := ed_y0 s hs
  refine xb_hasQ hs (fun z => br_t rfl ?_) (fun z => br_f (by decide) ⟨vx, nm_e ?_⟩)
  · unfold wpY_remove
    dsimp only
    refine yb_isSlot hs (br_f (by decide) ⟨cy.1, ?_⟩)
    rw [cy.2]
    exact br_t (e0.symm.trans z) ⟨rfl, I'⟩
  · unfold wpY_remove
    dsimp only
    refine yb_isSlot hs (br_f (by decide) ⟨cy.1, ?_⟩)
    rw [cy.2, cx]
    refine br_f (fun q => z (e0.trans q)) ⟨cy.1, nm_e ⟨rfl, hP, hL, hw, ed_B_up (by omega) (ed_B_slot hs ?_ ?_ ?_ hC), ed_K_up (by omega) hK⟩⟩
    · intro j _ hj; exact pk_un (by omega)
    · intro j _ hj; exact pk_un (by omega)
    · refine ⟨?_, Or.inl ?_⟩
      · show upd xQ (99 * s) 0 (99 * s) = upd aQ (100 * s) 0 (100 * s)
        rw [pk_us, pk_us]
      · exact pk_us
theorem i_vc_giving {k : Nat} {u : SX} {v : SY} (I : i_Rel k u v) (hk : k + 6 ≤ 3072) (v1 : Int32) (v2 : Int32) (v3 : Int32) (v4 : Int32) : wpX_giving (fun r u' => wpY_giving (fun r' v' => r' = r ∧ i_Rel (k + 6) u' v') v v1 v2 v3 v4) u v1 v2 v3 v4 := by
  obtain ⟨xl, xw, xk, xP, xL, xF, xQ, xT, xA, xB, xC, xM, xG, kF, kQ, kT, kA, kB, kC, kM, kG, xS, xZ⟩ := u
  obtain ⟨fT, fL, fK, fW, fB, fH, fO, aT, aL, aQ, aE, aG, aKQ, aKE, aKG, aW, aS, aM, aV, aZ, aB⟩ := v
  have I' := i_up I
  obtain ⟨hP, hL, hw, ⟨h, hC⟩, hK⟩ := I
  unfold wpX_giving
  dsimp only
  rcases ed_slot v1 with hb | ⟨s, hs, rfl⟩
  · refine xb_hasQ0 hb (br_t rfl ?_)
    unfold wpY_giving
    dsimp only
    exact yb_isSlot0 hb (br_t rfl ⟨rfl, I'⟩)
  have hS := ed_C_s hC hs
  have e0 : xQ (99 * s) = aQ (100 * s) := hS.1
  have cy := ed_y0 s hs
  refine xb_hasQ hs (fun z => br_t rfl ?_) (fun z => br_f (by decide) ?_)
  · unfold wpY_giving
    dsimp only
    refine yb_isSlot hs (br_f (by decide) ⟨cy.1, ?_⟩)
    rw [cy.2]
    exact br_t (e0.symm.trans z) ⟨rfl, I'⟩
  have zy : ¬ aQ (100 * s) = 0 := fun q => z (e0.trans q)
  have Y : ∀ (A : Int32 → SY → Prop) , ((v3 < 1 → A 0 (fT, fL, fK, fW, fB, fH, fO, aT, aL, aQ, aE, aG, aKQ, aKE, aKG, aW, aS, aM, aV, aZ, aB)) ∧ (¬ v3 < 1 → ((8 < v3 → A 0 (fT, fL, fK, fW, fB, fH, fO, aT, aL, aQ, aE, aG, aKQ, aKE, aKG, aW, aS, aM, aV, aZ, aB)) ∧ (¬ 8 < v3 → ((v4 < 0 → A 0 (fT, fL, fK, fW, fB, fH, fO, aT, aL, aQ, aE, aG, aKQ, aKE, aKG, aW, aS, aM, aV, aZ, aB)) ∧ (¬ v4 < 0 → ((v4 ≤ 4 → A 1 (fT, fL, fK, fW, fB, fH, fO, aT, aL, upd (upd (upd aQ (100 * s + 6) v2) (100 * s + 7) v3) (100 * s + 8) v4, aE, aG, aKQ, aKE, aKG, aW, aS, aM, aV, aZ, aB)) ∧ (¬ v4 ≤ 4 → A 0 (fT, fL, fK, fW, fB, fH, fO, aT, aL, aQ, aE, aG, aKQ, aKE, aKG, aW, aS, aM, aV, aZ, aB))))))))) → wpY_giving A (fT, fL, fK, fW, fB, fH, fO, aT, aL, aQ, aE, aG, aKQ, aKE, aKG, aW, aS, aM, aV, aZ, aB) (nI s) v2 v3 v4 := by
    intro A H
    unfold wpY_giving
    dsimp only
    have w6 := ed_y s 6 hs (by omega)
    have w7 := ed_y s 7 hs (by omega)
    have w8 := ed_y s 8 hs (by omega)
    refine yb_isSlot hs (br_f (by decide) ⟨cy.1, ?_⟩)
    rw [cy.2]
    refine br_f zy ⟨H.1, fun a => ⟨(H.2 a).1, fun b => ⟨((H.2 a).2 b).1, fun c => ⟨fun d => ⟨w6.1, nm_e ⟨w7.1, nm_e ⟨w8.1, nm_e ?_⟩⟩⟩, (((H.2 a).2 b).2 c).2⟩⟩⟩⟩
    have q := (((H.2 a).2 b).2 c).1 d
    have c6 : (100 * nI s + 6).toNatClampNeg = 100 * s + 6 := w6.2
    have c7 : (100 * nI s + 7).toNatClampNeg = 100 * s + 7 := w7.2
    have c8 : (100 * nI s + 8).toNatClampNeg = 100 * s + 8 := w8.2
    rw [c6, c7, c8]
    exact q
  by_cases z1 : v3 < 1
  · exact br_t z1 (Y _ (br_t z1 ⟨rfl, I'⟩))
  by_cases z2 : 8 < v3
  · exact br_f z1 (br_t z2 (Y _ (br_f z1 (br_t z2 ⟨rfl, I'⟩))))
  by_cases z3 : v4 < 0
  · exact br_f z1 (br_f z2 (br_t z3 (Y _ (br_f z1 (br_f z2 (br_t z3 ⟨rfl, I'⟩))))))
  by_cases z4 : v4 ≤ 4
  · have w9 := ed_x s 9 hs (by omega)
    have w10 := ed_x s 10 hs (by omega)
    have w11 := ed_x s 11 hs (by omega)
    have c9 : (nI s * 99 + 9).toNatClampNeg = 99 * s + 9 := w9.2
    have c10 : (nI s * 99 + 10).toNatClampNeg = 99 * s + 10 := w10.2
    have c11 : (nI s * 99 + 11).toNatClampNeg = 99 * s + 11 := w11.2
    refine br_f z1 (br_f z2 (br_f z3 (br_t z4 (nm_e ⟨w9.1, nm_e ⟨w10.1, nm_e ⟨w11.1, nm_e ?_⟩⟩⟩))))
    rw [c9, c10, c11]
    refine Y _ (br_f z1 (br_f z2 (br_f z3 (br_t z4 ⟨rfl, hP, hL, hw, ed_B_up (by omega) (ed_B_slot hs ?_ ?_ ?_ hC), ed_K_up (by omega) hK⟩))))
    · intro j _ hj; rw [pk_un (by omega), pk_un (by omega), pk_un (by omega)]
    · intro j _ hj; rw [pk_un (by omega), pk_un (by omega), pk_un (by omega)]
    · obtain ⟨r', hr', rfl⟩ := nI_of2 (M := 8) (n := 8) (by decide) (fun q => z1 (Int32.lt_trans q (by decide))) (Int32.not_lt.mp z2)
      have r1 : 1 ≤ r' := by
        rcases Nat.eq_zero_or_pos r' with q | q
        · subst q; exact absurd (by decide) z1
        · exact q
      have hS' := hS
      obtain ⟨_, hq | ⟨f, g, c, r, Q⟩⟩ := hS
      · exact absurd hq z
      have Q' := Q
      obtain ⟨⟨hf, hg, hr1, hr8, hc⟩, ⟨n12, n14, n23, n10⟩, ⟨q9, q10, q11, q12, q13, q14, q23, qc⟩, ho, _⟩ := Q'
      refine ⟨?_, Or.inr ⟨f, g, c, r', ed_Qs_upd (Nat.le_refl _) ?_ ?_ (fun i _ => ⟨rfl, rfl, rfl, rfl⟩) (fun i _ => ⟨fun _ _ => rfl, rfl⟩) hg ⟨r1, hr'⟩ ?_ ?_ ?_ ?_ ?_ ?_ ?_ ?_ Q⟩⟩
      · show upd _ _ _ (99 * s) = upd _ _ _ (100 * s)
        rw [pk_un (by omega), pk_un (by omega), pk_un (by omega), pk_un (by omega), pk_un (by omega), pk_un (by omega)]
        exact e0
      · intro j h1 h2; (try dsimp only); simp (disch := omega) only [pk_us, pk_un]
      · intro j h1 h2; (try dsimp only); simp (disch := omega) only [pk_us, pk_un]
      · (try dsimp only); simp (disch := omega) only [pk_us, pk_un]; exact n14
      · (try dsimp only); simp (disch := omega) only [pk_us, pk_un]
      · (try dsimp only); simp (disch := omega) only [pk_us, pk_un]
      · (try dsimp only); simp (disch := omega) only [pk_us, pk_un]
      · (try dsimp only); simp (disch := omega) only [pk_us, pk_un]
      · (try dsimp only); simp (disch := omega) only [pk_us, pk_un]; exact q13
      · (try dsimp only); simp (disch := omega) only [pk_us, pk_un]; exact q14
      · intro j h1 h2; (try dsimp only); simp (disch := omega) only [pk_us, pk_un]; exact ho j h1 h2
  · exact br_f z1 (br_f z2 (br_f z3 (br_f z4 (Y _ (br_f z1 (br_f z2 (br_f z3 (br_f z4 ⟨rfl, I'⟩))))))))
theorem i_vc_given {k : Nat} {u : SX} {v : SY} (I : i_Rel k u v) (hk : k + 6 ≤ 3072) (v1 : Int32) (v2 : Int32) : wpX_given (fun r => wpY_given (fun r' => r' = r ∧ i_Rel (k + 6) u v) v v1 v2) u v1 v2 := by
  obtain ⟨xl, xw, xk, xP, xL, xF, xQ, xT, xA, xB, xC, xM, xG, kF, kQ, kT, kA, kB, kC, kM, kG, xS, xZ⟩ := u
  obtain ⟨fT, fL, fK, fW, fB, fH, fO, aT, aL, aQ, aE, aG, aKQ, aKE, aKG, aW, aS, aM, aV, aZ, aB⟩ := v
  have I' := i_up I
  obtain ⟨hP, hL, hw, ⟨h, hC⟩, hK⟩ := I
  unfold wpX_given
  dsimp only
  rcases ed_slot v1 with hb | ⟨s, hs, rfl⟩
  · refine xb_hasQ0 hb (br_t rfl ?_)
    unfold wpY_given
    dsimp only
    exact yb_isSlot0 hb (br_t rfl ⟨rfl, I'⟩)
  obtain ⟨e0, hq⟩ := ed_C_s hC hs
  dsimp only at e0 hq
  have e0 : xQ (99 * s) = aQ (100 * s) := e0
  have cy := ed_y0 s hs
  refine xb_hasQ hs (fun z => br_t rfl ?_) (fun z => br_f (by decide) ?_)
  · unfold wpY_given
    dsimp only
    refine yb_isSlot hs (br_f (by decide) ⟨cy.1, ?_⟩)
    rw [cy.2]
    exact br_t (e0.symm.trans z) ⟨rfl, I'⟩
  have zy : ¬ aQ (100 * s) = 0 := fun q => z (e0.trans q)
  rcases hq with hq | ⟨f, g, c, r, ⟨hf, hg, hr1, hr8, hc⟩, ⟨n12, n14, n23, n10⟩, ⟨q9, q10, q11, q12, q13, q14, q23, qc⟩, ho, _⟩
  · exact absurd hq z
  have c13 : (nI s * 99 + 13).toNatClampNeg = 99 * s + 13 := (ed_x s 13 hs (by omega)).2
  have c14 : (nI s * 99 + 14).toNatClampNeg = 99 * s + 14 := (ed_x s 14 hs (by omega)).2
  have d10 : (100 * nI s + 10).toNatClampNeg = 100 * s + 10 := (ed_y s 10 hs (by omega)).2
  have d11 : (100 * nI s + 11).toNatClampNeg = 100 * s + 11 := (ed_y s 11 hs (by omega)).2
  rw [c13, c14]
  have Y : ∀ A : Int32 → Prop, ((v2 < 0 → A (-1)) ∧ (¬ v2 < 0 → ((v2 ≤ 1 → ((v2 = 0 → A (aQ (100 * s + 11))) ∧ (¬ v2 = 0 → A (aQ (100 * s + 10))))) ∧ (¬ v2 ≤ 1 → A (-1))))) → wpY_given A (fT, fL, fK, fW, fB, fH, fO, aT, aL, aQ, aE, aG, aKQ, aKE, aKG, aW, aS, aM, aV, aZ, aB) (nI s) v2 := by
    intro A H
    unfold wpY_given
    dsimp only
    refine yb_isSlot hs (br_f (by decide) ⟨cy.1, ?_⟩)
    rw [cy.2, d10, d11]
    exact br_f zy ⟨H.1, fun a => ⟨fun b => ⟨fun c => ⟨(ed_y s 11 hs (by omega)).1, ((H.2 a).1 b).1 c⟩, fun c => ⟨(ed_y s 10 hs (by omega)).1, ((H.2 a).1 b).2 c⟩⟩, (H.2 a).2⟩⟩
  by_cases z0 : v2 = 0
  · refine br_t z0 ⟨(ed_x s 14 hs (by omega)).1, Y _ ?_⟩
    subst z0
    exact br_f (by decide) (br_t (by decide) (br_t rfl ⟨q14.symm, I'⟩))
  · refine br_f z0 ?_
    by_cases z1 : v2 = 1
    · refine br_t z1 ⟨(ed_x s 13 hs (by omega)).1, Y _ ?_⟩
      subst z1
      exact br_f (by decide) (br_t (by decide) (br_f (by decide) ⟨q13.symm, I'⟩))
    · refine br_f z1 (Y _ ⟨fun _ => ⟨rfl, I'⟩, fun a => ⟨fun b => ?_, fun _ => ⟨rfl, I'⟩⟩⟩)
      obtain ⟨d, hd, rfl⟩ := nI_of2 (M := 1) (n := 1) (by decide) a b
      have : d = 0 ∨ d = 1 := by omega
      rcases this with rfl | rfl
      · exact absurd rfl z0
      · exact absurd rfl z1
theorem i_vc_output {k : Nat} {u : SX} {v : SY} (I : i_Rel k u v) (hk : k + 6 ≤ 3072) (v1 : Int32) (v2 : Int32) : wpX_output (fun r => wpY_output (fun r' => r' = r ∧ i_Rel (k + 6) u v) v v1 v2) u v1 v2 := by
  obtain ⟨xl, xw, xk, xP, xL, xF, xQ, xT, xA, xB, xC, xM, xG, kF, kQ, kT, kA, kB, kC, kM, kG, xS, xZ⟩ := u
  obtain ⟨fT, fL, fK, fW, fB, fH, fO, aT, aL, aQ, aE, aG, aKQ, aKE, aKG, aW, aS, aM, aV, aZ, aB⟩ := v
  have I' := i_up I
  obtain ⟨hP, hL, hw, ⟨h, hC⟩, hK⟩ := I
  unfold wpX_output
  dsimp only
  rcases ed_slot v1 with hb | ⟨s, hs, rfl⟩
  · refine xb_hasQ0 hb (br_t rfl ?_)
    unfold wpY_output
    dsimp only
    exact yb_isSlot0 hb (br_t rfl ⟨rfl, I'⟩)
  have h64 := hC.2.1.2
  obtain ⟨e0, hq⟩ := ed_C_s hC hs
  dsimp only at e0 hq
  have e0 : xQ (99 * s) = aQ (100 * s) := e0
  have cy := ed_y0 s hs
  refine xb_hasQ hs (fun z => br_t rfl ?_) (fun z => br_f (by decide) ?_)
  · unfold wpY_output
    dsimp only
    refine yb_isSlot hs (br_f (by decide) ⟨cy.1, ?_⟩)
    rw [cy.2]
    exact br_t (e0.symm.trans z) ⟨rfl, I'⟩
  have zy : ¬ aQ (100 * s) = 0 := fun q => z (e0.trans q)
  rcases hq with hq | ⟨f, g, c, r, ⟨hf, hg, hr1, hr8, hc⟩, ⟨n12, n14, n23, n10⟩, ⟨q9, q10, q11, q12, q13, q14, q23, qc⟩, ho, _⟩
  · exact absurd hq z
  have c14 : (nI s * 99 + 14).toNatClampNeg = 99 * s + 14 := (ed_x s 14 hs (by omega)).2
  have d11 : (100 * nI s + 11).toNatClampNeg = 100 * s + 11 := (ed_y s 11 hs (by omega)).2
  have m14 : aQ (100 * s + 11) = nI g := q14.symm.trans n14
  have Y : ∀ A : Int32 → Prop, ((v2 < 0 → A 0) ∧ (¬ v2 < 0 → ((7 < v2 → A 0) ∧ (¬ 7 < v2 → ((v2 < nI g → (vp_in (((100 * nI s) + 12) + (((nI g - 1) - v2) &&& 7)) 600 ∧ A (aQ (((100 * nI s) + 12) + (((nI g - 1) - v2) &&& 7)).toNatClampNeg))) ∧ (¬ v2 < nI g → A 0)))))) → wpY_output A (fT, fL, fK, fW, fB, fH, fO, aT, aL, aQ, aE, aG, aKQ, aKE, aKG, aW, aS, aM, aV, aZ, aB) (nI s) v2 := by
    intro A H
    unfold wpY_output
    dsimp only
    refine yb_isSlot hs (br_f (by decide) ⟨cy.1, ?_⟩)
    rw [cy.2, d11, m14]
    exact br_f zy ⟨H.1, fun a => ⟨(H.2 a).1, fun b => ⟨(ed_y s 11 hs (by omega)).1, fun c => ⟨(ed_y s 11 hs (by omega)).1, ((H.2 a).2 b).1 c⟩, ((H.2 a).2 b).2⟩⟩⟩
  by_cases z0 : v2 < 0
  · exact br_t z0 (Y _ (br_t z0 ⟨rfl, I'⟩))
  by_cases z1 : v2 < 8
  · obtain ⟨j, hj, rfl⟩ := nI_of z0
    have hj8 : j < 8 := (nI_ltI (b := 8) hj (by omega)).mp z1
    have z7 : ¬ (7 : Int32) < nI j := nI_nlt (a := 7) (by omega) (by omega)
    have n14' : xQ (99 * s + 14) = nI g := n14
    refine br_f z0 (br_t z1 (nm_e ?_))
    rw [c14, n14']
    refine ⟨(ed_x s 14 hs (by omega)).1, ?_⟩
    by_cases z2 : j < g
    · have z2' : nI j < nI g := nI_lt z2 (by omega)
      have e1 : nI g - 1 - nI j = nI (g - 1 - j) := by
        rw [show (1 : Int32) = nI 1 from rfl, pk_sub (by omega), pk_sub (by omega)]
      have e2 : nI (g - 1 - j) - nI (g - 1 - j) / 8 * 8 = nI ((g - 1 - j) % 8) := pk_rem (d := 8) (by omega) (by omega) (by omega)
      have e3 : nI (g - 1 - j) &&& 7 = nI ((g - 1 - j) % 8) := pk_andN (by omega) 3 (by decide)
      have e4 : nI s * 99 + 15 = nI (99 * s + 15) := ed_xi s 15
      have e5 : 100 * nI s + 12 = nI (100 * s + 12) := ed_yi s 12
      have hm : (g - 1 - j) % 8 < 8 := Nat.mod_lt _ (by omega)
      have hm2 : (g - 1 - j) % 8 < g := Nat.lt_of_le_of_lt (Nat.mod_le _ _) (by omega)
      refine br_t z2' ⟨(ed_x s 14 hs (by omega)).1, by decide, ?_⟩
      rw [e1, e2, e4, nI_add, nI_clamp (by omega)]
      refine ⟨vp_in_nI (by omega) (by omega), Y _ (br_f z0 (br_f z7 (br_t z2' ?_)))⟩
      rw [e1, e3, e5, nI_add, nI_clamp (by omega)]
      refine ⟨vp_in_nI (by omega) (by omega), ?_, I'⟩
      have := ho _ hm hm2
      dsimp only at this
      rw [Nat.add_assoc, Nat.add_assoc]
      exact this.symm
    · have z2' : ¬ nI j < nI g := nI_nlt (by omega) (by omega)
      exact br_f z2' (Y _ (br_f z0 (br_f z7 (br_f z2' ⟨rfl, I'⟩))))
  · have z7 : (7 : Int32) < v2 := Int32.lt_of_lt_of_le (by decide) (Int32.not_lt.mp z1)
    exact br_f z0 (br_f z1 (Y _ (br_f z0 (br_t z7 ⟨rfl, I'⟩))))
