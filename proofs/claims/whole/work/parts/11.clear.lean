/-! clear -/
theorem ed_Q_clear {hs hi : Nat} {lx ly lx' ly' ty a b t ty' a' b' t' : Nat → Int32} {mb mb' : Nat → Nat → Bool} {gb gb' : Nat → Bool} (e1 : ∀ j, j < 99 → (j ≤ 11 ∨ 15 ≤ j) → lx' j = lx j) (x12 : lx' 12 = 0) (x13 : lx' 13 = 0) (x14 : lx' 14 = 0) (e2 : ∀ j, j < 100 → (j ≤ 8 ∨ 20 ≤ j) → ly' j = ly j) (y9 : ly' 9 = 0) (y10 : ly' 10 = 0) (y11 : ly' 11 = 0) (h : ed_Q hs hi lx ly ty a b t mb gb) : ed_Q 0 0 lx' ly' ty' a' b' t' mb' gb' := by
  obtain ⟨h0, h⟩ := h
  have g0 : lx' 0 = lx 0 := e1 0 (by omega) (by omega)
  refine ⟨(g0.trans h0).trans (e2 0 (by omega) (by omega)).symm, ?_⟩
  rcases h with h | ⟨f, g, c, r, ⟨hf, hg, hr1, hr8, hc⟩, ⟨n12, n14, n23, n10⟩, ⟨q9, q10, q11, q12, q13, q14, q23, qc⟩, ho, hv, hm, hz, hq⟩
  · exact Or.inl (g0.trans h)
  have sx : ∀ w, w < 3 → ∀ j, j < 25 → lx' (24 + 25 * w + j) = lx (24 + 25 * w + j) := fun w hw j hj => e1 _ (by omega) (by omega)
  have sy : ∀ w, w < 3 → ∀ j, j < 25 → ly' (24 + 25 * w + j) = ly (24 + 25 * w + j) := fun w hw j hj => e2 _ (by omega) (by omega)
  refine Or.inr ⟨0, 0, c, r, ⟨Nat.le_refl _, Nat.le_refl _, hr1, hr8, hc⟩, ⟨x12, x14, (e1 23 (by omega) (by omega)).trans n23, (e1 10 (by omega) (by omega)).trans n10⟩, ⟨?_, ?_, ?_, x12.trans y9.symm, x13.trans y10.symm, x14.trans y11.symm, ?_, fun w hw => ed_ce_cg (qc w hw) (sx w hw) (sy w hw)⟩, fun j _ hj => absurd hj (Nat.not_lt_zero _), fun w hw => ed_cv_cg (hv w hw) (sx w (by omega)), fun i w _ h2 _ => absurd h2 (Nat.not_lt_zero _), fun i _ h2 => absurd h2 (Nat.not_lt_zero _), ?_⟩
  · rw [e1 9 (by omega) (by omega), e2 6 (by omega) (by omega)]; exact q9
  · rw [e1 10 (by omega) (by omega), e2 7 (by omega) (by omega)]; exact q10
  · rw [e1 11 (by omega) (by omega), e2 8 (by omega) (by omega)]; exact q11
  · rw [e1 23 (by omega) (by omega), e2 20 (by omega) (by omega)]; exact q23
  · rcases hq with hq | hq | hq
    · refine Or.inl ?_
      unfold ed_Qw
      rw [g0, e1 1 (by omega) (by omega), e1 3 (by omega) (by omega), e1 4 (by omega) (by omega), e1 5 (by omega) (by omega), e2 1 (by omega) (by omega), e2 2 (by omega) (by omega), e2 3 (by omega) (by omega), e2 4 (by omega) (by omega)]
      exact hq
    · refine Or.inr (Or.inl ?_)
      unfold ed_Qp
      rw [g0, e1 1 (by omega) (by omega), e1 6 (by omega) (by omega), e1 7 (by omega) (by omega), e1 8 (by omega) (by omega), e2 1 (by omega) (by omega), e2 2 (by omega) (by omega), e2 3 (by omega) (by omega), e2 4 (by omega) (by omega)]
      obtain ⟨z0, zc, eq, on, z1, z2, z3, z4, z5, z6, z7, z8, zb⟩ := hq
      exact ⟨z0, zc, eq, on, z1, z2, z3, z4, z5, z6, z7, z8, fun i _ h2 => absurd h2 (Nat.not_lt_zero _)⟩
    · refine Or.inr (Or.inr ?_)
      unfold ed_Qj
      rw [g0, e1 1 (by omega) (by omega), e1 2 (by omega) (by omega), e2 1 (by omega) (by omega), e2 2 (by omega) (by omega)]
      exact hq
def ed_XZ (n : Nat) (q0 q : Nat → Int32) : Prop :=
  (∀ s, s < n → q (99 * s + 12) = 0 ∧ q (99 * s + 13) = 0 ∧ q (99 * s + 14) = 0) ∧ (∀ s j, s < 6 → j < 99 → (n ≤ s ∨ j ≤ 11 ∨ 15 ≤ j) → q (99 * s + j) = q0 (99 * s + j))
def ed_YZ (n d : Nat) (q0 q : Nat → Int32) : Prop :=
  (∀ s j, s < 6 → 9 ≤ j → j < 20 → (s < n ∨ (s = n ∧ j < d)) → q (100 * s + j) = 0) ∧ (∀ s j, s < 6 → j < 100 → (j ≤ 8 ∨ 20 ≤ j) → q (100 * s + j) = q0 (100 * s + j))
section
variable {xl xw xk : Int32} {xP xL xF xQ xT xA xB xC xM xG kF kQ kT kA kB kC kM kG xS xZ : Nat → Int32}
variable {fT fL fK fW fB fH fO : Int32} {aT aL aQ aE aG aKQ aKE aKG aW aS aM aV aZ aB : Nat → Int32}
theorem xv_clear {post : Int32 → SX → Prop} (h : ∀ f q : Nat → Int32, (∀ j, j < 4 → f j = 0) → ed_XZ 6 xQ q → post (xF 0) (xl, xw, xk, xP, xL, f, q, xT, xA, xB, xC, xM, xG, kF, kQ, kT, kA, kB, kC, kM, kG, xS, xZ)) : wpX_clear post (xl, xw, xk, xP, xL, xF, xQ, xT, xA, xB, xC, xM, xG, kF, kQ, kT, kA, kB, kC, kM, kG, xS, xZ) := by
  have k29 : ∀ (f : Nat → Int32), (∀ j, j < 4 → f j = 0) → ∀ (m i : Nat) (q : Nat → Int32), i + m = 6 → ed_XZ i xQ q → wX_clear_29 post (xF 0) (m + 1) (nI i) xl xw xk xP xL f q xT xA xB xC xM xG kF kQ kT kA kB kC kM kG xS xZ := by
    intro f hf m
    induction m with
    | zero =>
      intro i q hi hq
      have e : i = 6 := by omega
      subst e
      exact br_t (nI_le (a := 6) (b := 6) (Nat.le_refl _) (by omega)) (h f q hf hq)
    | succ m ih =>
      intro i q hi hq
      refine br_f (nI_ge (b := 6) (by omega) (by omega)) (xb_see (by omega) (nm_r (nI_1 i) (ih (i + 1) _ (by omega) ⟨?_, ?_⟩)))
      · intro s hs
        rw [hf 0 (by omega)]
        by_cases e : s = i
        · subst e; simp (disch := omega) only [pk_us, pk_un]; exact ⟨trivial, trivial, trivial⟩
        · simp (disch := omega) only [pk_us, pk_un]; exact hq.1 s (by omega)
      · intro s j hs hj hc
        by_cases e : s = i
        · subst e; simp (disch := omega) only [pk_us, pk_un]; exact hq.2 s j hs hj (by omega)
        · simp (disch := omega) only [pk_us, pk_un]; exact hq.2 s j hs hj (by omega)
  have k9 : ∀ (m i : Nat) (f : Nat → Int32), i + m = 4 → (∀ j, j < i → f j = 0) → wX_clear_9 post (xF 0) xl xw xk (m + 1) (nI i) xP xL f xQ xT xA xB xC xM xG kF kQ kT kA kB kC kM kG xS xZ := by
    intro m
    induction m with
    | zero =>
      intro i f hi hf
      have e : i = 4 := by omega
      subst e
      exact br_t (nI_le (a := 4) (b := 4) (Nat.le_refl _) (by omega)) ⟨7, k29 f hf 6 0 xQ (by omega) ⟨fun s hs => absurd hs (Nat.not_lt_zero _), fun _ _ _ _ _ => rfl⟩⟩
    | succ m ih =>
      intro i f hi hf
      refine br_f (nI_ge (b := 4) (by omega) (by omega)) ⟨vp_in_nI (by omega) (by omega), nm_r (e' := upd f i 0) (by rw [nI_clamp (by omega)]) (nm_r (nI_1 i) (ih (i + 1) _ (by omega) ?_))⟩
      intro j hj
      by_cases e : j = i
      · subst e; rw [pk_us]
      · rw [pk_un (by omega)]; exact hf j (by omega)
  exact nm_e ⟨5, k9 4 0 xF (by omega) (fun j hj => absurd hj (Nat.not_lt_zero _))⟩
theorem yv_clear {post : Int32 → SY → Prop} (h : ∀ g q : Nat → Int32, (∀ j, j < 4 → g j = 0) → ed_YZ 6 9 aQ q → post (aG 0) (fT, fL, fK, fW, fB, fH, fO, aT, aL, q, aE, g, aKQ, aKE, aKG, aW, aS, aM, aV, aZ, aB)) : wpY_clear post (fT, fL, fK, fW, fB, fH, fO, aT, aL, aQ, aE, aG, aKQ, aKE, aKG, aW, aS, aM, aV, aZ, aB) := by
  have k29 : ∀ (g : Nat → Int32), (∀ j, j < 4 → g j = 0) → ∀ (m i : Nat) (q : Nat → Int32), i + m = 6 → ed_YZ i 9 aQ q → wY_clear_29 post (aG 0) fT fL fK fW fB fH fO (m + 1) (nI i) aT aL q aE g aKQ aKE aKG aW aS aM aV aZ aB := by
    intro g hg m
    induction m with
    | zero =>
      intro i q hi hq
      have e : i = 6 := by omega
      subst e
      exact br_t (nI_le (a := 6) (b := 6) (Nat.le_refl _) (by omega)) (h g q hg hq)
    | succ m ih =>
      intro i q hi hq
      refine br_f (nI_ge (b := 6) (by omega) (by omega)) ⟨12, ?_⟩
      have k38 : ∀ (m' j : Nat) (q : Nat → Int32), j + m' = 20 → 9 ≤ j → ed_YZ i j aQ q → wY_clear_38 post (wY_clear_29 post (aG 0) fT fL fK fW fB fH fO (m + 1)) (aG 0) (nI i) fT fL fK fW fB fH fO (m' + 1) (nI j) aT aL q aE g aKQ aKE aKG aW aS aM aV aZ aB := by
        intro m'
        induction m' with
        | zero =>
          intro j q hj _ hq
          have e : j = 20 := by omega
          subst e
          refine br_t (nI_le (a := 20) (b := 20) (Nat.le_refl _) (by omega)) (nm_r (nI_1 i) (ih (i + 1) q (by omega) ⟨?_, hq.2⟩))
          intro s j hs h1 h2 hc
          exact hq.1 s j hs h1 h2 (by omega)
        | succ m' ih' =>
          intro j q hj h9 hq
          have e2 : (100 : Int32) * nI i + nI j = nI (100 * i + j) := ed_yi i j
          refine br_f (nI_ge (b := 20) (by omega) (by omega)) ⟨by rw [e2]; exact vp_in_nI (by omega) (by omega), nm_r (e' := upd q (100 * i + j) 0) (by rw [e2, nI_clamp (by omega)]) (nm_r (nI_1 j) (ih' (j + 1) _ (by omega) (by omega) ⟨?_, ?_⟩))⟩
          · intro s j' hs h1 h2 hc
            by_cases e : s = i ∧ j' = j
            · obtain ⟨rfl, rfl⟩ := e; rw [pk_us]
            · rw [pk_un (by omega)]; exact hq.1 s j' hs h1 h2 (by omega)
          · intro s j' hs h1 hc
            rw [pk_un (by omega)]; exact hq.2 s j' hs h1 hc
      exact k38 11 9 q (by omega) (by omega) hq
  have k9 : ∀ (m i : Nat) (g : Nat → Int32), i + m = 4 → (∀ j, j < i → g j = 0) → wY_clear_9 post (aG 0) fT fL fK fW fB fH fO (m + 1) (nI i) aT aL aQ aE g aKQ aKE aKG aW aS aM aV aZ aB := by
    intro m
    induction m with
    | zero =>
      intro i g hi hg
      have e : i = 4 := by omega
      subst e
      exact br_t (nI_le (a := 4) (b := 4) (Nat.le_refl _) (by omega)) ⟨7, k29 g hg 6 0 aQ (by omega) ⟨fun s j _ h1 _ hc => by omega, fun _ _ _ _ _ => rfl⟩⟩
    | succ m ih =>
      intro i g hi hg
      refine br_f (nI_ge (b := 4) (by omega) (by omega)) ⟨vp_in_nI (by omega) (by omega), nm_r (e' := upd g i 0) (by rw [nI_clamp (by omega)]) (nm_r (nI_1 i) (ih (i + 1) _ (by omega) ?_))⟩
      intro j hj
      by_cases e : j = i
      · subst e; rw [pk_us]
      · rw [pk_un (by omega)]; exact hg j (by omega)
  exact nm_e ⟨5, k9 4 0 aG (by omega) (fun j hj => absurd hj (Nat.not_lt_zero _))⟩
end
theorem i_vc_clear {k : Nat} {u : SX} {v : SY} (I : i_Rel k u v) (hk : k + 6 ≤ 3072) : wpX_clear (fun r u' => wpY_clear (fun r' v' => r' = r ∧ i_Rel (k + 6) u' v') v) u := by
  obtain ⟨xl, xw, xk, xP, xL, xF, xQ, xT, xA, xB, xC, xM, xG, kF, kQ, kT, kA, kB, kC, kM, kG, xS, xZ⟩ := u
  obtain ⟨fT, fL, fK, fW, fB, fH, fO, aT, aL, aQ, aE, aG, aKQ, aKE, aKG, aW, aS, aM, aV, aZ, aB⟩ := v
  obtain ⟨hP, hL, hw, ⟨h, hC⟩, hK⟩ := I
  refine xv_clear (fun f q hf hq => yv_clear (fun g r hg hr => ?_))
  refine ⟨hC.1.2.1.trans hC.1.1.symm, hP, hL, hw, ⟨0, ⟨hf 0 (by omega), hg 0 (by omega), (hf 1 (by omega)).trans (hg 1 (by omega)).symm, (hf 2 (by omega)).trans (hg 2 (by omega)).symm, (hf 3 (by omega)).trans (hg 3 (by omega)).symm⟩, ⟨Nat.le_refl _, by omega⟩, ⟨0, fun _ => 0, hf 2 (by omega), by omega, fun i hi => absurd hi (Nat.not_lt_zero _), fun i j _ hj => absurd hj (Nat.not_lt_zero _)⟩, fun i hi => absurd hi (Nat.not_lt_zero _), fun s hs => ⟨Nat.le_refl _, ?_⟩⟩, ed_K_up (by omega) hK⟩
  have hS := ed_C_s hC hs
  unfold ed_S at hS ⊢
  refine ed_Q_clear ?_ (hq.1 s hs).1 (hq.1 s hs).2.1 (hq.1 s hs).2.2 ?_ (hr.1 s 9 hs (by omega) (by omega) (by omega)) (hr.1 s 10 hs (by omega) (by omega) (by omega)) (hr.1 s 11 hs (by omega) (by omega) (by omega)) hS
  · intro j h1 h2; exact hq.2 s j hs h1 (by omega)
  · intro j h1 h2; exact hr.2 s j hs h1 h2
