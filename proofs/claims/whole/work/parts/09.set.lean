/-! setting a question -/
def ed_XS (s : Nat) (so nn f0 lc : Int32) (xL q0 q : Nat → Int32) : Prop :=
  q (99 * s) = so ∧ q (99 * s + 1) = nn ∧ q (99 * s + 9) = -2147483648 ∧ q (99 * s + 10) = 1 ∧ q (99 * s + 11) = 4 ∧ q (99 * s + 12) = f0 ∧ q (99 * s + 13) = 0 ∧ q (99 * s + 14) = 0 ∧ q (99 * s + 23) = lc ∧ (∀ j, j < 75 → q (99 * s + 24 + j) = xL j) ∧ (∀ j, j < 99 * s ∨ 99 * s + 99 ≤ j → q j = q0 j)
def ed_YS (s : Nat) (so a b c f0 lc : Int32) (aL q0 q : Nat → Int32) : Prop :=
  (q (100 * s) = so ∧ q (100 * s + 1) = a ∧ q (100 * s + 2) = b ∧ q (100 * s + 3) = c) ∧ q (100 * s + 6) = -2147483648 ∧ q (100 * s + 7) = 1 ∧ q (100 * s + 8) = 4 ∧ q (100 * s + 9) = f0 ∧ q (100 * s + 10) = 0 ∧ q (100 * s + 11) = 0 ∧ q (100 * s + 20) = lc ∧ (∀ j, j < 75 → q (100 * s + 24 + j) = aL j) ∧ (∀ j, j < 100 * s ∨ 100 * s + 100 ≤ j → q j = q0 j)
section
variable {xl xw xk : Int32} {xP xL xF xQ xT xA xB xC xM xG kF kQ kT kA kB kC kM kG xS xZ : Nat → Int32}
variable {fT fL fK fW fB fH fO : Int32} {aT aL aQ aE aG aKQ aKE aKG aW aS aM aV aZ aB : Nat → Int32}
theorem xb_see {post : SX → Prop} {s : Nat} (hs : s < 6) (h : post (xl, xw, xk, xP, xL, xF, upd (upd (upd xQ (99 * s + 12) (xF 0)) (99 * s + 13) 0) (99 * s + 14) 0, xT, xA, xB, xC, xM, xG, kF, kQ, kT, kA, kB, kC, kM, kG, xS, xZ)) : wpX_seeFromNowOn post (xl, xw, xk, xP, xL, xF, xQ, xT, xA, xB, xC, xM, xG, kF, kQ, kT, kA, kB, kC, kM, kG, xS, xZ) (nI s) := by
  have w12 := ed_x s 12 hs (by omega)
  have w13 := ed_x s 13 hs (by omega)
  have w14 := ed_x s 14 hs (by omega)
  have c12 : (nI s * 99 + 12).toNatClampNeg = 99 * s + 12 := w12.2
  have c13 : (nI s * 99 + 13).toNatClampNeg = 99 * s + 13 := w13.2
  have c14 : (nI s * 99 + 14).toNatClampNeg = 99 * s + 14 := w14.2
  refine nm_e ⟨w12.1, nm_e ⟨w13.1, nm_e ⟨w14.1, nm_e ?_⟩⟩⟩
  rw [c12, c13, c14]
  exact h
theorem xs_set {post : SX → Prop} {s : Nat} {so nn : Int32} (hs : s < 6) (h : ∀ q, ed_XS s so nn (xF 0) xl xL xQ q → post (0, xw, xk, xP, xL, xF, q, xT, xA, xB, xC, xM, xG, kF, kQ, kT, kA, kB, kC, kM, kG, xS, xZ)) : wpX_setQuestion post (xl, xw, xk, xP, xL, xF, xQ, xT, xA, xB, xC, xM, xG, kF, kQ, kT, kA, kB, kC, kM, kG, xS, xZ) (nI s) so nn := by
  have w0 := ed_x s 0 hs (by omega)
  have w1 := ed_x s 1 hs (by omega)
  have w9 := ed_x s 9 hs (by omega)
  have w10 := ed_x s 10 hs (by omega)
  have w11 := ed_x s 11 hs (by omega)
  have w23 := ed_x s 23 hs (by omega)
  have c0 : (nI s * 99 + 0).toNatClampNeg = 99 * s + 0 := w0.2
  have c1 : (nI s * 99 + 1).toNatClampNeg = 99 * s + 1 := w1.2
  have c9 : (nI s * 99 + 9).toNatClampNeg = 99 * s + 9 := w9.2
  have c10 : (nI s * 99 + 10).toNatClampNeg = 99 * s + 10 := w10.2
  have c11 : (nI s * 99 + 11).toNatClampNeg = 99 * s + 11 := w11.2
  have c23 : (nI s * 99 + 23).toNatClampNeg = 99 * s + 23 := w23.2
  have e24 : nI s * 99 + 24 = nI (99 * s + 24) := ed_xi s 24
  unfold wpX_setQuestion
  dsimp only
  refine nm_e ⟨w0.1, nm_e ⟨w1.1, nm_e ⟨w9.1, nm_e ⟨w10.1, nm_e ⟨w11.1, nm_e ⟨w23.1, nm_e ?_⟩⟩⟩⟩⟩⟩
  rw [c0, c1, c9, c10, c11, c23, e24]
  refine xc_list_questions (p := 0) (q := 99 * s + 24) (c := 75) (by omega) (by omega) (fun d d1 d2 => xb_see hs (h _ ?_))
  refine ⟨?_, ?_, ?_, ?_, ?_, ?_, ?_, ?_, ?_, ?_, ?_⟩
  · simp (disch := omega) only [pk_us, pk_un]; rw [d2 _ (by omega)]; simp (disch := omega) only [pk_us, pk_un]; exact pk_us
  · simp (disch := omega) only [pk_us, pk_un]; rw [d2 _ (by omega)]; simp (disch := omega) only [pk_us, pk_un]
  · simp (disch := omega) only [pk_us, pk_un]; rw [d2 _ (by omega)]; simp (disch := omega) only [pk_us, pk_un]
  · simp (disch := omega) only [pk_us, pk_un]; rw [d2 _ (by omega)]; simp (disch := omega) only [pk_us, pk_un]
  · simp (disch := omega) only [pk_us, pk_un]; rw [d2 _ (by omega)]; simp (disch := omega) only [pk_us, pk_un]
  · simp (disch := omega) only [pk_us, pk_un]
  · simp (disch := omega) only [pk_us, pk_un]
  · simp (disch := omega) only [pk_us, pk_un]
  · simp (disch := omega) only [pk_us, pk_un]; rw [d2 _ (by omega)]; simp (disch := omega) only [pk_us, pk_un]
  · intro j hj; simp (disch := omega) only [pk_us, pk_un]; rw [d1 j hj, Nat.zero_add]
  · intro j hj; simp (disch := omega) only [pk_us, pk_un]; rw [d2 _ (by omega)]; simp (disch := omega) only [pk_us, pk_un]
theorem yc_set154 {post : SY → Prop} {s : Nat} (hs : s < 6) (h : ∀ d : Nat → Int32, (∀ j, j < 75 → d (100 * s + 24 + j) = aL j) → (∀ j, (j < 100 * s + 24 ∨ 100 * s + 99 ≤ j) → d j = aQ j) → post (fT, 0, fK, fW, fB, fH, fO, aT, aL, d, aE, aG, aKQ, aKE, aKG, aW, aS, aM, aV, aZ, aB)) : ∃ n : Nat, wY_set_154 post (nI s) fT fL fK fW fB fH fO n 0 aT aL aQ aE aG aKQ aKE aKG aW aS aM aV aZ aB := by
  have key : ∀ (m i : Nat) (d : Nat → Int32), i + m = 75 → (∀ j, j < i → d (100 * s + 24 + j) = aL j) → (∀ j, (j < 100 * s + 24 ∨ 100 * s + 24 + i ≤ j) → d j = aQ j) → wY_set_154 post (nI s) fT fL fK fW fB fH fO (m + 1) (nI i) aT aL d aE aG aKQ aKE aKG aW aS aM aV aZ aB := by
    intro m
    induction m with
    | zero =>
      intro i d hi h1 h2
      have e : i = 75 := by omega
      subst e
      exact br_t (nI_le (a := 75) (b := 75) (Nat.le_refl _) (by omega)) (h d h1 (fun j hj => h2 j (by omega)))
    | succ m ih =>
      intro i d hi h1 h2
      have ei : (nI i).toNatClampNeg = i := nI_clamp (by omega)
      have e2 : (100 : Int32) * nI s + 24 + nI i = nI (100 * s + 24 + i) := by
        rw [show (100 : Int32) * nI s + 24 = nI (100 * s + 24) from ed_yi s 24, nI_add]
      refine br_f (nI_ge (b := 75) (by omega) (by omega)) ⟨vp_in_nI (by omega) (by omega), by rw [e2]; exact vp_in_nI (by omega) (by omega), nm_r (e' := upd d (100 * s + 24 + i) (aL i)) (by rw [e2, ei, nI_clamp (by omega)]) (nm_r (nI_1 i) (ih (i + 1) _ (by omega) ?_ ?_))⟩
      · intro j hj
        by_cases e : j = i
        · subst e; rw [pk_us]
        · rw [pk_un (by omega)]; exact h1 j (by omega)
      · intro j hj
        rw [pk_un (by omega)]; exact h2 j (by omega)
  exact ⟨76, key 75 0 aQ (by omega) (fun j hj => absurd hj (Nat.not_lt_zero _)) (fun _ _ => rfl)⟩
theorem ys_set {post : SY → Prop} {s : Nat} {so a b c : Int32} (hs : s < 6) (h : ∀ q, ed_YS s so a b c (aG 0) fL aL aQ q → post (fT, 0, fK, fW, fB, fH, fO, aT, aL, q, aE, aG, aKQ, aKE, aKG, aW, aS, aM, aV, aZ, aB)) : wpY_set post (fT, fL, fK, fW, fB, fH, fO, aT, aL, aQ, aE, aG, aKQ, aKE, aKG, aW, aS, aM, aV, aZ, aB) (nI s) so a b c := by
  have w0 := ed_y0 s hs
  have w1 := ed_y s 1 hs (by omega)
  have w2 := ed_y s 2 hs (by omega)
  have w3 := ed_y s 3 hs (by omega)
  have w6 := ed_y s 6 hs (by omega)
  have w7 := ed_y s 7 hs (by omega)
  have w8 := ed_y s 8 hs (by omega)
  have w9 := ed_y s 9 hs (by omega)
  have w20 := ed_y s 20 hs (by omega)
  have c1 : (100 * nI s + 1).toNatClampNeg = 100 * s + 1 := w1.2
  have c2 : (100 * nI s + 2).toNatClampNeg = 100 * s + 2 := w2.2
  have c3 : (100 * nI s + 3).toNatClampNeg = 100 * s + 3 := w3.2
  have c6 : (100 * nI s + 6).toNatClampNeg = 100 * s + 6 := w6.2
  have c7 : (100 * nI s + 7).toNatClampNeg = 100 * s + 7 := w7.2
  have c8 : (100 * nI s + 8).toNatClampNeg = 100 * s + 8 := w8.2
  have c9 : (100 * nI s + 9).toNatClampNeg = 100 * s + 9 := w9.2
  have c20 : (100 * nI s + 20).toNatClampNeg = 100 * s + 20 := w20.2
  have fin : ∀ d : Nat → Int32, (∀ j, j < 100 → d (100 * s + j) = 0) → (∀ j, (j < 100 * s ∨ 100 * s + 100 ≤ j) → d j = aQ j) → ∃ n : Nat, wY_set_154 post (nI s) fT fL fK fW fB fH fO n 0 aT aL (upd (upd (upd (upd (upd (upd (upd (upd (upd d (100 * s) so) (100 * s + 1) a) (100 * s + 2) b) (100 * s + 3) c) (100 * s + 6) (-2147483648)) (100 * s + 7) 1) (100 * s + 8) 4) (100 * s + 9) (aG 0)) (100 * s + 20) fL) aE aG aKQ aKE aKG aW aS aM aV aZ aB := by
    intro d d1 d2
    refine yc_set154 hs (fun q q1 q2 => h q ?_)
    refine ⟨⟨?_, ?_, ?_, ?_⟩, ?_, ?_, ?_, ?_, ?_, ?_, ?_, q1, ?_⟩
    · rw [q2 _ (by omega)]; simp (disch := omega) only [pk_us, pk_un]
    · rw [q2 _ (by omega)]; simp (disch := omega) only [pk_us, pk_un]
    · rw [q2 _ (by omega)]; simp (disch := omega) only [pk_us, pk_un]
    · rw [q2 _ (by omega)]; simp (disch := omega) only [pk_us, pk_un]
    · rw [q2 _ (by omega)]; simp (disch := omega) only [pk_us, pk_un]
    · rw [q2 _ (by omega)]; simp (disch := omega) only [pk_us, pk_un]
    · rw [q2 _ (by omega)]; simp (disch := omega) only [pk_us, pk_un]
    · rw [q2 _ (by omega)]; simp (disch := omega) only [pk_us, pk_un]
    · rw [q2 _ (by omega)]; simp (disch := omega) only [pk_us, pk_un]; exact d1 10 (by omega)
    · rw [q2 _ (by omega)]; simp (disch := omega) only [pk_us, pk_un]; exact d1 11 (by omega)
    · rw [q2 _ (by omega)]; simp (disch := omega) only [pk_us, pk_un]
    · intro j hj; rw [q2 _ (by omega)]; simp (disch := omega) only [pk_us, pk_un]; exact d2 j hj
  have key : ∀ (m i : Nat) (d : Nat → Int32), i + m = 100 → (∀ j, j < i → d (100 * s + j) = 0) → (∀ j, (j < 100 * s ∨ 100 * s + i ≤ j) → d j = aQ j) → wY_set_3 post (nI s) so a b c fT fL fK fW fB fH fO (m + 1) (nI i) aT aL d aE aG aKQ aKE aKG aW aS aM aV aZ aB := by
    intro m
    induction m with
    | zero =>
      intro i d hi h1 h2
      have e : i = 100 := by omega
      subst e
      refine br_t (nI_le (a := 100) (b := 100) (Nat.le_refl _) (by omega)) ⟨w0.1, nm_e ⟨w1.1, nm_e ⟨w2.1, nm_e ⟨w3.1, nm_e ⟨w6.1, nm_e ⟨w7.1, nm_e ⟨w8.1, nm_e ⟨w9.1, nm_e ⟨w20.1, nm_e ?_⟩⟩⟩⟩⟩⟩⟩⟩⟩
      rw [w0.2, c1, c2, c3, c6, c7, c8, c9, c20]
      exact fin d h1 h2
    | succ m ih =>
      intro i d hi h1 h2
      have e2 : (100 : Int32) * nI s + nI i = nI (100 * s + i) := ed_yi s i
      refine br_f (nI_ge (b := 100) (by omega) (by omega)) ⟨by rw [e2]; exact vp_in_nI (by omega) (by omega), nm_r (e' := upd d (100 * s + i) 0) (by rw [e2, nI_clamp (by omega)]) (nm_r (nI_1 i) (ih (i + 1) _ (by omega) ?_ ?_))⟩
      · intro j hj
        by_cases e : j = i
        · subst e; rw [pk_us]
        · rw [pk_un (by omega)]; exact h1 j (by omega)
      · intro j hj
        rw [pk_un (by omega)]; exact h2 j (by omega)
  exact ⟨101, key 100 0 aQ (by omega) (fun j hj => absurd hj (Nat.not_lt_zero _)) (fun _ _ => rfl)⟩
end
theorem ed_Q_new {h l : Nat} {lx ly xL aL ty a b t : Nat → Int32} {mb : Nat → Nat → Bool} {gb : Nat → Bool} (hl3 : l ≤ 3) (a9 : lx 9 = -2147483648) (a10 : lx 10 = 1) (a11 : lx 11 = 4) (a12 : lx 12 = nI h) (a13 : lx 13 = 0) (a14 : lx 14 = 0) (a23 : lx 23 = nI l) (ac : ∀ j, j < 75 → lx (24 + j) = xL j) (b6 : ly 6 = -2147483648) (b7 : ly 7 = 1) (b8 : ly 8 = 4) (b9 : ly 9 = nI h) (b10 : ly 10 = 0) (b11 : ly 11 = 0) (b20 : ly 20 = nI l) (bc : ∀ j, j < 75 → ly (24 + j) = aL j) (lc : ∀ w, w < 3 → ed_ce xL (25 * w) aL (25 * w)) (lv : ∀ w, w < l → ed_cv xL (25 * w)) (e0 : lx 0 = ly 0) (hq : ed_Qw l lx ly ∨ ed_Qp l h h lx ly ty a b t gb ∨ ed_Qj l lx ly) : ed_Q h h lx ly ty a b t mb gb := by
  have sx : ∀ w, w < 3 → ∀ j, j < 25 → lx (24 + 25 * w + j) = xL (25 * w + j) := fun w hw j hj => by rw [Nat.add_assoc]; exact ac _ (by omega)
  have sy : ∀ w, w < 3 → ∀ j, j < 25 → ly (24 + 25 * w + j) = aL (25 * w + j) := fun w hw j hj => by rw [Nat.add_assoc]; exact bc _ (by omega)
  refine ⟨e0, Or.inr ⟨h, 0, l, 1, ⟨Nat.le_refl _, Nat.zero_le _, by omega, by omega, hl3⟩, ⟨a12, a14, a23, a10⟩, ⟨a9.trans b6.symm, a10.trans b7.symm, a11.trans b8.symm, a12.trans b9.symm, a13.trans b10.symm, a14.trans b11.symm, a23.trans b20.symm, fun w hw => ed_ce_cg (lc w hw) (sx w hw) (sy w hw)⟩, fun j _ hj => absurd hj (Nat.not_lt_zero _), fun w hw => ed_cv_cg (lv w hw) (sx w (by omega)), fun i w h1 h2 _ => by omega, fun i h1 h2 => by omega, hq⟩⟩
def ed_win (p n : Int32) : Prop := (p = 0 ∨ p = 4) ∨ ((p = 1 ∨ p = 3) ∧ ¬ n < 1 ∧ ¬ 16 < n) ∨ ((p = 2 ∨ p = 5) ∧ ¬ n < 1 ∧ ¬ 100 < n)
theorem ed_win_r {p n : Int32} (h : ed_win p n) : ¬ p < 0 ∧ ¬ 5 < p := by
  rcases h with (h | h) | ⟨h | h, _⟩ | ⟨h | h, _⟩ <;> subst h <;> decide
theorem ed_win_c {p : Int32} (h0 : ¬ p < 0) (h5 : ¬ 5 < p) : p = 0 ∨ p = 1 ∨ p = 2 ∨ p = 3 ∨ p = 4 ∨ p = 5 := by
  obtain ⟨j, hj, rfl⟩ := nI_of2 (M := 5) (n := 5) (by decide) h0 (Int32.not_lt.mp h5)
  have : j = 0 ∨ j = 1 ∨ j = 2 ∨ j = 3 ∨ j = 4 ∨ j = 5 := by omega
  rcases this with rfl | rfl | rfl | rfl | rfl | rfl <;> simp [nI]
theorem xb_wsize {post : Int32 → Prop} {p n : Int32} (h1 : ed_win p n → post 1) (h0 : ¬ ed_win p n → post 0) : wpX_isWindowSize post p n := by
  by_cases a : p < 0
  · exact br_t a (h0 (fun q => (ed_win_r q).1 a))
  by_cases b : 5 < p
  · exact br_f a (br_t b (h0 (fun q => (ed_win_r q).2 b)))
  refine br_f a (br_f b ?_)
  have n42 : (p = 1 ∨ p = 3) → wX_isWindowSize_42 post n := by
    intro hp
    by_cases c : n < 1
    · refine br_t c (h0 ?_)
      rintro ((h | h) | ⟨_, h, _⟩ | ⟨_, h, _⟩)
      · rcases hp with rfl | rfl <;> exact absurd h (by decide)
      · rcases hp with rfl | rfl <;> exact absurd h (by decide)
      · exact h c
      · exact h c
    by_cases d : 16 < n
    · refine br_f c (br_t d (h0 ?_))
      rintro ((h | h) | ⟨_, _, h⟩ | ⟨h | h, _⟩)
      · rcases hp with rfl | rfl <;> exact absurd h (by decide)
      · rcases hp with rfl | rfl <;> exact absurd h (by decide)
      · exact h d
      · rcases hp with rfl | rfl <;> exact absurd h (by decide)
      · rcases hp with rfl | rfl <;> exact absurd h (by decide)
    exact br_f c (br_f d (h1 (Or.inr (Or.inl ⟨hp, c, d⟩))))
  have n59 : (p = 2 ∨ p = 5) → wX_isWindowSize_59 post n := by
    intro hp
    by_cases c : n < 1
    · refine br_t c (h0 ?_)
      rintro ((h | h) | ⟨_, h, _⟩ | ⟨_, h, _⟩)
      · rcases hp with rfl | rfl <;> exact absurd h (by decide)
      · rcases hp with rfl | rfl <;> exact absurd h (by decide)
      · exact h c
      · exact h c
    by_cases d : 100 < n
    · refine br_f c (br_t d (h0 ?_))
      rintro ((h | h) | ⟨h | h, _⟩ | ⟨_, _, h⟩)
      · rcases hp with rfl | rfl <;> exact absurd h (by decide)
      · rcases hp with rfl | rfl <;> exact absurd h (by decide)
      · rcases hp with rfl | rfl <;> exact absurd h (by decide)
      · rcases hp with rfl | rfl <;> exact absurd h (by decide)
      · exact h d
    exact br_f c (br_f d (h1 (Or.inr (Or.inr ⟨hp, c, d⟩))))
  rcases ed_win_c a b with rfl | rfl | rfl | rfl | rfl | rfl
  · exact br_t rfl (h1 (Or.inl (Or.inl rfl)))
  · exact br_f (by decide) (br_t rfl (n42 (Or.inl rfl)))
  · exact br_f (by decide) (br_f (by decide) (br_t rfl (n59 (Or.inl rfl))))
  · exact br_f (by decide) (br_f (by decide) (br_f (by decide) (br_t rfl (n42 (Or.inr rfl)))))
  · exact br_f (by decide) (br_f (by decide) (br_f (by decide) (br_f (by decide) (br_t rfl (h1 (Or.inl (Or.inr rfl)))))))
  · exact br_f (by decide) (br_f (by decide) (br_f (by decide) (br_f (by decide) (br_f (by decide) (br_t rfl (n59 (Or.inr rfl)))))))
section
variable {fT fL fK fW fB fH fO : Int32} {aT aL aQ aE aG aKQ aKE aKG aW aS aM aV aZ aB : Nat → Int32}
theorem yb_window {post : Int32 → SY → Prop} {s : Nat} {p1 p2 p3 p4 : Int32} (hs : s < 6) (hl : fL = 1) (good : ed_win p1 p2 → ¬ p3 < 0 → p3 ≤ 5 → wY_window_75 post (nI s) p1 p2 p3 p4 fT fL fK fW fB fH fO aT aL aQ aE aG aKQ aKE aKG aW aS aM aV aZ aB) (bad : ¬ (ed_win p1 p2 ∧ ¬ p3 < 0 ∧ p3 ≤ 5) → post 0 (fT, fL, fK, fW, fB, fH, fO, aT, aL, aQ, aE, aG, aKQ, aKE, aKG, aW, aS, aM, aV, aZ, aB)) : wpY_window post (fT, fL, fK, fW, fB, fH, fO, aT, aL, aQ, aE, aG, aKQ, aKE, aKG, aW, aS, aM, aV, aZ, aB) (nI s) p1 p2 p3 p4 := by
  unfold wpY_window
  dsimp only
  refine yb_isSlot hs (br_f (by decide) (br_t hl ?_))
  by_cases a : p1 < 0
  · exact br_t a (bad (fun q => (ed_win_r q.1).1 a))
  by_cases b : 5 < p1
  · exact br_f a (br_t b (bad (fun q => (ed_win_r q.1).2 b)))
  by_cases c : p3 < 0
  · exact br_f a (br_f b (br_t c (bad (fun q => q.2.1 c))))
  by_cases d : p3 ≤ 5
  · refine br_f a (br_f b (br_f c (br_t d ?_)))
    by_cases e : p2 < 1
    · have B : ¬ (p1 = 0 ∨ p1 = 4) → post 0 (fT, fL, fK, fW, fB, fH, fO, aT, aL, aQ, aE, aG, aKQ, aKE, aKG, aW, aS, aM, aV, aZ, aB) := by
        intro z
        refine bad ?_
        rintro ⟨h | ⟨_, h, _⟩ | ⟨_, h, _⟩, _⟩
        · exact z h
        · exact h e
        · exact h e
      by_cases f0 : p1 = 0
      · exact br_t f0 (good (Or.inl (Or.inl f0)) c d)
      by_cases f4 : p1 = 4
      · exact br_f f0 (br_t f4 (good (Or.inl (Or.inr f4)) c d))
      exact br_f f0 (br_f f4 (br_t e (B (fun q => q.elim f0 f4))))
    · have n16 : (p1 = 1 ∨ p1 = 3) → wY_window_70 post (nI s) p1 p2 p3 p4 16 p2 fT fL fK fW fB fH fO aT aL aQ aE aG aKQ aKE aKG aW aS aM aV aZ aB := by
        intro hp
        by_cases g : p2 ≤ 16
        · exact br_t g (good (Or.inr (Or.inl ⟨hp, e, Int32.not_lt.mpr g⟩)) c d)
        · refine br_f g (bad ?_)
          rintro ⟨(h | h) | ⟨_, _, h⟩ | ⟨h | h, _⟩, _⟩
          · rcases hp with rfl | rfl <;> exact absurd h (by decide)
          · rcases hp with rfl | rfl <;> exact absurd h (by decide)
          · exact g (Int32.not_lt.mp h)
          · rcases hp with rfl | rfl <;> exact absurd h (by decide)
          · rcases hp with rfl | rfl <;> exact absurd h (by decide)
      have n100 : (p1 = 2 ∨ p1 = 5) → wY_window_63 post (nI s) p1 p2 p3 p4 p2 fT fL fK fW fB fH fO aT aL aQ aE aG aKQ aKE aKG aW aS aM aV aZ aB := by
        intro hp
        by_cases g : p2 ≤ 100
        · exact br_t g (good (Or.inr (Or.inr ⟨hp, e, Int32.not_lt.mpr g⟩)) c d)
        · refine br_f g (bad ?_)
          rintro ⟨(h | h) | ⟨h | h, _⟩ | ⟨_, _, h⟩, _⟩
          · rcases hp with rfl | rfl <;> exact absurd h (by decide)
          · rcases hp with rfl | rfl <;> exact absurd h (by decide)
          · rcases hp with rfl | rfl <;> exact absurd h (by decide)
          · rcases hp with rfl | rfl <;> exact absurd h (by decide)
          · exact g (Int32.not_lt.mp h)
      rcases ed_win_c a b with rfl | rfl | rfl | rfl | rfl | rfl
      · exact br_t rfl (good (Or.inl (Or.inl rfl)) c d)
      · exact br_f (by decide) (br_f (by decide) (br_f e (br_f (by decide) (br_f (by decide) (n16 (Or.inl rfl))))))
      · exact br_f (by decide) (br_f (by decide) (br_f e (br_t rfl (n100 (Or.inl rfl)))))
      · exact br_f (by decide) (br_f (by decide) (br_f e (br_f (by decide) (br_f (by decide) (n16 (Or.inr rfl))))))
      · exact br_f (by decide) (br_t rfl (good (Or.inl (Or.inr rfl)) c d))
      · exact br_f (by decide) (br_f (by decide) (br_f e (br_f (by decide) (br_t rfl (n100 (Or.inr rfl))))))
  · exact br_f a (br_f b (br_f c (br_f d (bad (fun q => d q.2.2)))))
end
