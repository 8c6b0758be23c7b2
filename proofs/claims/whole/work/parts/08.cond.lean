/-! condition -/
theorem ed_5le (p : Int32) : 5 ≤ p ↔ 4 < p := by
  rw [Int32.le_iff_toInt_le, Int32.lt_iff_toInt_lt, show (5 : Int32).toInt = 5 by decide, show (4 : Int32).toInt = 4 by decide]
  omega
theorem xb_taken {post : Int32 → Prop} {op : Int32} (h : post (nI (ed_tk op))) : wpX_takenBy post op := by
  unfold ed_tk at h
  by_cases z : 4 < op
  · rw [if_neg (Int32.not_le.mpr z)] at h
    by_cases z2 : op = 12
    · rw [if_pos z2] at h; exact br_t z (br_t z2 h)
    · rw [if_neg z2] at h; exact br_t z (br_f z2 h)
  · rw [if_pos (Int32.not_lt.mp z)] at h; exact br_f z h
theorem ed_stp {d t : Nat} (h : t ≤ d + 1) : nI d + (1 - nI t) = nI (d + 1 - t) := by
  have e : nI (d + 1 - t) + nI t = nI d + 1 := by rw [nI_add, nI_1]; congr 1; omega
  grind
section
variable {xl xw xk : Int32} {xP xL xF xQ xT xA xB xC xM xG kF kQ kT kA kB kC kM kG xS xZ : Nat → Int32}
variable {fT fL fK fW fB fH fO : Int32} {aT aL aQ aE aG aKQ aKE aKG aW aS aM aV aZ aB : Nat → Int32}
theorem yb_takes {post : Int32 → Prop} {op : Int32} (h : post (nI (ed_tk op))) : wpY_takes post (fT, fL, fK, fW, fB, fH, fO, aT, aL, aQ, aE, aG, aKQ, aKE, aKG, aW, aS, aM, aV, aZ, aB) op := by
  unfold ed_tk at h
  by_cases z : 4 < op
  · rw [if_neg (Int32.not_le.mpr z)] at h
    have z' := (ed_5le op).mpr z
    by_cases z2 : op = 12
    · rw [if_pos z2] at h; exact br_t z' (br_t z2 h)
    · rw [if_neg z2] at h; exact br_t z' (br_f z2 h)
  · rw [if_pos (Int32.not_lt.mp z)] at h; exact br_f (fun q => z ((ed_5le op).mp q)) h
theorem xv_leaves {post : Int32 → Prop} {n : Nat} (hn : n ≤ 12) (hp : xP 0 = nI n) (ho : ∀ i, i < n → ∃ k, k ≤ 13 ∧ xP (1 + i) = nI k) (h1 : ed_go (fun i => xP (1 + i)) n ∧ ed_dp (fun i => xP (1 + i)) n = 1 → post 1) (h0 : ¬ (ed_go (fun i => xP (1 + i)) n ∧ ed_dp (fun i => xP (1 + i)) n = 1) → post 0) : wpX_leavesOneValue post (xl, xw, xk, xP, xL, xF, xQ, xT, xA, xB, xC, xM, xG, kF, kQ, kT, kA, kB, kC, kM, kG, xS, xZ) := by
  have key : ∀ m i : Nat, i + m = n → ed_go (fun i => xP (1 + i)) i → wX_leavesOneValue_11 post (nI n) xl xw xk xP xL xF xQ xT xA xB xC xM xG kF kQ kT kA kB kC kM kG xS xZ (m + 1) (nI (ed_dp (fun i => xP (1 + i)) i)) (nI i) := by
    intro m
    induction m with
    | zero =>
      intro i hi g
      have e : i = n := by omega
      subst e
      have dl := ed_dp_le (fun i => xP (1 + i)) i
      refine br_t (nI_le (Nat.le_refl _) (by omega)) ?_
      by_cases z : ed_dp (fun i => xP (1 + i)) i = 1
      · exact br_t (by rw [z]; rfl) (h1 ⟨g, z⟩)
      · exact br_f (fun q => z ((nI_eq (b := 1) (by omega) (by omega)).mp q)) (h0 (fun q => z q.2))
    | succ m ih =>
      intro i hi g
      have dl := ed_dp_le (fun i => xP (1 + i)) i
      have tl := ed_tk_le (xP (1 + i))
      have e1 : (1 : Int32) + nI i = nI (1 + i) := nI_add 1 i
      have c1 : ((1 : Int32) + nI i).toNatClampNeg = 1 + i := by rw [e1, nI_clamp (by omega)]
      refine br_f (nI_ge (by omega) (by omega)) ⟨by rw [e1]; exact vp_in_nI (by omega) (by omega), nm_r (e' := xP (1 + i)) (by rw [c1]) (xb_taken ?_)⟩
      by_cases z : ed_tk (xP (1 + i)) ≤ ed_dp (fun i => xP (1 + i)) i
      · refine br_t (nI_le z (by omega)) (xb_taken (nm_r (e' := nI (ed_dp (fun i => xP (1 + i)) (i + 1))) (ed_stp (by omega)) (nm_r (nI_1 i) (ih (i + 1) (by omega) ?_))))
        intro j hj
        by_cases e : j = i
        · subst e; exact ⟨ho j (by omega), z⟩
        · exact g j (by omega)
      · refine br_f (nI_ge (by omega) (by omega)) (h0 (fun q => z (q.1 i (by omega)).2))
  refine nm_r hp ⟨n + 1, ?_⟩
  exact key n 0 (by omega) (fun j hj => absurd hj (Nat.not_lt_zero _))
theorem yc_cond77 {post : Int32 → SY → Prop} {l : Nat} (hl : l < 3) (hfl : fL = nI l) (h : ∀ d : Nat → Int32, (∀ j, j < 24 → d (25 * l + 1 + j) = aT j) → (∀ j, (j < 25 * l + 1 ∨ 25 * l + 25 ≤ j) → d j = aL j) → post 1 (0, nI (l + 1), fK, fW, fB, fH, fO, aT, d, aQ, aE, aG, aKQ, aKE, aKG, aW, aS, aM, aV, aZ, aB)) : ∃ n : Nat, wY_condition_77 post fT fL fK fW fB fH fO n 0 aT aL aQ aE aG aKQ aKE aKG aW aS aM aV aZ aB := by
  subst hfl
  have key : ∀ (m i : Nat) (d : Nat → Int32), i + m = 24 → (∀ j, j < i → d (25 * l + 1 + j) = aT j) → (∀ j, (j < 25 * l + 1 ∨ 25 * l + 1 + i ≤ j) → d j = aL j) → wY_condition_77 post fT (nI l) fK fW fB fH fO (m + 1) (nI i) aT d aQ aE aG aKQ aKE aKG aW aS aM aV aZ aB := by
    intro m
    induction m with
    | zero =>
      intro i d hi h1 h2
      have e : i = 24 := by omega
      subst e
      exact br_t (nI_le (a := 24) (b := 24) (Nat.le_refl _) (by omega)) (nm_r (nI_1 l) (h d h1 (fun j hj => h2 j (by omega))))
    | succ m ih =>
      intro i d hi h1 h2
      have ei : (nI i).toNatClampNeg = i := nI_clamp (by omega)
      have e2 : (25 : Int32) * nI l + 1 + nI i = nI (25 * l + 1 + i) := by
        rw [show (25 : Int32) = nI 25 from rfl, pk_mul, nI_1, nI_add]
      refine br_f (nI_ge (b := 24) (by omega) (by omega)) ⟨vp_in_nI (by omega) (by omega), by rw [e2]; exact vp_in_nI (by omega) (by omega), nm_r (e' := upd d (25 * l + 1 + i) (aT i)) (by rw [e2, ei, nI_clamp (by omega)]) (nm_r (nI_1 i) (ih (i + 1) _ (by omega) ?_ ?_))⟩
      · intro j hj
        by_cases e : j = i
        · subst e; rw [pk_us]
        · rw [pk_un (by omega)]; exact h1 j (by omega)
      · intro j hj
        rw [pk_un (by omega)]; exact h2 j (by omega)
  exact ⟨25, key 24 0 aL (by omega) (fun j hj => absurd hj (Nat.not_lt_zero _)) (fun _ _ => rfl)⟩
theorem yv_cond {post : Int32 → SY → Prop} {n l : Nat} {o : Nat → Int32} (hn : n ≤ 12) (hl : l ≤ 3) (hft : fT = nI n) (hfl : fL = nI l) (ho : ∀ i, i < n → ∃ k, k ≤ 13 ∧ o i = nI k) (hoa : ∀ i, i < 12 → o i = aT (2 * i)) (h1 : ed_go o n ∧ ed_dp o n = 1 → l < 3 → ∀ d : Nat → Int32, d (25 * l) = nI n → (∀ j, j < 24 → d (25 * l + 1 + j) = aT j) → (∀ j, (j < 25 * l ∨ 25 * l + 25 ≤ j) → d j = aL j) → post 1 (0, nI (l + 1), fK, fW, fB, fH, fO, aT, d, aQ, aE, aG, aKQ, aKE, aKG, aW, aS, aM, aV, aZ, aB)) (h0 : ¬ ((ed_go o n ∧ ed_dp o n = 1) ∧ l < 3) → post 0 (fT, fL, fK, fW, fB, fH, fO, aT, aL, aQ, aE, aG, aKQ, aKE, aKG, aW, aS, aM, aV, aZ, aB)) : wpY_condition post (fT, fL, fK, fW, fB, fH, fO, aT, aL, aQ, aE, aG, aKQ, aKE, aKG, aW, aS, aM, aV, aZ, aB) := by
  have key : ∀ m i : Nat, i + m = n → ed_go o i → wY_condition_4 post fT fL fK fW fB fH fO aT aL aQ aE aG aKQ aKE aKG aW aS aM aV aZ aB (m + 1) (nI (ed_dp o i)) (nI i) := by
    intro m
    induction m with
    | zero =>
      intro i hi g
      have e : i = n := by omega
      subst e
      have dl := ed_dp_le o i
      refine br_t (by rw [hft]; exact nI_le (Nat.le_refl _) (by omega)) ?_
      by_cases z : ed_dp o i = 1
      · refine br_t (by rw [z]; rfl) ?_
        by_cases zl : l < 3
        · have e2 : (25 : Int32) * fL = nI (25 * l) := by rw [hfl]; exact pk_mul 25 l
          refine br_f (fun q => by rw [hfl] at q; have := (nI_eq (b := 3) (by omega) (by omega)).mp q; omega) ⟨by rw [e2]; exact vp_in_nI (by omega) (by omega), nm_r (e' := upd aL (25 * l) (nI i)) (by rw [e2, hft, nI_clamp (by omega)]) (yc_cond77 zl hfl (fun d d1 d2 => h1 ⟨g, z⟩ zl d ?_ d1 ?_))⟩
          · rw [d2 (25 * l) (by omega), pk_us]
          · intro j hj
            rw [d2 j (by omega), pk_un (by omega)]
        · have e3 : l = 3 := by omega
          subst e3
          exact br_t hfl (h0 (fun q => zl q.2))
      · exact br_f (fun q => z ((nI_eq (b := 1) (by omega) (by omega)).mp q)) (h0 (fun q => z q.1.2))
    | succ m ih =>
      intro i hi g
      have dl := ed_dp_le o i
      have tl := ed_tk_le (o i)
      have e1 : (2 : Int32) * nI i = nI (2 * i) := pk_mul 2 i
      refine br_f (by rw [hft]; exact nI_ge (by omega) (by omega)) ⟨by rw [e1]; exact vp_in_nI (by omega) (by omega), ?_⟩
      rw [e1, nI_clamp (by omega), ← hoa i (by omega)]
      refine yb_takes ?_
      by_cases z : ed_tk (o i) ≤ ed_dp o i
      · refine br_t (nI_le z (by omega)) (nm_r (e' := nI (ed_dp o (i + 1))) (ed_stp (by omega)) (nm_r (nI_1 i) (ih (i + 1) (by omega) ?_)))
        intro j hj
        by_cases e : j = i
        · subst e; exact ⟨ho j (by omega), z⟩
        · exact g j (by omega)
      · exact br_f (nI_ge (by omega) (by omega)) (h0 (fun q => z (q.1.1 i (by omega)).2))
  exact ⟨n + 1, key n 0 (by omega) (fun j hj => absurd hj (Nat.not_lt_zero _))⟩
end
theorem i_vc_condition {k : Nat} {u : SX} {v : SY} (I : i_Rel k u v) (hk : k + 6 ≤ 3072) : wpX_condition (fun r u' => wpY_condition (fun r' v' => r' = r ∧ i_Rel (k + 6) u' v') v) u := by
  obtain ⟨xl, xw, xk, xP, xL, xF, xQ, xT, xA, xB, xC, xM, xG, kF, kQ, kT, kA, kB, kC, kM, kG, xS, xZ⟩ := u
  obtain ⟨fT, fL, fK, fW, fB, fH, fO, aT, aL, aQ, aE, aG, aKQ, aKE, aKG, aW, aS, aM, aV, aZ, aB⟩ := v
  have I' := i_up I
  obtain ⟨⟨n, hn, p1, p2, p3, p4⟩, ⟨l, hl, l1, l2, l3, l4⟩, hw, hB, hK⟩ := I
  have bad : ¬ ((ed_go (fun i => xP (1 + i)) n ∧ ed_dp (fun i => xP (1 + i)) n = 1) ∧ l < 3) → wpY_condition (fun r' v' => r' = 0 ∧ i_Rel (k + 6) (xl, xw, xk, xP, xL, xF, xQ, xT, xA, xB, xC, xM, xG, kF, kQ, kT, kA, kB, kC, kM, kG, xS, xZ) v') (fT, fL, fK, fW, fB, fH, fO, aT, aL, aQ, aE, aG, aKQ, aKE, aKG, aW, aS, aM, aV, aZ, aB) := fun z =>
    yv_cond hn hl p2 l2 p4 (fun i hi => (p3 i hi).1) (fun a b => absurd ⟨a, b⟩ z) (fun _ => ⟨rfl, I'⟩)
  unfold wpX_condition
  dsimp only
  by_cases zl : l < 3
  · refine br_f (by rw [l1]; exact nI_ge (b := 3) zl (by omega)) (xv_leaves hn p1 p4 (fun z => br_f (by decide) ?_) (fun z => br_t rfl (bad (fun q => z q.1))))
    have e : xl * 25 = nI (l * 25) := by rw [l1]; exact pk_mul l 25
    rw [e]
    refine xc_program_list (p := 0) (q := l * 25) (c := 25) (by omega) (by omega) (fun d d1 d2 => ?_)
    dsimp only
    refine nm_r (e' := nI (l + 1)) (by rw [l1, nI_1]) (nm_e ?_)
    refine yv_cond hn hl p2 l2 p4 (fun i hi => (p3 i hi).1) (fun _ _ c c1 c2 c3 => ?_) (fun q => absurd ⟨z, zl⟩ q)
    have dj : ∀ j, j < 25 → d (25 * l + j) = xP j := by
      intro j hj
      have := d1 j hj
      rw [Nat.mul_comm l 25, Nat.zero_add] at this
      exact this
    refine ⟨rfl, ⟨0, by omega, pk_us, rfl, ?_, fun i hi => absurd hi (Nat.not_lt_zero _)⟩, ⟨l + 1, by omega, rfl, rfl, ?_, ?_⟩, hw, ed_B_up (by omega) hB, ed_K_up (by omega) hK⟩
    · intro i hi
      rw [pk_un (by omega), pk_un (by omega)]
      exact p3 i hi
    · intro w hw3
      by_cases e : w = l
      · subst e
        refine ⟨?_, fun i hi => ⟨?_, ?_⟩⟩
        · rw [c1]; exact (dj 0 (by omega)).trans p1
        · have a := dj (1 + i) (by omega)
          have b := c2 (2 * i) (by omega)
          rw [Nat.add_assoc, a, b]
          exact (p3 i hi).1
        · have a := dj (13 + i) (by omega)
          have b := c2 (2 * i + 1) (by omega)
          rw [Nat.add_assoc, a, show 25 * w + 2 + 2 * i = 25 * w + 1 + (2 * i + 1) by omega, b]
          exact (p3 i hi).2
      · exact ed_ce_cg (l3 w hw3) (fun j hj => d2 _ (by omega)) (fun j hj => c3 _ (by omega))
    · intro w hw3
      by_cases e : w = l
      · subst e
        refine ⟨n, (dj 0 (by omega)).trans p1, ed_ok_cg (o := fun i => xP (1 + i)) (fun i hi => ?_) ⟨hn, z.1, z.2⟩⟩
        have a := dj (1 + i) (by omega)
        rw [Nat.add_assoc]
        exact a.symm
      · exact ed_cv_cg (l4 w (by omega)) (fun j hj => d2 _ (by omega))
  · have e3 : l = 3 := by omega
    subst e3
    exact br_t (by rw [l1]; exact nI_le (a := 3) (b := 3) (Nat.le_refl _) (by omega)) (bad (fun q => zl q.2))
