/-! indices -/
theorem ed_xi (s o : Nat) : nI s * 99 + nI o = nI (99 * s + o) := by
  rw [show (99 : Int32) = nI 99 from rfl, pk_mul, nI_add, Nat.mul_comm]
theorem ed_yi (s o : Nat) : 100 * nI s + nI o = nI (100 * s + o) := by
  rw [show (100 : Int32) = nI 100 from rfl, pk_mul, nI_add]
theorem ed_x (s o : Nat) (hs : s < 6) (ho : o < 99) : vp_in (nI s * 99 + nI o) 594 ∧ (nI s * 99 + nI o).toNatClampNeg = 99 * s + o := by
  rw [ed_xi]; exact ⟨vp_in_nI (by omega) (by omega), nI_clamp (by omega)⟩
theorem ed_y (s o : Nat) (hs : s < 6) (ho : o < 100) : vp_in (100 * nI s + nI o) 600 ∧ (100 * nI s + nI o).toNatClampNeg = 100 * s + o := by
  rw [ed_yi]; exact ⟨vp_in_nI (by omega) (by omega), nI_clamp (by omega)⟩
theorem ed_y0 (s : Nat) (hs : s < 6) : vp_in (100 * nI s) 600 ∧ (100 * nI s).toNatClampNeg = 100 * s := by
  rw [show (100 : Int32) = nI 100 from rfl, pk_mul]; exact ⟨vp_in_nI (by omega) (by omega), nI_clamp (by omega)⟩
theorem ed_slot (p : Int32) : (p < 0 ∨ (¬ p < 0 ∧ 6 ≤ p)) ∨ ∃ s : Nat, s < 6 ∧ p = nI s := by
  rcases pk_ix p (n := 6) (by omega) with h | h | h
  · exact Or.inl (Or.inl h)
  · exact Or.inl (Or.inr ⟨fun z => absurd (Int32.lt_of_le_of_lt h z) (by decide), h⟩)
  · exact Or.inr h
theorem ed_nn {s : Nat} (hs : s < 6) : ¬ nI s < 0 := nI_pos (by omega)
theorem ed_n6 {s : Nat} (hs : s < 6) : ¬ (6 : Int32) ≤ nI s := nI_ge (b := 6) hs (by omega)
section
variable {xl xw xk : Int32} {xP xL xF xQ xT xA xB xC xM xG kF kQ kT kA kB kC kM kG xS xZ : Nat → Int32}
variable {fT fL fK fW fB fH fO : Int32} {aT aL aQ aE aG aKQ aKE aKG aW aS aM aV aZ aB : Nat → Int32}
theorem xb_isSlot {post : Int32 → Prop} {s : Nat} (hs : s < 6) (h : post 1) : wpX_isSlot post (nI s) := br_f (ed_nn hs) (br_f (ed_n6 hs) h)
theorem xb_isSlot0 {post : Int32 → Prop} {p : Int32} (hp : p < 0 ∨ (¬ p < 0 ∧ 6 ≤ p)) (h : post 0) : wpX_isSlot post p := by
  rcases hp with hp | hp
  · exact br_t hp h
  · exact br_f hp.1 (br_t hp.2 h)
theorem yb_isSlot {post : Int32 → Prop} {s : Nat} (hs : s < 6) (h : post 1) : wpY_isSlot post (fT, fL, fK, fW, fB, fH, fO, aT, aL, aQ, aE, aG, aKQ, aKE, aKG, aW, aS, aM, aV, aZ, aB) (nI s) := br_f (ed_nn hs) (br_f (ed_n6 hs) h)
theorem yb_isSlot0 {post : Int32 → Prop} {p : Int32} (hp : p < 0 ∨ (¬ p < 0 ∧ 6 ≤ p)) (h : post 0) : wpY_isSlot post (fT, fL, fK, fW, fB, fH, fO, aT, aL, aQ, aE, aG, aKQ, aKE, aKG, aW, aS, aM, aV, aZ, aB) p := by
  rcases hp with hp | hp
  · exact br_t hp h
  · exact br_f hp.1 (br_t hp.2 h)
theorem xb_hasQ {post : Int32 → Prop} {s : Nat} (hs : s < 6) (h0 : xQ (99 * s) = 0 → post 0) (h1 : ¬ xQ (99 * s) = 0 → post 1) : wpX_hasQuestion post (xl, xw, xk, xP, xL, xF, xQ, xT, xA, xB, xC, xM, xG, kF, kQ, kT, kA, kB, kC, kM, kG, xS, xZ) (nI s) := by
  have c := ed_x s 0 hs (by omega)
  unfold wpX_hasQuestion
  dsimp only
  refine xb_isSlot hs (br_f (by decide) ⟨c.1, ?_⟩)
  have c2 : (nI s * 99 + 0).toNatClampNeg = 99 * s := c.2
  rw [c2]
  exact ⟨h0, h1⟩
theorem xb_hasQ0 {post : Int32 → Prop} {p : Int32} (hp : p < 0 ∨ (¬ p < 0 ∧ 6 ≤ p)) (h : post 0) : wpX_hasQuestion post (xl, xw, xk, xP, xL, xF, xQ, xT, xA, xB, xC, xM, xG, kF, kQ, kT, kA, kB, kC, kM, kG, xS, xZ) p := by
  unfold wpX_hasQuestion
  dsimp only
  exact xb_isSlot0 hp (br_t rfl h)
end
/-- one slot changes between calls -/
theorem ed_B_slot {k h s : Nat} {fg x ty a b t tm tg y ev g x' y' : Nat → Int32} (hs6 : s < 6) (ex : ∀ j, j < 594 → (j < 99 * s ∨ 99 * s + 99 ≤ j) → x' j = x j) (ey : ∀ j, j < 600 → (j < 100 * s ∨ 100 * s + 100 ≤ j) → y' j = y j) (Q : ed_S s h h x' ty a b t tm tg y') (H : ed_C k h h (fun _ => h) fg x ty a b t tm tg y ev g) : ed_B k fg x' ty a b t tm tg y' ev g := by
  refine ⟨h, ?_⟩
  have z := ed_C_slot (tm' := tm) (tg' := tg) h (Nat.le_refl h) hs6 ex ey (fun _ _ _ _ => rfl) (fun _ _ _ _ => rfl) Q H
  simpa only [ite_self] using z
theorem ed_C_s {k h hi s : Nat} {hs : Nat → Nat} {fg x ty a b t tm tg y ev g : Nat → Int32} (H : ed_C k h hi hs fg x ty a b t tm tg y ev g) (h6 : s < 6) : ed_S s (hs s) hi x ty a b t tm tg y := (H.2.2.2.2 s h6).2
theorem i_vc0 : wpX_init (fun u => wpY_init (fun v => i_Rel 0 u v)) := by
  refine ⟨⟨0, by omega, rfl, rfl, fun _ _ => ⟨rfl, rfl⟩, fun i hi => absurd hi (Nat.not_lt_zero _)⟩, ⟨0, by omega, rfl, rfl, fun _ _ => ⟨rfl, fun _ _ => ⟨rfl, rfl⟩⟩, fun i hi => absurd hi (Nat.not_lt_zero _)⟩, rfl, ⟨0, ⟨rfl, rfl, rfl, rfl, rfl⟩, ⟨Nat.le_refl _, by omega⟩, ⟨0, fun _ => 0, rfl, by omega, fun i hi => absurd hi (Nat.not_lt_zero _), fun i j _ hj => absurd hj (Nat.not_lt_zero _)⟩, fun i hi => absurd hi (Nat.not_lt_zero _), fun s hs => ⟨Nat.le_refl _, rfl, Or.inl rfl⟩⟩, Or.inl ⟨rfl, rfl⟩⟩
theorem i_vc_drop {k : Nat} {u : SX} {v : SY} (I : i_Rel k u v) (hk : k + 6 ≤ 3072) : wpX_drop (fun r u' => wpY_drop (fun r' v' => r' = r ∧ i_Rel (k + 6) u' v') v) u := by
  obtain ⟨xl, xw, xk, xP, xL, xF, xQ, xT, xA, xB, xC, xM, xG, kF, kQ, kT, kA, kB, kC, kM, kG, xS, xZ⟩ := u
  obtain ⟨fT, fL, fK, fW, fB, fH, fO, aT, aL, aQ, aE, aG, aKQ, aKE, aKG, aW, aS, aM, aV, aZ, aB⟩ := v
  obtain ⟨⟨n, hn, p1, p2, p3, p4⟩, ⟨l, hl, l1, l2, l3, l4⟩, hw, hB, hK⟩ := I
  refine nm_e (nm_e (nm_e ⟨?_, ⟨0, by omega, pk_us, rfl, ?_, fun i hi => absurd hi (Nat.not_lt_zero _)⟩, ⟨0, by omega, rfl, rfl, l3, fun i hi => absurd hi (Nat.not_lt_zero _)⟩, hw, ed_B_up (by omega) hB, ed_K_up (by omega) hK⟩))
  · rw [p1, p2, l1, l2]
  · intro i hi
    rw [pk_un (by omega), pk_un (by omega)]
    exact p3 i hi
theorem i_vc_state {k : Nat} {u : SX} {v : SY} (I : i_Rel k u v) (hk : k + 6 ≤ 3072) (v1 : Int32) : wpX_state (fun r => wpY_state (fun r' => r' = r ∧ i_Rel (k + 6) u v) v v1) u v1 := by
  obtain ⟨xl, xw, xk, xP, xL, xF, xQ, xT, xA, xB, xC, xM, xG, kF, kQ, kT, kA, kB, kC, kM, kG, xS, xZ⟩ := u
  obtain ⟨fT, fL, fK, fW, fB, fH, fO, aT, aL, aQ, aE, aG, aKQ, aKE, aKG, aW, aS, aM, aV, aZ, aB⟩ := v
  have I' := i_up I
  obtain ⟨hP, hL, hw, ⟨h, ⟨g0, g0', g1, g2, g3⟩, hC⟩, hK⟩ := I
  rcases pk_ix v1 (n := 4) (by omega) with z | z | ⟨j, hj, rfl⟩
  · exact br_t z (br_t z ⟨rfl, I'⟩)
  · have z0 : ¬ v1 < 0 := fun q => absurd (Int32.lt_of_le_of_lt z q) (by decide)
    have z3 : ¬ v1 ≤ 3 := fun q => absurd (Int32.le_trans z q) (by decide)
    exact br_f z0 (br_t z (br_f z0 (br_f z3 ⟨rfl, I'⟩)))
  · have z0 : ¬ nI j < 0 := nI_pos (by omega)
    have z4 : ¬ (4 : Int32) ≤ nI j := nI_ge (b := 4) hj (by omega)
    have z3 : nI j ≤ (3 : Int32) := nI_le (b := 3) (by omega) (by omega)
    have zi : vp_in (nI j) 4 := vp_in_nI hj (by omega)
    refine br_f z0 (br_f z4 ⟨zi, br_f z0 (br_t z3 ⟨zi, ?_, I'⟩)⟩)
    rw [nI_clamp (by omega)]
    have : j = 0 ∨ j = 1 ∨ j = 2 ∨ j = 3 := by omega
    rcases this with rfl | rfl | rfl | rfl
    · exact g0'.trans g0.symm
    · exact g1.symm
    · exact g2.symm
    · exact g3.symm
theorem i_vc_advance {k : Nat} {u : SX} {v : SY} (I : i_Rel k u v) (hk : k + 6 ≤ 3072) (v1 : Int32) : wpX_advance (fun r u' => wpY_advance (fun r' v' => r' = r ∧ i_Rel (k + 6) u' v') v v1) u v1 := by
  obtain ⟨xl, xw, xk, xP, xL, xF, xQ, xT, xA, xB, xC, xM, xG, kF, kQ, kT, kA, kB, kC, kM, kG, xS, xZ⟩ := u
  obtain ⟨fT, fL, fK, fW, fB, fH, fO, aT, aL, aQ, aE, aG, aKQ, aKE, aKG, aW, aS, aM, aV, aZ, aB⟩ := v
  have I' := i_up I
  obtain ⟨hP, hL, hw, ⟨h, ⟨g0, g0', g1, g2, g3⟩, h2, ⟨now, tn, a1, a2, a3, a4⟩, h4, h5⟩, hK⟩ := I
  by_cases z0 : v1 < 0
  · exact br_t z0 (br_t z0 ⟨rfl, I'⟩)
  · by_cases z1 : v1 ≤ 100
    · obtain ⟨d, hd, rfl⟩ := nI_of2 (M := 100) (n := 100) (by decide) z0 z1
      refine br_f z0 (br_t z1 (nm_e (br_f z0 (br_t z1 (nm_e ⟨?_, hP, hL, hw, ⟨h, ⟨?_, ?_, ?_, ?_, ?_⟩, h2, ⟨now + d, tn, ?_, by omega, fun i hi => ⟨(a3 i hi).1, by have := (a3 i hi).2; omega⟩, a4⟩, h4, h5⟩, ed_K_up (by omega) hK⟩)))))
      · rw [pk_us, pk_us, g2]
      · rw [pk_un (by omega)]; exact g0
      · rw [pk_un (by omega)]; exact g0'
      · rw [pk_un (by omega), pk_un (by omega)]; exact g1
      · rw [pk_us, pk_us, g2]
      · rw [pk_un (by omega), pk_un (by omega)]; exact g3
      · rw [pk_us, a1, nI_add]
    · exact br_f z0 (br_f z1 (br_f z0 (br_f z1 ⟨rfl, I'⟩)))
theorem i_vc_term {k : Nat} {u : SX} {v : SY} (I : i_Rel k u v) (hk : k + 6 ≤ 3072) (v1 : Int32) (v2 : Int32) : wpX_term (fun r u' => wpY_term (fun r' v' => r' = r ∧ i_Rel (k + 6) u' v') v v1 v2) u v1 v2 := by
  obtain ⟨xl, xw, xk, xP, xL, xF, xQ, xT, xA, xB, xC, xM, xG, kF, kQ, kT, kA, kB, kC, kM, kG, xS, xZ⟩ := u
  obtain ⟨fT, fL, fK, fW, fB, fH, fO, aT, aL, aQ, aE, aG, aKQ, aKE, aKG, aW, aS, aM, aV, aZ, aB⟩ := v
  have I' := i_up I
  obtain ⟨⟨n, hn, p1, p2, p3, p4⟩, hL, hw, hB, hK⟩ := I
  refine nm_r p1 ?_
  by_cases z0 : v1 < 0
  · exact br_t z0 (br_t z0 ⟨rfl, I'⟩)
  by_cases z1 : 13 < v1
  · exact br_f z0 (br_t z1 (br_f z0 (br_t z1 ⟨rfl, I'⟩)))
  refine br_f z0 (br_f z1 ?_)
  subst p2
  by_cases z2 : n < 12
  · have hx : nI n < 12 := nI_lt (b := 12) z2 (by omega)
    have hy : ¬ nI n = 12 := by
      intro q
      have := (nI_eq (a := n) (b := 12) (by omega) (by omega)).mp q
      omega
    have i1 : (1 : Int32) + nI n = nI (1 + n) := nI_add 1 n
    have i13 : (13 : Int32) + nI n = nI (13 + n) := nI_add 13 n
    have j0 : (2 : Int32) * nI n = nI (2 * n) := pk_mul 2 n
    have j1 : nI (2 * n) + 1 = nI (2 * n + 1) := nI_1 _
    obtain ⟨d, hd, rfl⟩ := nI_of2 (M := 13) (n := 13) (by decide) z0 (Int32.not_lt.mp z1)
    refine br_t hx ?_
    rw [i1, i13, nI_clamp (by omega), nI_clamp (by omega)]
    refine ⟨vp_in_nI (by omega) (by omega), nm_e ⟨vp_in_nI (by omega) (by omega), nm_e (nm_e (br_f z0 (br_f z1 (br_f hy ?_))))⟩⟩
    rw [j0, j1, nI_clamp (by omega), nI_clamp (by omega)]
    refine ⟨vp_in_nI (by omega) (by omega), nm_e ⟨vp_in_nI (by omega) (by omega), nm_e (nm_e ⟨rfl, ⟨n + 1, by omega, ?_, nI_1 n, ?_, ?_⟩, hL, hw, ed_B_up (by omega) hB, ed_K_up (by omega) hK⟩)⟩⟩
    · rw [pk_us, nI_1]
    · intro i hi
      by_cases e : i = n
      · subst e; simp (disch := omega) only [pk_us, pk_un]; exact ⟨trivial, trivial⟩
      · simp (disch := omega) only [pk_us, pk_un]; exact p3 i hi
    · intro i hi
      by_cases e : i = n
      · subst e; simp (disch := omega) only [pk_us, pk_un]; exact ⟨d, hd, rfl⟩
      · simp (disch := omega) only [pk_us, pk_un]; exact p4 i (by omega)
  · have e : n = 12 := by omega
    subst e
    exact br_f (by decide) (br_f z0 (br_f z1 (br_t rfl ⟨rfl, I'⟩)))
