/-! send -/
def ed_PR (k h : Nat) (xw : Int32) (xF xQ xT xA xB xC xM xG : Nat → Int32) (fW fB : Int32) (aQ aE aG aW : Nat → Int32) : Prop :=
  ∃ w bg : Nat, ed_C k h (h + w + 1) (fun _ => h) xF xQ xT xA xB xC xM xG aQ aE aG ∧ xw = nI (w + 1) ∧ fB = nI bg ∧ fW = nI (bg + w) ∧ bg ≤ h ∧ xC h = xF 2 ∧ (∀ j, j < w → aW (3 * (bg + j)) = xT (h + 1 + j) ∧ aW (3 * (bg + j) + 1) = xA (h + 1 + j) ∧ aW (3 * (bg + j) + 2) = xB (h + 1 + j) ∧ xC (h + 1 + j) = xF 2)
section
variable {xl xw xk : Int32} {xP xL xF xQ xT xA xB xC xM xG kF kQ kT kA kB kC kM kG xS xZ : Nat → Int32}
variable {fT fL fK fW fB fH fO : Int32} {aT aL aQ aE aG aKQ aKE aKG aW aS aM aV aZ aB : Nat → Int32}
theorem xy_turn {k h τ n : Nat} {post : Int32 → SX → Prop} {x4 : Int32} (hk : k ≤ 3072) (hτ : τ < 64) (P : ed_PR k h xw xF xQ xT xA xB xC xM xG fW fB aQ aE aG aW) (hn : ∀ (xw' : Int32) (xF' xQ' xT' xA' xB' xC' xM' xG' xS' xZ' : Nat → Int32), (∃ fW' fH' fO' aQ' aE' aG' aW' aS' aM' aV' aZ' aB', ed_MM k (h + 1) (fun _ => h + 1) xw' xF' xQ' xT' xA' xB' xC' xM' xG' fW' fB aQ' aE' aG' aW' ∧ ∀ postY : SY → Prop, postY (fT, fL, fK, fW', fB, fH', fO', aT, aL, aQ', aE', aG', aKQ, aKE, aKG, aW', aS', aM', aV', aZ', aB') → wpY_happen postY (fT, fL, fK, fW, fB, fH, fO, aT, aL, aQ, aE, aG, aKQ, aKE, aKG, aW, aS, aM, aV, aZ, aB) (xT h) (xA h) (xB h)) → wX_send_40 post x4 n (nI (τ + 1)) xl xw' xk xP xL xF' xQ' xT' xA' xB' xC' xM' xG' kF kQ kT kA kB kC kM kG xS' xZ') : wX_send_40 post x4 (n + 1) (nI τ) xl xw xk xP xL xF xQ xT xA xB xC xM xG kF kQ kT kA kB kC kM kG xS xZ := by
  obtain ⟨w, bg, hC, b1, b2, b3, b4, b5, b6⟩ := P
  obtain ⟨⟨f0, g0, f1, f2, f3⟩, ⟨hh, hi64⟩, ⟨now, tn, t1, t2, t3, t4⟩, hE, hS⟩ := hC
  have e4 : (4 : Int32) * nI h = nI (4 * h) := pk_mul 4 h
  have e41 : (4 : Int32) * nI h + 1 = nI (4 * h + 1) := by rw [e4, nI_1]
  have e42 : (4 : Int32) * nI h + 2 = nI (4 * h + 2) := by rw [e4]; exact nI_add _ 2
  have e43 : (4 : Int32) * nI h + 3 = nI (4 * h + 3) := by rw [e4]; exact nI_add _ 3
  have MM1 : ed_MM k (h + 1) (fun _ => h) (nI w) (upd xF 0 (nI (h + 1))) xQ xT xA xB xC xM xG fW fB aQ (upd (upd (upd (upd aE (4 * h) (xT h)) (4 * h + 1) (xA h)) (4 * h + 2) (xB h)) (4 * h + 3) (upd aG 0 (nI (h + 1)) 2)) (upd aG 0 (nI (h + 1))) aW := by
    refine ⟨h + w + 1, ⟨⟨pk_us, pk_us, ?_, ?_, ?_⟩, ⟨by omega, hi64⟩, ⟨now, tn, ?_, t2, t3, t4⟩, ?_, fun s h6 => ⟨Nat.le_succ h, (hS s h6).2⟩⟩, ⟨bg, w, rfl, by omega, b2, b3, by omega, ?_⟩⟩
    · simp (disch := omega) only [pk_us, pk_un]; exact f1
    · simp (disch := omega) only [pk_us, pk_un]; exact f2
    · simp (disch := omega) only [pk_us, pk_un]; exact f3
    · simp (disch := omega) only [pk_us, pk_un]; exact t1
    · intro i hi
      by_cases e : i = h
      · subst e; simp (disch := omega) only [pk_us, pk_un]; exact ⟨trivial, trivial, trivial, f2.symm.trans b5.symm⟩
      · simp (disch := omega) only [pk_us, pk_un]; exact hE i (by omega)
    · intro j hj; simp (disch := omega) only [pk_us, pk_un]; exact b6 j hj
  refine br_f (nI_ge (b := 64) hτ (by omega)) (br_f (by rw [b1]; exact nI_nle (by omega) (by omega)) (nm_r f0 (nm_r (e' := nI w) (by rw [b1]; exact nI_pred w) (nm_r (e' := upd xF 0 (nI (h + 1))) (by rw [f0, nI_1]) ⟨7, ?_⟩))))
  refine xy_slots (e := h) (fT := fT) (fL := fL) (fK := fK) (fB := fB) (aT := aT) (aL := aL) (aE := upd (upd (upd (upd aE (4 * h) (xT h)) (4 * h + 1) (xA h)) (4 * h + 2) (xB h)) (4 * h + 3) (upd aG 0 (nI (h + 1)) 2)) (aKQ := aKQ) (aKE := aKE) (aKG := aKG) hk 6 0 (fun _ => h) _ _ _ _ _ _ _ _ _ _ _ fW fH fO aQ (upd aG 0 (nI (h + 1))) aW aS aM aV aZ aB (by omega) (fun s _ => by rw [if_neg (by omega)]) MM1 ?_
  rintro xw' xF' xQ' xT' xA' xB' xC' xM' xG' xS' xZ' ⟨fW', fH', fO', aQ', aG', aW', aS', aM', aV', aZ', aB', c1, c2⟩
  rw [nI_1]
  refine hn _ _ _ _ _ _ _ _ _ _ _ ⟨fW', fH', fO', aQ', _, aG', aW', aS', aM', aV', aZ', aB', c1, fun postY hp => ?_⟩
  refine nm_r (e' := upd aG 0 (nI (h + 1))) (by rw [g0, nI_1]) (nm_r g0 ⟨by rw [e4]; exact vp_in_nI (by omega) (by omega), nm_r (e' := upd aE (4 * h) (xT h)) (by rw [e4, nI_clamp (by omega)]) ⟨by rw [e41]; exact vp_in_nI (by omega) (by omega), nm_r (e' := upd (upd aE (4 * h) (xT h)) (4 * h + 1) (xA h)) (by rw [e41, nI_clamp (by omega)]) ⟨by rw [e42]; exact vp_in_nI (by omega) (by omega), nm_r (e' := upd (upd (upd aE (4 * h) (xT h)) (4 * h + 1) (xA h)) (4 * h + 2) (xB h)) (by rw [e42, nI_clamp (by omega)]) ⟨by rw [e43]; exact vp_in_nI (by omega) (by omega), nm_r (e' := upd (upd (upd (upd aE (4 * h) (xT h)) (4 * h + 1) (xA h)) (4 * h + 2) (xB h)) (4 * h + 3) (upd aG 0 (nI (h + 1)) 2)) (by rw [e43, nI_clamp (by omega)]) ⟨7, c2 postY hp⟩⟩⟩⟩⟩)
end
section
variable {xl xk : Int32} {xP xL kF kQ kT kA kB kC kM kG : Nat → Int32}
variable {fT fL fK : Int32} {aT aL aKQ aKE aKG : Nat → Int32}
theorem xy_loop {k : Nat} {post : Int32 → SX → Prop} {x4 : Int32} (hk : k ≤ 3072) : ∀ (d h τ : Nat) (xw : Int32) (xF xQ xT xA xB xC xM xG xS xZ : Nat → Int32) (fW fB fH fO : Int32) (aQ aE aG aW aS aM aV aZ aB : Nat → Int32), h + d = 64 → τ ≤ h → ed_MM k h (fun _ => h) xw xF xQ xT xA xB xC xM xG fW fB aQ aE aG aW → (∀ (xw' : Int32) (xF' xQ' xT' xA' xB' xC' xM' xG' xS' xZ' : Nat → Int32), (∃ fW' fB' fH' fO' aQ' aE' aG' aW' aS' aM' aV' aZ' aB', (ed_B k xF' xQ' xT' xA' xB' xC' xM' xG' aQ' aE' aG' ∧ xw' = 0 ∧ xF' 3 = aG' 3) ∧ ∀ postY : Int32 → SY → Prop, postY (aG' 3 - x4) (fT, fL, fK, fW', fB', fH', fO', aT, aL, aQ', aE', aG', aKQ, aKE, aKG, aW', aS', aM', aV', aZ', aB') → ∃ n : Nat, wY_send_47 postY x4 n fT fL fK fW fB fH fO aT aL aQ aE aG aKQ aKE aKG aW aS aM aV aZ aB) → post (xF' 3 - x4) (xl, xw', xk, xP, xL, xF', xQ', xT', xA', xB', xC', xM', xG', kF, kQ, kT, kA, kB, kC, kM, kG, xS', xZ')) → wX_send_40 post x4 (d + 1) (nI τ) xl xw xk xP xL xF xQ xT xA xB xC xM xG kF kQ kT kA kB kC kM kG xS xZ := by
  intro d
  induction d with
  | zero =>
    intro h τ xw xF xQ xT xA xB xC xM xG xS xZ fW fB fH fO aQ aE aG aW aS aM aV aZ aB hd hτ hM hf
    obtain ⟨hi, hC, bg, w, b1, b2, b3, b4, b5, b6⟩ := hM
    have hh := hC.2.1
    have w0 : w = 0 := by omega
    subst w0
    have e : hi = h := by omega
    subst e
    have q := hf xw xF xQ xT xA xB xC xM xG xS xZ ⟨fW, fB, fH, fO, aQ, aE, aG, aW, aS, aM, aV, aZ, aB, ⟨⟨hi, hC⟩, b1, hC.1.2.2.2.2⟩, fun postY hp => ⟨1, br_t (by rw [b4, b3]; exact nI_le (Nat.le_refl _) (by omega)) hp⟩⟩
    exact br_c (fun _ => q) (fun _ => br_t (by rw [b1]; decide) q)
  | succ d ih =>
    intro h τ xw xF xQ xT xA xB xC xM xG xS xZ fW fB fH fO aQ aE aG aW aS aM aV aZ aB hd hτ hM hf
    obtain ⟨hi, hC, bg, w, b1, b2, b3, b4, b5, b6⟩ := hM
    have hh := hC.2.1
    rcases Nat.eq_zero_or_pos w with w0 | w0
    · subst w0
      have e : hi = h := by omega
      subst e
      have q := hf xw xF xQ xT xA xB xC xM xG xS xZ ⟨fW, fB, fH, fO, aQ, aE, aG, aW, aS, aM, aV, aZ, aB, ⟨⟨hi, hC⟩, b1, hC.1.2.2.2.2⟩, fun postY hp => ⟨1, br_t (by rw [b4, b3]; exact nI_le (Nat.le_refl _) (by omega)) hp⟩⟩
      exact br_c (fun _ => q) (fun _ => br_t (by rw [b1]; decide) q)
    · obtain ⟨w, rfl⟩ : ∃ v, w = v + 1 := ⟨w - 1, by omega⟩
      obtain ⟨p0, p1, p2, p3⟩ := b6 0 (by omega)
      have p0 : aW (3 * bg) = xT h := p0
      have p1 : aW (3 * bg + 1) = xA h := p1
      have p2 : aW (3 * bg + 2) = xB h := p2
      have p3 : xC h = xF 2 := p3
      have PR : ed_PR k h xw xF xQ xT xA xB xC xM xG fW (nI (bg + 1)) aQ aE aG aW := by
        refine ⟨w, bg + 1, by rw [show h + w + 1 = hi by omega]; exact hC, b1, rfl, by rw [b4]; congr 1; omega, by omega, p3, fun j hj => ?_⟩
        have := b6 (j + 1) (by omega)
        rw [show bg + (j + 1) = bg + 1 + j by omega, show h + (j + 1) = h + 1 + j by omega] at this
        exact this
      refine xy_turn (fT := fT) (fL := fL) (fK := fK) (fH := fH) (fO := fO) (aT := aT) (aL := aL) (aKQ := aKQ) (aKE := aKE) (aKG := aKG) (aS := aS) (aM := aM) (aV := aV) (aZ := aZ) (aB := aB) hk (by omega) PR ?_
      rintro xw1 xF1 xQ1 xT1 xA1 xB1 xC1 xM1 xG1 xS1 xZ1 ⟨fW1, fH1, fO1, aQ1, aE1, aG1, aW1, aS1, aM1, aV1, aZ1, aB1, c1, c2⟩
      refine ih (h + 1) (τ + 1) _ _ _ _ _ _ _ _ _ _ _ fW1 (nI (bg + 1)) fH1 fO1 aQ1 aE1 aG1 aW1 aS1 aM1 aV1 aZ1 aB1 (by omega) (by omega) c1 ?_
      rintro xw' xF' xQ' xT' xA' xB' xC' xM' xG' xS' xZ' ⟨fW', fB', fH', fO', aQ', aE', aG', aW', aS', aM', aV', aZ', aB', r1, r2⟩
      refine hf _ _ _ _ _ _ _ _ _ _ _ ⟨fW', fB', fH', fO', aQ', aE', aG', aW', aS', aM', aV', aZ', aB', r1, fun postY hp => ?_⟩
      obtain ⟨n, hn⟩ := r2 postY hp
      have e3 : (3 : Int32) * nI bg = nI (3 * bg) := pk_mul 3 bg
      have e31 : nI (3 * bg) + 1 = nI (3 * bg + 1) := nI_1 _
      have e32 : nI (3 * bg) + 2 = nI (3 * bg + 2) := nI_add _ 2
      refine ⟨n + 1, br_f (by rw [b4, b3]; exact nI_ge (by omega) (by omega)) (nm_r (e' := nI (bg + 1)) (by rw [b3, nI_1]) (nm_r (e' := nI (3 * bg)) (by rw [b3, e3]) ?_))⟩
      rw [e31, e32, nI_clamp (by omega), nI_clamp (by omega), nI_clamp (by omega), p0, p1, p2]
      exact ⟨vp_in_nI (by omega) (by omega), vp_in_nI (by omega) (by omega), vp_in_nI (by omega) (by omega), c2 _ hn⟩
end
theorem i_vc_send {k : Nat} {u : SX} {v : SY} (I : i_Rel k u v) (hk : k + 6 ≤ 3072) (v1 : Int32) (v2 : Int32) (v3 : Int32) : wpX_send (fun r u' => wpY_send (fun r' v' => r' = r ∧ i_Rel (k + 6) u' v') v v1 v2 v3) u v1 v2 v3 := by
  obtain ⟨xl, xw, xk, xP, xL, xF, xQ, xT, xA, xB, xC, xM, xG, kF, kQ, kT, kA, kB, kC, kM, kG, xS, xZ⟩ := u
  obtain ⟨fT, fL, fK, fW, fB, fH, fO, aT, aL, aQ, aE, aG, aKQ, aKE, aKG, aW, aS, aM, aV, aZ, aB⟩ := v
  have I' := i_up I
  obtain ⟨hP, hL, hw, ⟨h, hC⟩, hK⟩ := I
  have hC0 := hC
  obtain ⟨⟨f0, g0, f1, f2, f3⟩, ⟨_, hi64⟩, _⟩ := hC0
  by_cases z0 : v1 < 0
  · exact br_t z0 (br_t z0 ⟨rfl, I'⟩)
  by_cases z3 : 3 < v1
  · exact br_f z0 (br_t z3 (br_f z0 (br_t z3 ⟨rfl, I'⟩)))
  by_cases zh : h < 64
  rotate_left
  · have e : h = 64 := by omega
    subst e
    exact br_f z0 (br_f z3 (br_f (by rw [f0]; decide) (br_f z0 (br_f z3 (br_t g0 ⟨rfl, I'⟩)))))
  have xlt : xF 0 < 64 := by rw [f0]; exact nI_lt (b := 64) zh (by omega)
  have ylt : ¬ aG 0 = 64 := by
    rw [g0]; intro q
    have := (nI_eq (b := 64) (by omega) (by omega)).mp q
    omega
  have chi : (nI h).toNatClampNeg = h := nI_clamp (by omega)
  have vhi : vp_in (nI h) 64 := vp_in_nI zh (by omega)
  have exh : xF 0 + xw = nI h := by rw [f0, hw, Int32.add_zero]
  unfold wpX_send
  dsimp only
  refine br_f z0 (br_f z3 (br_t xlt (nm_e ?_)))
  unfold wpX_addEvent
  dsimp only
  refine nm_r exh ?_
  rw [chi]
  refine br_t (nI_lt (b := 64) zh (by omega)) ⟨vhi, nm_e ⟨vhi, nm_e ⟨vhi, nm_e ⟨vhi, nm_e ⟨vhi, nm_e ⟨vhi, nm_e (nm_r (e' := nI 1) (by rw [hw]; rfl) ⟨64 - (h + 1) + 1 + 1, ?_⟩)⟩⟩⟩⟩⟩⟩
  have hCa := ed_C_add (v1 := v1) (v2 := v2) (v3 := v3) zh hC
  refine xy_turn (τ := 0) (h := h) (fT := fT) (fL := fL) (fK := fK) (fW := 0) (fB := 0) (fH := fH) (fO := fO) (aT := aT) (aL := aL) (aQ := aQ) (aE := aE) (aG := aG) (aKQ := aKQ) (aKE := aKE) (aKG := aKG) (aW := aW) (aS := aS) (aM := aM) (aV := aV) (aZ := aZ) (aB := aB) (k := k) (by omega) (by omega) ⟨0, 0, hCa, rfl, rfl, rfl, Nat.zero_le _, pk_us, fun j hj => absurd hj (Nat.not_lt_zero _)⟩ ?_
  rintro xw1 xF1 xQ1 xT1 xA1 xB1 xC1 xM1 xG1 xS1 xZ1 ⟨fW1, fH1, fO1, aQ1, aE1, aG1, aW1, aS1, aM1, aV1, aZ1, aB1, c1, c2⟩
  rw [pk_us, pk_us, pk_us] at c2
  refine xy_loop (fT := fT) (fL := fL) (fK := fK) (aT := aT) (aL := aL) (aKQ := aKQ) (aKE := aKE) (aKG := aKG) (k := k) (by omega) (64 - (h + 1)) (h + 1) (0 + 1) _ _ _ _ _ _ _ _ _ _ _ fW1 0 fH1 fO1 aQ1 aE1 aG1 aW1 aS1 aM1 aV1 aZ1 aB1 (by omega) (by omega) c1 ?_
  rintro xw' xF' xQ' xT' xA' xB' xC' xM' xG' xS' xZ' ⟨fW', fB', fH', fO', aQ', aE', aG', aW', aS', aM', aV', aZ', aB', ⟨r0, r1, r2⟩, r3⟩
  unfold wpY_send
  dsimp only
  refine br_f z0 (br_f z3 (br_f ylt (nm_r (e' := xF 3) f3.symm (c2 _ (r3 _ ⟨by rw [r2], hP, hL, r1, ed_B_up (by omega) r0, ed_K_up (by omega) hK⟩)))))
