/-! one event and one question, both sides -/
section
variable {xl xw xk : Int32} {xP xL xF xQ xT xA xB xC xM xG kF kQ kT kA kB kC kM kG xS xZ : Nat → Int32}
variable {fT fL fK fW fB fH fO : Int32} {aT aL aQ aE aG aKQ aKE aKG aW aS aM aV aZ aB : Nat → Int32}
theorem xy_ask {k s e : Nat} {hs : Nat → Nat} {postX : SX → Prop} (hk : k ≤ 3072) (h6 : s < 6) (hss : hs s = e) (hMM : ed_MM k (e + 1) hs xw xF xQ xT xA xB xC xM xG fW fB aQ aE aG aW) (hq : ¬ xQ (99 * s) = 0) (h : ∀ (xw' : Int32) (xF' xQ' xT' xA' xB' xC' xM' xG' xS' xZ' : Nat → Int32), (∃ fW' fH' fO' aQ' aG' aW' aS' aM' aV' aZ' aB', ed_MM k (e + 1) (fun j => if j = s then e + 1 else hs j) xw' xF' xQ' xT' xA' xB' xC' xM' xG' fW' fB aQ' aE aG' aW' ∧ ∀ postY : SY → Prop, postY (fT, fL, fK, fW', fB, fH', fO', aT, aL, aQ', aE, aG', aKQ, aKE, aKG, aW', aS', aM', aV', aZ', aB') → wpY_ask postY (fT, fL, fK, fW, fB, fH, fO, aT, aL, aQ, aE, aG, aKQ, aKE, aKG, aW, aS, aM, aV, aZ, aB) (nI s) (nI e)) → postX (xl, xw', xk, xP, xL, xF', xQ', xT', xA', xB', xC', xM', xG', kF, kQ, kT, kA, kB, kC, kM, kG, xS', xZ')) : wpX_ask postX (xl, xw, xk, xP, xL, xF, xQ, xT, xA, xB, xC, xM, xG, kF, kQ, kT, kA, kB, kC, kM, kG, xS, xZ) (nI s) (nI e) := by
  obtain ⟨hi, hC, hW⟩ := hMM
  obtain ⟨e0, hS⟩ := (show ed_S s e hi xQ xT xA xB xC xM xG aQ by have := ed_C_s hC h6; rw [hss] at this; exact this)
  have e0 : xQ (99 * s) = aQ (100 * s) := e0
  rcases hS with z | ⟨f, g, c, r, H⟩
  · exact absurd z hq
  have hhi := hC.2.1
  have he : e < hi := by omega
  have he64 : e < 64 := by omega
  have H' := H
  obtain ⟨⟨hf, hge, hr1, hr8, hc⟩, ⟨n12, n14, n23, n10⟩, ⟨q9, q10, q11, q12, q13, q14, q23, qc⟩, ho, hv, hm, hz, _⟩ := H'
  have n12 : xQ (99 * s + 12) = nI f := n12
  have n23 : xQ (99 * s + 23) = nI c := n23
  have q9 : xQ (99 * s + 9) = aQ (100 * s + 6) := q9
  have m9 : aQ (100 * s + 9) = nI f := q12.symm.trans n12
  have m20 : aQ (100 * s + 20) = nI c := q23.symm.trans n23
  have cvx : ∀ w, w < c → ed_cv xQ (99 * s + 24 + 25 * w) := fun w hw => ed_lx_cv.mp (hv w hw)
  have cex : ∀ w, w < c → ed_ce xQ (99 * s + 24 + 25 * w) aQ (100 * s + 24 + 25 * w) := fun w hw => ed_lx_ce (qc w (by omega))
  obtain ⟨now, tn, t1, t2, t3, t4⟩ := hC.2.2.1
  have EV : ∀ j, j ≤ e → aE (4 * j) = xT j ∧ aE (4 * j + 1) = xA j ∧ aE (4 * j + 2) = xB j ∧ aE (4 * j + 3) = xC j := fun j hj => hC.2.2.2.1 j (by omega)
  obtain ⟨st, M', hM', yk⟩ := yv_tab (fT := fT) (fL := fL) (fK := fK) (fW := fW) (fB := fB) (fH := fH) (fO := fO) (aT := aT) (aL := aL) (aQ := aQ) (aE := aE) (aG := aG) (aKQ := aKQ) (aKE := aKE) (aKG := aKG) (aW := aW) (aS := aS) (aM := aM) (aV := aV) (aZ := aZ) (aB := aB) h6 hc he64 hf m20 m9 (fun w hw => ed_MY_ok (cex w hw) (cvx w hw))
  have HM : ∀ w j, w < c → f ≤ j → j ≤ e → M' (64 * w + j) = ed_bi (ed_M (fun j => xQ (99 * s + j)) xT xA xB xC w j) := by
    intro w j hw a b
    rw [hM' w j hw a b]
    exact ed_bi_cg ((ed_MY_iff (cex w hw) (cvx w hw) (EV j b)).trans (ed_lx_me (hv w hw)))
  unfold wpX_ask
  dsimp only
  refine xb_hasQ h6 (fun z => absurd z hq) (fun _ => br_f (by decide) (xv_note h6 he64 hc n23 cvx (fun Mx st1 m1 m2 => ?_)))
  have HB : ∀ w i, w < c → f ≤ i → i ≤ e → (bt (Mx i) (3 * s + w) = true ↔ ed_M (fun j => xQ (99 * s + j)) xT xA xB xC w i) := by
    intro w i hw a b
    by_cases ei : i = e
    · subst ei
      have z : bt (xM i) (3 * s + w) = false := (hz i (Nat.le_refl _) he).1 w (by omega)
      rw [m2, z]
      constructor
      · rintro (q | ⟨w', q1, q2, q3⟩)
        · exact absurd q (by decide)
        · have : w' = w := by omega
          subst this
          exact (ed_lx_me (hv w' q1)).mp q3
      · intro q
        exact Or.inr ⟨w, hw, rfl, (ed_lx_me (hv w hw)).mpr q⟩
    · rw [m1 i ei]
      exact hm i w a (by omega) hw
  obtain ⟨hit, fo, X1, fo', V, Z, B, hfo, Y1⟩ := xy_find (xl := xl) (xw := xw) (xk := xk) (xP := xP) (xL := xL) (xF := xF) (xM := Mx) (kF := kF) (kQ := kQ) (kT := kT) (kA := kA) (kB := kB) (kC := kC) (kM := kM) (kG := kG) (xS := st1) (xZ := xZ) (fT := fT) (fL := fL) (fK := fK) (fW := fW) (fB := fB) (aT := aT) (aL := aL) (aG := aG) (aKQ := aKQ) (aKE := aKE) (aKG := aKG) (aW := aW) (aS := st) (aM := M') (aV := aV) (aZ := aZ) (aB := aB) (tn := tn) h6 he hhi.2 e0 H EV (fun j hj => (t3 j (by omega)).1) (fun a b h1 h2 => t4 a b h1 (by omega)) (by have := (t3 e he).2; omega) HB HM
  dsimp only
  refine X1 _ (fun G Z' gg => ?_)
  have Hs := ed_step he H m1 m2 gg.1 gg.2.2
  have hC' : ed_C k (e + 1) hi (fun j => if j = s then e + 1 else hs j) xF xQ xT xA xB xC Mx G aQ aE aG := by
    refine ed_C_slot (tm := xM) (tg := xG) (x := xQ) (y := aQ) (e + 1) (Nat.le_refl _) h6 (fun _ _ _ => rfl) (fun _ _ _ => rfl) ?_ (fun i _ l hl => gg.2.1 i l hl) ⟨e0, Or.inr ⟨f, g, c, r, Hs⟩⟩ hC
    intro i _ l hl
    by_cases ei : i = e
    · subst ei
      rw [Bool.eq_iff_iff, m2 l]
      exact ⟨fun q => q.elim id (fun ⟨w, w1, w2, _⟩ => by omega), Or.inl⟩
    · rw [m1 i ei]
  have w9 := ed_x s 9 h6 (by omega)
  have c9 : (nI s * 99 + 9).toNatClampNeg = 99 * s + 9 := w9.2
  have y6 := ed_y s 6 h6 (by omega)
  have d6 : (100 * nI s + 6).toNatClampNeg = 100 * s + 6 := y6.2
  refine ⟨fun yes => br_f (ed_no fo) ⟨w9.1, ?_⟩, fun no => br_t rfl (h _ _ _ _ _ _ _ _ _ _ _ ⟨fW, ed_bi hit, fo', aQ, aG, aW, st, M', V, Z, B, ⟨hi, hC', hW⟩, fun postY hp => yk _ (Y1 _ (br_t (ed_bi_f no) hp))⟩)⟩
  have hf1 : fo' = fo := hfo yes
  subst hf1
  have nz : ¬ ed_bi hit = 0 := by rw [ed_bi_t yes]; decide
  rw [c9]
  by_cases zl : fo' ≤ xQ (99 * s + 9)
  · refine br_t ((ed_l64 _ _).mpr zl) (h _ _ _ _ _ _ _ _ _ _ _ ⟨fW, ed_bi hit, fo', aQ, aG, aW, st, M', V, Z, B, ⟨hi, hC', hW⟩, fun postY hp => yk _ (Y1 _ (br_f nz ⟨y6.1, br_f ?_ hp⟩))⟩)
    rw [d6, ← q9]; exact Int32.not_lt.mpr zl
  · refine br_f (fun q => zl ((ed_l64 _ _).mp q)) ?_
    rw [ed_l32]
    obtain ⟨xw', xF', xQ', xT', xA', xB', xC', xM', xG', fW', aQ', aG', aW', a1, a2, a3⟩ := xy_count (xl := xl) (xk := xk) (xP := xP) (xL := xL) (kF := kF) (kQ := kQ) (kT := kT) (kA := kA) (kB := kB) (kC := kC) (kM := kM) (kG := kG) (xS := st1) (xZ := Z') (fT := fT) (fL := fL) (fK := fK) (fH := ed_bi hit) (fO := fo') (aT := aT) (aL := aL) (aKQ := aKQ) (aKE := aKE) (aKG := aKG) (aS := st) (aM := M') (aV := V) (aZ := Z) (aB := B) (fo := fo') (hs := fun j => if j = s then e + 1 else hs j) h6 he64 hge (if_pos rfl) Hs e0 hC' hW nz (by rw [← q9]; exact Int32.not_le.mp zl) rfl
    exact a2 _ (h _ _ _ _ _ _ _ _ _ _ _ ⟨fW', ed_bi hit, fo', aQ', aG', aW', st, M', V, Z, B, a1, fun postY hp => yk _ (Y1 _ (a3 _ hp))⟩)
end
theorem ed_C_hs {k h hi : Nat} {hs hs' : Nat → Nat} {fg x ty a b t tm tg y ev g : Nat → Int32} (e : ∀ s, s < 6 → hs' s = hs s) (H : ed_C k h hi hs fg x ty a b t tm tg y ev g) : ed_C k h hi hs' fg x ty a b t tm tg y ev g := by
  obtain ⟨h1, h2, h3, h4, h5⟩ := H
  refine ⟨h1, h2, h3, h4, fun s hs6 => ?_⟩
  rw [e s hs6]
  exact h5 s hs6
section
variable {xl xk : Int32} {xP xL kF kQ kT kA kB kC kM kG : Nat → Int32}
variable {fT fL fK fB : Int32} {aT aL aE aKQ aKE aKG : Nat → Int32}
theorem xy_slots {k e : Nat} {post : Int32 → SX → Prop} {J : (Int32 → Int32 → Int32 → Int32 → (Nat → Int32) → (Nat → Int32) → (Nat → Int32) → (Nat → Int32) → (Nat → Int32) → (Nat → Int32) → (Nat → Int32) → (Nat → Int32) → (Nat → Int32) → (Nat → Int32) → (Nat → Int32) → (Nat → Int32) → (Nat → Int32) → (Nat → Int32) → (Nat → Int32) → (Nat → Int32) → (Nat → Int32) → (Nat → Int32) → (Nat → Int32) → (Nat → Int32) → Prop)} {x4 x5 : Int32} (hk : k ≤ 3072) : ∀ (m i : Nat) (hs : Nat → Nat) (xw : Int32) (xF xQ xT xA xB xC xM xG xS xZ : Nat → Int32) (fW fH fO : Int32) (aQ aG aW aS aM aV aZ aB : Nat → Int32), i + m = 6 → (∀ s, s < 6 → hs s = if s < i then e + 1 else e) → ed_MM k (e + 1) hs xw xF xQ xT xA xB xC xM xG fW fB aQ aE aG aW → (∀ (xw' : Int32) (xF' xQ' xT' xA' xB' xC' xM' xG' xS' xZ' : Nat → Int32), (∃ fW' fH' fO' aQ' aG' aW' aS' aM' aV' aZ' aB', ed_MM k (e + 1) (fun _ => e + 1) xw' xF' xQ' xT' xA' xB' xC' xM' xG' fW' fB aQ' aE aG' aW' ∧ ∀ postY : SY → Prop, postY (fT, fL, fK, fW', fB, fH', fO', aT, aL, aQ', aE, aG', aKQ, aKE, aKG, aW', aS', aM', aV', aZ', aB') → wY_happen_67 postY (nI e) (m + 1) (nI i) fT fL fK fW fB fH fO aT aL aQ aE aG aKQ aKE aKG aW aS aM aV aZ aB) → J (x5 + 1) xl xw' xk xP xL xF' xQ' xT' xA' xB' xC' xM' xG' kF kQ kT kA kB kC kM kG xS' xZ') → wX_send_85 post J x4 x5 (nI e) (m + 1) (nI i) xl xw xk xP xL xF xQ xT xA xB xC xM xG kF kQ kT kA kB kC kM kG xS xZ := by
  intro m
  induction m with
  | zero =>
    intro i hs xw xF xQ xT xA xB xC xM xG xS xZ fW fH fO aQ aG aW aS aM aV aZ aB hi hhs hM h
    have e0 : i = 6 := by omega
    subst e0
    refine br_t (by decide) (nm_e (h _ _ _ _ _ _ _ _ _ _ _ ⟨fW, fH, fO, aQ, aG, aW, aS, aM, aV, aZ, aB, ?_, fun postY hp => br_t (by decide) hp⟩))
    obtain ⟨hi', hC, hW⟩ := hM
    exact ⟨hi', ed_C_hs (fun s h6 => by rw [hhs s h6, if_pos h6]) hC, hW⟩
  | succ m ih =>
    intro i hs xw xF xQ xT xA xB xC xM xG xS xZ fW fH fO aQ aG aW aS aM aV aZ aB hi hhs hM h
    have h6 : i < 6 := by omega
    have n6 : ¬ (6 : Int32) ≤ nI i := ed_n6 h6
    have hss : hs i = e := by rw [hhs i h6, if_neg (by omega)]
    have w0 := ed_y0 i h6
    have hhs' : ∀ s, s < 6 → (fun j => if j = i then e + 1 else hs j) s = if s < i + 1 then e + 1 else e := by
      intro s hs6
      dsimp only
      by_cases q : s = i
      · rw [if_pos q, if_pos (by omega)]
      · rw [if_neg q, hhs s hs6]
        by_cases q2 : s < i
        · rw [if_pos q2, if_pos (by omega)]
        · rw [if_neg q2, if_neg (by omega)]
    have e0 : xQ (99 * i) = aQ (100 * i) := by
      obtain ⟨hi', hC, _⟩ := hM
      exact (ed_C_s hC h6).1
    refine br_f n6 ?_
    by_cases z : xQ (99 * i) = 0
    · have zy : aQ (100 * i) = 0 := e0.symm.trans z
      unfold wpX_ask
      dsimp only
      refine xb_hasQ h6 (fun _ => br_t rfl (nm_r (nI_1 i) (ih (i + 1) (fun j => if j = i then e + 1 else hs j) _ _ _ _ _ _ _ _ _ _ _ fW fH fO aQ aG aW aS aM aV aZ aB (by omega) hhs' ?_ ?_))) (fun q => absurd z q)
      · obtain ⟨hi', hC, hW⟩ := hM
        exact ⟨hi', ed_C_slot (tm := xM) (tg := xG) (x := xQ) (y := aQ) (e + 1) (Nat.le_refl _) h6 (fun _ _ _ => rfl) (fun _ _ _ => rfl) (fun _ _ _ _ => rfl) (fun _ _ _ _ => rfl) ⟨e0, Or.inl z⟩ hC, hW⟩
      · rintro xw' xF' xQ' xT' xA' xB' xC' xM' xG' xS' xZ' ⟨fW', fH', fO', aQ', aG', aW', aS', aM', aV', aZ', aB', b1, b2⟩
        exact h _ _ _ _ _ _ _ _ _ _ _ ⟨fW', fH', fO', aQ', aG', aW', aS', aM', aV', aZ', aB', b1, fun postY hp => br_f n6 ⟨w0.1, br_t (by rw [w0.2]; exact zy) (nm_r (nI_1 i) (b2 postY hp))⟩⟩
    · have zy : ¬ aQ (100 * i) = 0 := fun q => z (e0.trans q)
      refine xy_ask (fT := fT) (fL := fL) (fK := fK) (fH := fH) (fO := fO) (aT := aT) (aL := aL) (aKQ := aKQ) (aKE := aKE) (aKG := aKG) (aS := aS) (aM := aM) (aV := aV) (aZ := aZ) (aB := aB) hk h6 hss hM z ?_
      rintro xw1 xF1 xQ1 xT1 xA1 xB1 xC1 xM1 xG1 xS1 xZ1 ⟨fW1, fH1, fO1, aQ1, aG1, aW1, aS1, aM1, aV1, aZ1, aB1, c1, c2⟩
      refine nm_r (nI_1 i) (ih (i + 1) (fun j => if j = i then e + 1 else hs j) _ _ _ _ _ _ _ _ _ _ _ fW1 fH1 fO1 aQ1 aG1 aW1 aS1 aM1 aV1 aZ1 aB1 (by omega) hhs' c1 ?_)
      rintro xw' xF' xQ' xT' xA' xB' xC' xM' xG' xS' xZ' ⟨fW', fH', fO', aQ', aG', aW', aS', aM', aV', aZ', aB', b1, b2⟩
      exact h _ _ _ _ _ _ _ _ _ _ _ ⟨fW', fH', fO', aQ', aG', aW', aS', aM', aV', aZ', aB', b1, fun postY hp => br_f n6 ⟨w0.1, br_f (by rw [w0.2]; exact zy) (c2 _ (nm_r (nI_1 i) (b2 postY hp)))⟩⟩
end
