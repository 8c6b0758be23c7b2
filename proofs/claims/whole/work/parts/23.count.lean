/-! counting, giving, routing -/
def ed_W (h hi : Nat) (xw : Int32) (fg ty a b t : Nat → Int32) (fW fB : Int32) (aW : Nat → Int32) : Prop :=
  ∃ bg w : Nat, xw = nI w ∧ hi = h + w ∧ fB = nI bg ∧ fW = nI (bg + w) ∧ bg + 1 ≤ h ∧ (∀ j, j < w → aW (3 * (bg + j)) = ty (h + j) ∧ aW (3 * (bg + j) + 1) = a (h + j) ∧ aW (3 * (bg + j) + 2) = b (h + j) ∧ t (h + j) = fg 2)
def ed_MM (k h : Nat) (hs : Nat → Nat) (xw : Int32) (xF xQ xT xA xB xC xM xG : Nat → Int32) (fW fB : Int32) (aQ aE aG aW : Nat → Int32) : Prop :=
  ∃ hi, ed_C k h hi hs xF xQ xT xA xB xC xM xG aQ aE aG ∧ ed_W h hi xw xF xT xA xB xC fW fB aW
theorem ed_C_slot2 {k h hi s : Nat} {hs : Nat → Nat} {fg x ty a b t tm tg y ev g x' y' tm' tg' : Nat → Int32} (hs6 : s < 6) (ex : ∀ j, j < 594 → (j < 99 * s ∨ 99 * s + 99 ≤ j) → x' j = x j) (ey : ∀ j, j < 600 → (j < 100 * s ∨ 100 * s + 100 ≤ j) → y' j = y j) (em : ∀ i, i < hi → ∀ l, (l < 3 * s ∨ 3 * s + 3 ≤ l) → bt (tm' i) l = bt (tm i) l) (eg : ∀ i, i < hi → ∀ l, l ≠ s → bt (tg' i) l = bt (tg i) l) (Q : ed_S s (hs s) hi x' ty a b t tm' tg' y') (H : ed_C k h hi hs fg x ty a b t tm tg y ev g) : ed_C k h hi hs fg x' ty a b t tm' tg' y' ev g := by
  have z := ed_C_slot (hs s) (H.2.2.2.2 s hs6).1 hs6 ex ey em eg Q H
  have e : (fun j => if j = s then hs s else hs j) = hs := by
    funext j
    by_cases q : j = s
    · rw [if_pos q, q]
    · rw [if_neg q]
  rw [e] at z
  exact z
theorem ed_C_fg {k h hi : Nat} {hs : Nat → Nat} {fg x ty a b t tm tg y ev g fg' g' : Nat → Int32} (f0 : fg' 0 = fg 0) (f2 : fg' 2 = fg 2) (y0 : g' 0 = g 0) (y2 : g' 2 = g 2) (e1 : fg' 1 = g' 1) (e3 : fg' 3 = g' 3) (H : ed_C k h hi hs fg x ty a b t tm tg y ev g) : ed_C k h hi hs fg' x ty a b t tm tg y ev g' := by
  obtain ⟨⟨h0, h0', _, h2, _⟩, hh, ⟨now, tn, a1, a2, a3, a4⟩, h4, h5⟩ := H
  exact ⟨⟨f0.trans h0, y0.trans h0', e1, (f2.trans h2).trans y2.symm, e3⟩, hh, ⟨now, tn, f2.trans a1, a2, a3, a4⟩, h4, h5⟩
theorem ed_Q_ext {hs hi : Nat} {lx ly ty a b t ty' a' b' t' : Nat → Int32} {mb mb' : Nat → Nat → Bool} {gb gb' : Nat → Bool} (hl : hs ≤ hi) (e3 : ∀ i, i < hi → ty' i = ty i ∧ a' i = a i ∧ b' i = b i ∧ t' i = t i) (e4 : ∀ i, i < hi → (∀ w, w < 3 → mb' i w = mb i w) ∧ gb' i = gb i) (z1 : ∀ w, w < 3 → mb' hi w = false) (z2 : gb' hi = false) (h : ed_Q hs hi lx ly ty a b t mb gb) : ed_Q hs (hi + 1) lx ly ty' a' b' t' mb' gb' := by
  have h' := ed_Q_cg (lx' := lx) (ly' := ly) (ty' := ty') (a' := a') (b' := b') (t' := t') (mb' := mb') (gb' := gb') hl (fun _ _ => rfl) (fun _ _ => rfl) (fun i q => e3 i (by omega)) e4 h
  obtain ⟨h0, h'⟩ := h'
  refine ⟨h0, ?_⟩
  rcases h' with h' | ⟨f, g, c, r, q1, q2, q3, q4, q5, q6, hz, q8⟩
  · exact Or.inl h'
  · refine Or.inr ⟨f, g, c, r, q1, q2, q3, q4, q5, q6, fun i h1 h2 => ?_, q8⟩
    by_cases e0 : i = hi
    · subst e0; exact ⟨z1, z2⟩
    · exact hz i h1 (by omega)
theorem ed_C_add {k h hi : Nat} {hs : Nat → Nat} {fg x ty a b t tm tg y ev g : Nat → Int32} {v1 v2 v3 : Int32} (h64 : hi < 64) (H : ed_C k h hi hs fg x ty a b t tm tg y ev g) : ed_C k h (hi + 1) hs fg x (upd ty hi v1) (upd a hi v2) (upd b hi v3) (upd t hi (fg 2)) (upd tm hi 0) (upd tg hi 0) y ev g := by
  obtain ⟨h0, ⟨hh, _⟩, ⟨now, tn, a1, a2, a3, a4⟩, h4, h5⟩ := H
  refine ⟨h0, ⟨by omega, by omega⟩, ⟨now, fun i => if i = hi then now else tn i, a1, a2, ?_, ?_⟩, ?_, ?_⟩
  · intro i hi'
    dsimp only
    by_cases e : i = hi
    · subst e; rw [pk_us, if_pos rfl]; exact ⟨a1, Nat.le_refl _⟩
    · rw [pk_un e, if_neg e]; exact a3 i (by omega)
  · intro i j hij hj
    dsimp only
    by_cases e : j = hi
    · subst e
      rw [if_pos rfl]
      by_cases e2 : i = j
      · rw [if_pos e2]; exact Nat.le_refl _
      · rw [if_neg e2]; exact (a3 i (by omega)).2
    · rw [if_neg e, if_neg (by omega)]; exact a4 i j hij (by omega)
  · intro i hi'
    rw [pk_un (by omega), pk_un (by omega), pk_un (by omega), pk_un (by omega)]
    exact h4 i hi'
  · intro s hs6
    obtain ⟨p1, p2⟩ := h5 s hs6
    refine ⟨p1, ?_⟩
    unfold ed_S at p2 ⊢
    refine ed_Q_ext (by omega) ?_ ?_ ?_ ?_ p2
    · intro i hi'
      rw [pk_un (by omega), pk_un (by omega), pk_un (by omega), pk_un (by omega)]
      exact ⟨rfl, rfl, rfl, rfl⟩
    · intro i hi'
      rw [pk_un (by omega), pk_un (by omega)]
      exact ⟨fun _ _ => rfl, rfl⟩
    · intro w _; rw [pk_us]; exact b_0 _
    · rw [pk_us]; exact b_0 _
section
variable {xl xw xk : Int32} {xP xL xF xQ xT xA xB xC xM xG kF kQ kT kA kB kC kM kG xS xZ : Nat → Int32}
variable {fT fL fK fW fB fH fO : Int32} {aT aL aQ aE aG aKQ aKE aKG aW aS aM aV aZ aB : Nat → Int32}
theorem xy_count {k s e f g c r hi : Nat} {hs : Nat → Nat} {fo : Int32} (h6 : s < 6) (he : e < 64) (hge : g ≤ e) (hss : hs s = e + 1) (H : ed_Qs f g c r (e + 1) hi (fun j => xQ (99 * s + j)) (fun j => aQ (100 * s + j)) xT xA xB xC (fun i w => bt (xM i) (3 * s + w)) (fun i => bt (xG i) s)) (e0 : xQ (99 * s) = aQ (100 * s)) (hC : ed_C k (e + 1) hi hs xF xQ xT xA xB xC xM xG aQ aE aG) (hW : ed_W (e + 1) hi xw xF xT xA xB xC fW fB aW) (hfH : ¬ fH = 0) (hlt : aQ (100 * s + 6) < fO) (hfo : fO = fo) : ∃ xw' xF' xQ' xT' xA' xB' xC' xM' xG' fW' aQ' aG' aW', ed_MM k (e + 1) hs xw' xF' xQ' xT' xA' xB' xC' xM' xG' fW' fB aQ' aE aG' aW' ∧ (∀ post : SX → Prop, post (xl, xw', xk, xP, xL, xF', xQ', xT', xA', xB', xC', xM', xG', kF, kQ, kT, kA, kB, kC, kM, kG, xS, xZ) → wpX_countOutput post (xl, xw, xk, xP, xL, xF, xQ, xT, xA, xB, xC, xM, xG, kF, kQ, kT, kA, kB, kC, kM, kG, xS, xZ) (nI s) fo) ∧ (∀ post : SY → Prop, post (fT, fL, fK, fW', fB, fH, fO, aT, aL, aQ', aE, aG', aKQ, aKE, aKG, aW', aS, aM, aV, aZ, aB) → wY_ask_137 post (nI s) fT fL fK fW fB fH fO aT aL aQ aE aG aKQ aKE aKG aW aS aM aV aZ aB) := by
  subst hfo
  have H' := H
  obtain ⟨⟨hf, hg, hr1, hr8, hc⟩, ⟨n12, n14, n23, n10⟩, ⟨q9, q10, q11, q12, q13, q14, q23, qc⟩, ho, hv, hm, hz, hq⟩ := H'
  have hhi := hC.2.1
  have hcs := (hC.2.2.2.2 s h6).1
  have n14 : xQ (99 * s + 14) = nI g := n14
  have n10 : xQ (99 * s + 10) = nI r := n10
  have m14 : aQ (100 * s + 11) = nI g := (q14.symm).trans n14
  have m10 : aQ (100 * s + 7) = nI r := (q10.symm).trans n10
  have q13 : xQ (99 * s + 13) = aQ (100 * s + 10) := q13
  have q11 : xQ (99 * s + 11) = aQ (100 * s + 8) := q11
  have q9 : xQ (99 * s + 9) = aQ (100 * s + 6) := q9
  have w13 := ed_x s 13 h6 (by omega)
  have w10 := ed_x s 10 h6 (by omega)
  have w14 := ed_x s 14 h6 (by omega)
  have w11 := ed_x s 11 h6 (by omega)
  have c13 : (nI s * 99 + 13).toNatClampNeg = 99 * s + 13 := w13.2
  have c10 : (nI s * 99 + 10).toNatClampNeg = 99 * s + 10 := w10.2
  have c14 : (nI s * 99 + 14).toNatClampNeg = 99 * s + 14 := w14.2
  have c11 : (nI s * 99 + 11).toNatClampNeg = 99 * s + 11 := w11.2
  have y6 := ed_y s 6 h6 (by omega)
  have y10 := ed_y s 10 h6 (by omega)
  have y7 := ed_y s 7 h6 (by omega)
  have y11 := ed_y s 11 h6 (by omega)
  have y8 := ed_y s 8 h6 (by omega)
  have d6 : (100 * nI s + 6).toNatClampNeg = 100 * s + 6 := y6.2
  have d10 : (100 * nI s + 10).toNatClampNeg = 100 * s + 10 := y10.2
  have d7 : (100 * nI s + 7).toNatClampNeg = 100 * s + 7 := y7.2
  have d11 : (100 * nI s + 11).toNatClampNeg = 100 * s + 11 := y11.2
  have d8 : (100 * nI s + 8).toNatClampNeg = 100 * s + 8 := y8.2
  have r0 : ¬ nI r = 0 := nI_ne0 (by omega) (by omega)
  obtain ⟨v, hv'⟩ : ∃ v, v = aQ (100 * s + 10) + 1 := ⟨_, rfl⟩
  have x4_13 : upd xQ (99 * s + 13) v (99 * s + 13) = v := pk_us
  have x4_10 : upd xQ (99 * s + 13) v (99 * s + 10) = nI r := by rw [pk_un (by omega)]; exact n10
  have x4_14 : upd xQ (99 * s + 13) v (99 * s + 14) = nI g := by rw [pk_un (by omega)]; exact n14
  have y4_10 : upd aQ (100 * s + 10) v (100 * s + 10) = v := pk_us
  have y4_7 : upd aQ (100 * s + 10) v (100 * s + 7) = nI r := by rw [pk_un (by omega)]; exact m10
  -- the two walks, opened
  have XO : ∀ post : SX → Prop, ((v - v / nI r * nI r = 0 → (¬ (8 : Int32) = 0 ∧ (vp_in ((nI s * 99 + 15) + (nI g - nI g / 8 * 8)) 594 ∧ ∀ q, q = upd (upd xQ (99 * s + 13) v) ((nI s * 99 + 15) + (nI g - nI g / 8 * 8)).toNatClampNeg fO → ∀ q2, q2 = upd q (99 * s + 14) (q (99 * s + 14) + 1) → ((q2 (99 * s + 11) = 4 → post (xl, xw, xk, xP, xL, upd xF 3 (xF 3 + 1), q2, xT, xA, xB, xC, xM, xG, kF, kQ, kT, kA, kB, kC, kM, kG, xS, xZ)) ∧ (¬ q2 (99 * s + 11) = 4 → wpX_addEvent post (xl, xw, xk, xP, xL, upd xF 3 (xF 3 + 1), q2, xT, xA, xB, xC, xM, xG, kF, kQ, kT, kA, kB, kC, kM, kG, xS, xZ) (q2 (99 * s + 11)) (nI s) fO))))) ∧ (¬ v - v / nI r * nI r = 0 → post (xl, xw, xk, xP, xL, xF, upd xQ (99 * s + 13) v, xT, xA, xB, xC, xM, xG, kF, kQ, kT, kA, kB, kC, kM, kG, xS, xZ))) → wpX_countOutput post (xl, xw, xk, xP, xL, xF, xQ, xT, xA, xB, xC, xM, xG, kF, kQ, kT, kA, kB, kC, kM, kG, xS, xZ) (nI s) fO := by
    intro post h
    unfold wpX_countOutput
    dsimp only
    refine nm_e ⟨w13.1, w13.1, nm_r (e' := upd xQ (99 * s + 13) v) (by rw [c13, q13, hv']) ?_⟩
    rw [c13, c10, c14, c11, x4_13, x4_10, x4_14]
    refine ⟨w13.1, w10.1, r0, fun a => ⟨w14.1, (h.1 a).1, (h.1 a).2.1, fun q hq => ⟨w14.1, w14.1, fun q2 hq2 => nm_e ⟨w11.1, fun b => ((h.1 a).2.2 q hq q2 hq2).1 b, fun b => ⟨w11.1, ((h.1 a).2.2 q hq q2 hq2).2 b⟩⟩⟩⟩, fun a => h.2 a⟩
  have YO : ∀ post : SY → Prop, ((v - v / nI r * nI r = 0 → wpY_give post (fT, fL, fK, fW, fB, fH, fO, aT, aL, upd aQ (100 * s + 10) v, aE, aG, aKQ, aKE, aKG, aW, aS, aM, aV, aZ, aB) (nI s)) ∧ (¬ v - v / nI r * nI r = 0 → post (fT, fL, fK, fW, fB, fH, fO, aT, aL, upd aQ (100 * s + 10) v, aE, aG, aKQ, aKE, aKG, aW, aS, aM, aV, aZ, aB))) → wY_ask_137 post (nI s) fT fL fK fW fB fH fO aT aL aQ aE aG aKQ aKE aKG aW aS aM aV aZ aB := by
    intro post h
    refine br_f hfH ⟨y6.1, ?_⟩
    rw [d6]
    refine br_t hlt ⟨y10.1, y10.1, nm_r (e' := upd aQ (100 * s + 10) v) (by rw [d10, hv']) ?_⟩
    rw [d10, d7, y4_10, y4_7]
    exact ⟨y10.1, y7.1, r0, h⟩
  by_cases zr : v - v / nI r * nI r = 0
  rotate_left
  · refine ⟨xw, xF, upd xQ (99 * s + 13) v, xT, xA, xB, xC, xM, xG, fW, upd aQ (100 * s + 10) v, aG, aW, ⟨hi, ?_, hW⟩, fun post h => XO post (br_f zr h), fun post h => YO post (br_f zr h)⟩
    refine ed_C_slot2 (tm := xM) (tg := xG) h6 ?_ ?_ (fun _ _ _ _ => rfl) (fun _ _ _ _ => rfl) ?_ hC
    · intro j _ hj; exact pk_un (by omega)
    · intro j _ hj; exact pk_un (by omega)
    · rw [hss]
      refine ⟨?_, Or.inr ⟨f, g, c, r, ed_Qs_upd (by omega) ?_ ?_ (fun i _ => ⟨rfl, rfl, rfl, rfl⟩) (fun i _ => ⟨fun _ _ => rfl, rfl⟩) hg ⟨hr1, hr8⟩ ?_ ?_ ?_ ?_ ?_ ?_ ?_ ?_ H⟩⟩
      · show upd xQ _ _ (99 * s) = upd aQ _ _ (100 * s)
        simp (disch := omega) only [pk_us, pk_un]; exact e0
      · intro j h1 h2; (try dsimp only); simp (disch := omega) only [pk_us, pk_un]
      · intro j h1 h2; (try dsimp only); simp (disch := omega) only [pk_us, pk_un]
      · (try dsimp only); simp (disch := omega) only [pk_us, pk_un]; exact n14
      · (try dsimp only); simp (disch := omega) only [pk_us, pk_un]; exact n10
      · (try dsimp only); simp (disch := omega) only [pk_us, pk_un]; exact q9
      · (try dsimp only); simp (disch := omega) only [pk_us, pk_un]; exact n10.trans m10.symm
      · (try dsimp only); simp (disch := omega) only [pk_us, pk_un]; exact q11
      · (try dsimp only); simp (disch := omega) only [pk_us, pk_un]
      · (try dsimp only); simp (disch := omega) only [pk_us, pk_un]; exact n14.trans m14.symm
      · intro j h1 h2; (try dsimp only); simp (disch := omega) only [pk_us, pk_un]; exact ho j h1 h2
  have hg8 : g % 8 < 8 := Nat.mod_lt _ (by omega)
  have eg : nI g - nI g / 8 * 8 = nI (g % 8) := pk_rem (d := 8) (by omega) (by omega) (by omega)
  have eg2 : nI g &&& 7 = nI (g % 8) := pk_andN (by omega) 3 (by decide)
  have ix : (nI s * 99 + 15) + (nI g - nI g / 8 * 8) = nI (99 * s + 15 + g % 8) := by
    rw [eg, show nI s * 99 + 15 = nI (99 * s + 15) from ed_xi s 15, nI_add]
  have iy : (100 * nI s + 12) + (nI g &&& 7) = nI (100 * s + 12 + g % 8) := by
    rw [eg2, show (100 : Int32) * nI s + 12 = nI (100 * s + 12) from ed_yi s 12, nI_add]
  obtain ⟨Q2, hQ2⟩ : ∃ Q2, Q2 = upd (upd (upd xQ (99 * s + 13) v) (99 * s + 15 + g % 8) fO) (99 * s + 14) (nI (g + 1)) := ⟨_, rfl⟩
  obtain ⟨P2, hP2⟩ : ∃ P2, P2 = upd (upd (upd aQ (100 * s + 10) v) (100 * s + 12 + g % 8) fO) (100 * s + 11) (nI (g + 1)) := ⟨_, rfl⟩
  have Q211 : Q2 (99 * s + 11) = xQ (99 * s + 11) := by rw [hQ2]; simp (disch := omega) only [pk_us, pk_un]
  have P28 : P2 (100 * s + 8) = aQ (100 * s + 8) := by rw [hP2]; simp (disch := omega) only [pk_us, pk_un]
  have hC2 : ed_C k (e + 1) hi hs (upd xF 3 (xF 3 + 1)) Q2 xT xA xB xC xM xG P2 aE (upd aG 3 (aG 3 + 1)) := by
    refine ed_C_fg (fg := xF) (g := aG) (pk_un (by omega)) (pk_un (by omega)) (pk_un (by omega)) (pk_un (by omega)) ?_ ?_ (ed_C_slot2 (tm := xM) (tg := xG) h6 ?_ ?_ (fun _ _ _ _ => rfl) (fun _ _ _ _ => rfl) ?_ hC)
    · simp (disch := omega) only [pk_us, pk_un]; exact hC.1.2.2.1
    · simp (disch := omega) only [pk_us, pk_un]; rw [hC.1.2.2.2.2]
    · intro j _ hj; rw [hQ2]; simp (disch := omega) only [pk_us, pk_un]
    · intro j _ hj; rw [hP2]; simp (disch := omega) only [pk_us, pk_un]
    · rw [hss, hQ2, hP2]
      refine ⟨?_, Or.inr ⟨f, g + 1, c, r, ed_Qs_upd (by omega) ?_ ?_ (fun i _ => ⟨rfl, rfl, rfl, rfl⟩) (fun i _ => ⟨fun _ _ => rfl, rfl⟩) (by omega) ⟨hr1, hr8⟩ ?_ ?_ ?_ ?_ ?_ ?_ ?_ ?_ H⟩⟩
      · show upd _ _ _ (99 * s) = upd _ _ _ (100 * s)
        simp (disch := omega) only [pk_us, pk_un]; exact e0
      · intro j h1 h2; (try dsimp only); simp (disch := omega) only [pk_us, pk_un]
      · intro j h1 h2; (try dsimp only); simp (disch := omega) only [pk_us, pk_un]
      · (try dsimp only); simp (disch := omega) only [pk_us, pk_un]
      · (try dsimp only); simp (disch := omega) only [pk_us, pk_un]; exact n10
      · (try dsimp only); simp (disch := omega) only [pk_us, pk_un]; exact q9
      · (try dsimp only); simp (disch := omega) only [pk_us, pk_un]; exact n10.trans m10.symm
      · (try dsimp only); simp (disch := omega) only [pk_us, pk_un]; exact q11
      · (try dsimp only); simp (disch := omega) only [pk_us, pk_un]
      · (try dsimp only); simp (disch := omega) only [pk_us, pk_un]
      · intro j h1 h2
        (try dsimp only)
        by_cases ej : j = g % 8
        · subst ej
          rw [← Nat.add_assoc, ← Nat.add_assoc]
          simp (disch := omega) only [pk_us, pk_un]
        · simp (disch := omega) only [pk_us, pk_un]
          refine ho j h1 ?_
          rcases Nat.lt_or_ge j g with q | q
          · exact q
          · have : j = g := by omega
            subst this
            exact absurd (Nat.mod_eq_of_lt h1).symm ej
  have XG : ∀ post : SX → Prop, ((xQ (99 * s + 11) = 4 → post (xl, xw, xk, xP, xL, upd xF 3 (xF 3 + 1), Q2, xT, xA, xB, xC, xM, xG, kF, kQ, kT, kA, kB, kC, kM, kG, xS, xZ)) ∧ (¬ xQ (99 * s + 11) = 4 → wpX_addEvent post (xl, xw, xk, xP, xL, upd xF 3 (xF 3 + 1), Q2, xT, xA, xB, xC, xM, xG, kF, kQ, kT, kA, kB, kC, kM, kG, xS, xZ) (xQ (99 * s + 11)) (nI s) fO)) → wpX_countOutput post (xl, xw, xk, xP, xL, xF, xQ, xT, xA, xB, xC, xM, xG, kF, kQ, kT, kA, kB, kC, kM, kG, xS, xZ) (nI s) fO := by
    intro post h
    refine XO post (br_t zr ⟨by decide, ?_⟩)
    rw [ix, nI_clamp (by omega)]
    refine ⟨vp_in_nI (by omega) (by omega), nm_e (nm_r (e' := Q2) ?_ ?_)⟩
    · rw [hQ2]
      congr 1
      simp (disch := omega) only [pk_us, pk_un]
      rw [n14, nI_1]
    · rw [Q211]; exact h
  have YG : ∀ post : SY → Prop, ((aQ (100 * s + 8) = 4 → post (fT, fL, fK, fW, fB, fH, fO, aT, aL, P2, aE, upd aG 3 (aG 3 + 1), aKQ, aKE, aKG, aW, aS, aM, aV, aZ, aB)) ∧ (¬ aQ (100 * s + 8) = 4 → (((upd aG 3 (aG 3 + 1) 0 + fW - fB) < 64 → (vp_in (3 * fW) 192 ∧ ∀ a1, a1 = upd aW (3 * fW).toNatClampNeg (aQ (100 * s + 8)) → (vp_in (3 * fW + 1) 192 ∧ ∀ a2, a2 = upd a1 (3 * fW + 1).toNatClampNeg (nI s) → (∀ f2, f2 = fW + 1 → (vp_in (3 * fW + 2) 192 ∧ ∀ a3, a3 = upd a2 (3 * fW + 2).toNatClampNeg fO → post (fT, fL, fK, f2, fB, fH, fO, aT, aL, P2, aE, upd aG 3 (aG 3 + 1), aKQ, aKE, aKG, a3, aS, aM, aV, aZ, aB)))))) ∧ (¬ (upd aG 3 (aG 3 + 1) 0 + fW - fB) < 64 → ∀ g2, g2 = upd (upd aG 3 (aG 3 + 1)) 1 (upd aG 3 (aG 3 + 1) 1 + 1) → post (fT, fL, fK, fW, fB, fH, fO, aT, aL, P2, aE, g2, aKQ, aKE, aKG, aW, aS, aM, aV, aZ, aB))))) → wY_ask_137 post (nI s) fT fL fK fW fB fH fO aT aL aQ aE aG aKQ aKE aKG aW aS aM aV aZ aB := by
    intro post h
    refine YO post (br_t zr ?_)
    unfold wpY_give
    dsimp only
    have z11 : upd aQ (100 * s + 10) v (100 * s + 11) = nI g := by simp (disch := omega) only [pk_us, pk_un]; exact m14
    rw [d11, d8, z11, iy, nI_clamp (by omega)]
    refine ⟨y11.1, vp_in_nI (by omega) (by omega), nm_e ⟨y11.1, y11.1, nm_r (e' := P2) ?_ (nm_e ⟨y8.1, nm_r (e' := aQ (100 * s + 8)) P28 h⟩)⟩⟩
    rw [hP2]
    congr 1
    simp (disch := omega) only [pk_us, pk_un]
    rw [m14, nI_1]
  by_cases z4 : xQ (99 * s + 11) = 4
  · refine ⟨xw, upd xF 3 (xF 3 + 1), Q2, xT, xA, xB, xC, xM, xG, fW, P2, upd aG 3 (aG 3 + 1), aW, ⟨hi, hC2, ?_⟩, fun post h => XG post (br_t z4 h), fun post h => YG post (br_t (q11.symm.trans z4) h)⟩
    obtain ⟨bg, w, b1, b2, b3, b4, b5, b6⟩ := hW
    refine ⟨bg, w, b1, b2, b3, b4, b5, fun j hj => ?_⟩
    rw [pk_un (show (2 : Nat) ≠ 3 by omega)]
    exact b6 j hj
  have z4y : ¬ aQ (100 * s + 8) = 4 := fun q => z4 (q11.trans q)
  obtain ⟨bg, w, b1, b2, b3, b4, b5, b6⟩ := hW
  have f0 : upd xF 3 (xF 3 + 1) 0 = nI (e + 1) := by simp (disch := omega) only [pk_us, pk_un]; exact hC.1.1
  have g0 : upd aG 3 (aG 3 + 1) 0 = nI (e + 1) := by simp (disch := omega) only [pk_us, pk_un]; exact hC.1.2.1
  have exh : upd xF 3 (xF 3 + 1) 0 + xw = nI hi := by rw [f0, b1, nI_add, b2]
  have eyh : upd aG 3 (aG 3 + 1) 0 + fW - fB = nI hi := by
    rw [g0, b4, b3, nI_add, pk_sub (by omega)]
    congr 1; omega
  by_cases z64 : hi < 64
  · have lx : nI hi < 64 := nI_lt (b := 64) z64 (by omega)
    have chi : (nI hi).toNatClampNeg = hi := nI_clamp (by omega)
    have vhi : vp_in (nI hi) 64 := vp_in_nI z64 (by omega)
    have e3 : (3 : Int32) * fW = nI (3 * (bg + w)) := by rw [b4]; exact pk_mul 3 _
    have e31 : (3 : Int32) * fW + 1 = nI (3 * (bg + w) + 1) := by rw [e3, nI_1]
    have e32 : (3 : Int32) * fW + 2 = nI (3 * (bg + w) + 2) := by rw [e3]; exact nI_add _ 2
    refine ⟨nI (w + 1), upd xF 3 (xF 3 + 1), Q2, upd xT hi (xQ (99 * s + 11)), upd xA hi (nI s), upd xB hi fO, upd xC hi (upd xF 3 (xF 3 + 1) 2), upd xM hi 0, upd xG hi 0, nI (bg + w + 1), P2, upd aG 3 (aG 3 + 1), upd (upd (upd aW (3 * (bg + w)) (aQ (100 * s + 8))) (3 * (bg + w) + 1) (nI s)) (3 * (bg + w) + 2) fO, ⟨hi + 1, ed_C_add z64 hC2, ?_⟩, fun post h => XG post (br_f z4 ?_), fun post h => YG post (br_f z4y ?_)⟩
    · refine ⟨bg, w + 1, rfl, by omega, b3, rfl, b5, fun j hj => ?_⟩
      by_cases ej : j = w
      · subst ej
        rw [← b2]
        simp (disch := omega) only [pk_us, pk_un]
        exact ⟨q11.symm, trivial, trivial, trivial⟩
      · have := b6 j (by omega)
        simp (disch := omega) only [pk_us, pk_un]
        exact this
    · unfold wpX_addEvent
      dsimp only
      refine nm_r exh ?_
      rw [chi]
      exact br_t lx ⟨vhi, nm_e ⟨vhi, nm_e ⟨vhi, nm_e ⟨vhi, nm_e ⟨vhi, nm_e ⟨vhi, nm_e (nm_r (e' := nI (w + 1)) (by rw [b1, nI_1]) h)⟩⟩⟩⟩⟩⟩
    · rw [eyh]
      refine br_t lx ⟨by rw [e3]; exact vp_in_nI (by omega) (by omega), nm_r (e' := upd aW (3 * (bg + w)) (aQ (100 * s + 8))) (by rw [e3, nI_clamp (by omega)]) ⟨by rw [e31]; exact vp_in_nI (by omega) (by omega), nm_r (e' := upd (upd aW (3 * (bg + w)) (aQ (100 * s + 8))) (3 * (bg + w) + 1) (nI s)) (by rw [e31, nI_clamp (by omega)]) (nm_r (e' := nI (bg + w + 1)) (by rw [b4, nI_1]) ⟨by rw [e32]; exact vp_in_nI (by omega) (by omega), nm_r (e' := upd (upd (upd aW (3 * (bg + w)) (aQ (100 * s + 8))) (3 * (bg + w) + 1) (nI s)) (3 * (bg + w) + 2) fO) (by rw [e32, nI_clamp (by omega)]) h⟩)⟩⟩
  · have hi64 : hi = 64 := by omega
    have lx : ¬ nI hi < 64 := by rw [hi64]; decide
    refine ⟨xw, upd (upd xF 3 (xF 3 + 1)) 1 (upd xF 3 (xF 3 + 1) 1 + 1), Q2, xT, xA, xB, xC, xM, xG, fW, P2, upd (upd aG 3 (aG 3 + 1)) 1 (upd aG 3 (aG 3 + 1) 1 + 1), aW, ⟨hi, ed_C_fg (fg := upd xF 3 (xF 3 + 1)) (g := upd aG 3 (aG 3 + 1)) (pk_un (by omega)) (pk_un (by omega)) (pk_un (by omega)) (pk_un (by omega)) ?_ ?_ hC2, ?_⟩, fun post h => XG post (br_f z4 ?_), fun post h => YG post (br_f z4y ?_)⟩
    · simp (disch := omega) only [pk_us, pk_un]; rw [hC.1.2.2.1]
    · simp (disch := omega) only [pk_us, pk_un]; rw [hC.1.2.2.2.2]
    · refine ⟨bg, w, b1, b2, b3, b4, b5, fun j hj => ?_⟩
      simp (disch := omega) only [pk_us, pk_un]
      exact b6 j hj
    · unfold wpX_addEvent
      dsimp only
      exact nm_r exh (br_f lx (nm_e h))
    · rw [eyh]
      exact br_f lx (nm_e h)
end
