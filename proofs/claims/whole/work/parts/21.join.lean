/-! joins, both sides in one -/
section
variable {xl xw xk : Int32} {xP xL xF xQ xT xA xB xC xM xG kF kQ kT kA kB kC kM kG xS xZ : Nat → Int32}
variable {fT fL fK fW fB fH fO : Int32} {aT aL aQ aE aG aKQ aKE aKG aW aS aM aV aZ aB : Nat → Int32}
theorem xy_side {s e f sz ot l : Nat} {mem : Nat → Prop} (hs : s < 6) (he : e < 64) (hl : l < 32) (hot : ot ≤ 1) (hsz : sz ≤ 16) (q9 : aQ (100 * s + 9) = nI f) (HB : ∀ i, f ≤ i → i ≤ e → (bt (xM i) l = true ↔ mem i)) (HM : ∀ j, f ≤ j → j ≤ e → aM (64 * ot + j) = ed_bi (mem j)) (EV : ∀ j, j ≤ e → aE (4 * j + 1) = xA j ∧ aE (4 * j + 2) = xB j) : ∀ (m mb pr : Nat) (sum : Int32), f + m ≤ e + 1 → mb ≤ sz → pr + (f + m) ≤ e + 1 → ∃ pr' : Nat, ∃ sum' : Int32, pr' ≤ 64 ∧ (∀ post : Int64 → Prop, wX_sumOfSide_111 post (nI pr') sum' xl xw xk xP xL xF xQ xT xA xB xC xM xG kF kQ kT kA kB kC kM kG xS xZ → wX_sumOfSide_34 post (nI sz) (nI e) ((1 : Int32) <<< (nI l &&& 31)) (nI f) xl xw xk xP xL xF xQ xT xA xB xC xM xG kF kQ kT kA kB kC kM kG xS xZ (m + 1) (nI mb) (nI pr) sum (nI (f + m) + (-1))) ∧ (∀ post : SY → Prop, post (fT, fL, fK, fW, fB, ed_bi (¬ pr' = 0), sum', aT, aL, aQ, aE, aG, aKQ, aKE, aKG, aW, aS, aM, aV, aZ, aB) → wY_joinOf_55 post (nI s) (nI e) (nI ot) fT fL fK fW fB aT aL aQ aE aG aKQ aKE aKG aW aS aM aV aZ aB (m + 1) (nI (sz - mb)) (nI (f + m) + (-1)) (ed_bi (¬ pr = 0)) sum) := by
  have w9 := ed_y s 9 hs (by omega)
  have c9 : (100 * nI s + 9).toNatClampNeg = 100 * s + 9 := w9.2
  intro m
  induction m with
  | zero =>
    intro mb pr sum hm hmb hpr
    refine ⟨pr, sum, by omega, fun post h => br_t (ed_m1lt (by omega)) h, fun post h => ⟨w9.1, br_t ?_ h⟩⟩
    rw [c9, q9]; exact ed_m1lt (by omega)
  | succ m ih =>
    intro mb pr sum hm hmb hpr
    obtain ⟨i, hi⟩ : ∃ i, i = f + m := ⟨_, rfl⟩
    rw [show f + (m + 1) = i + 1 by omega, pk_m1]
    rw [← hi] at ih
    have ci : (nI i).toNatClampNeg = i := nI_clamp (by omega)
    have ce : (nI e).toNatClampNeg = e := nI_clamp (by omega)
    have vi : vp_in (nI i) 64 := vp_in_nI (by omega) (by omega)
    have ve : vp_in (nI e) 64 := vp_in_nI (by omega) (by omega)
    have nl : ¬ nI i < nI f := nI_nlt (by omega) (by omega)
    have nly : ¬ nI i < aQ (100 * nI s + 9).toNatClampNeg := by rw [c9, q9]; exact nl
    have e64 : (64 : Int32) * nI ot + nI i = nI (64 * ot + i) := by rw [show (64 : Int32) * nI ot = nI (64 * ot) from pk_mul 64 _, nI_add]
    have v64 : vp_in ((64 : Int32) * nI ot + nI i) 192 := by rw [e64]; exact vp_in_nI (by omega) (by omega)
    have m64 : aM ((64 : Int32) * nI ot + nI i).toNatClampNeg = ed_bi (mem i) := by rw [e64, nI_clamp (by omega)]; exact HM i (by omega) (by omega)
    by_cases full : mb = sz
    · subst full
      refine ⟨pr, sum, by omega, fun post h => br_f nl (br_t (nI_le (Nat.le_refl _) (by omega)) h), fun post h => ⟨w9.1, br_f nly (br_t ?_ h)⟩⟩
      rw [Nat.sub_self]; decide
    have nx : ¬ nI sz ≤ nI mb := nI_ge (by omega) (by omega)
    have ny : ¬ nI (sz - mb) ≤ 0 := nI_nle (by omega) (by omega)
    rcases Classical.em (mem i) with z | z
    rotate_left
    · obtain ⟨pr', sum', p1, p2, p3⟩ := ih mb pr sum (by omega) hmb (by omega)
      refine ⟨pr', sum', p1, fun post h => br_f nl (br_f nx ⟨vi, br_t ?_ (nm_e (p2 post h))⟩), fun post h => ⟨w9.1, br_f nly (br_f ny ⟨v64, br_t (by rw [m64, ed_bi_f z]) (nm_e (p3 post h))⟩)⟩⟩
      rw [ci]; exact (ed_bz hl (HB i (by omega) (by omega))).mpr z
    have bx : ¬ (xM (nI i).toNatClampNeg &&& ((1 : Int32) <<< (nI l &&& 31))) = 0 := by
      rw [ci]; exact fun q => (ed_bz hl (HB i (by omega) (by omega))).mp q z
    have bY : ¬ aM ((64 : Int32) * nI ot + nI i).toNatClampNeg = 0 := by rw [m64, ed_bi_t z]; decide
    have lf : nI (sz - mb) + (-1) = nI (sz - (mb + 1)) := by
      rw [show sz - mb = (sz - (mb + 1)) + 1 by omega, pk_m1]
    by_cases ie : i = e
    · obtain ⟨pr', sum', p1, p2, p3⟩ := ih (mb + 1) pr sum (by omega) (by omega) (by omega)
      refine ⟨pr', sum', p1, fun post h => br_f nl (br_f nx ⟨vi, br_f bx (nm_r (nI_1 mb) (br_t (by rw [ie]) (nm_e (p2 post h))))⟩), fun post h => ⟨w9.1, br_f nly (br_f ny ⟨v64, br_f bY (nm_r lf (br_t (by rw [ie]) (nm_e (p3 post h))))⟩)⟩⟩
    have ne : ¬ nI i = nI e := fun q => ie ((nI_eq (by omega) (by omega)).mp q)
    obtain ⟨a1, b1⟩ := EV i (by omega)
    obtain ⟨a2, b2⟩ := EV e (Nat.le_refl _)
    by_cases za : xA i = xA e
    · obtain ⟨pr', sum', p1, p2, p3⟩ := ih (mb + 1) (pr + 1) (sum + xB i) (by omega) (by omega) (by omega)
      rw [ed_bi_t (show ¬ pr + 1 = 0 by omega)] at p3
      refine ⟨pr', sum', p1, fun post h => br_f nl (br_f nx ⟨vi, br_f bx (nm_r (nI_1 mb) (br_f ne ⟨vi, ve, br_t (by rw [ci, ce]; exact za) (nm_r (nI_1 pr) ⟨vi, nm_r (e' := sum + xB i) (by rw [ci]) (nm_e (p2 post h))⟩)⟩))⟩), fun post h => ⟨w9.1, br_f nly (br_f ny ⟨v64, br_f bY (nm_r lf (br_f ne (yb_a (by omega) (yb_a (by omega) (br_t ?_ (yb_b (by omega) (nm_r (e' := sum + xB i) ?_ (nm_e (p3 post h)))))))))⟩)⟩⟩
      · rw [a1, a2]; exact za
      · rw [b1]
    · obtain ⟨pr', sum', p1, p2, p3⟩ := ih (mb + 1) pr sum (by omega) (by omega) (by omega)
      refine ⟨pr', sum', p1, fun post h => br_f nl (br_f nx ⟨vi, br_f bx (nm_r (nI_1 mb) (br_f ne ⟨vi, ve, br_f (by rw [ci, ce]; exact za) (nm_e (p2 post h))⟩))⟩), fun post h => ⟨w9.1, br_f nly (br_f ny ⟨v64, br_f bY (nm_r lf (br_f ne (yb_a (by omega) (yb_a (by omega) (br_f ?_ (nm_e (p3 post h)))))))⟩)⟩⟩
      rw [a1, a2]; exact za
theorem xy_join {s e f n m : Nat} {M : Nat → Nat → Prop} (hs : s < 6) (he : e < 64) (hf : f ≤ e) (hn : n ≤ 16) (hm : m ≤ 16) (n1 : xQ (99 * s + 1) = nI n) (n2 : xQ (99 * s + 2) = nI m) (n12 : xQ (99 * s + 12) = nI f) (q1 : aQ (100 * s + 1) = nI n) (q2 : aQ (100 * s + 2) = nI m) (q9 : aQ (100 * s + 9) = nI f) (HB : ∀ w i, w < 2 → f ≤ i → i ≤ e → (bt (xM i) (3 * s + w) = true ↔ M w i)) (HM : ∀ w j, w < 2 → f ≤ j → j ≤ e → aM (64 * w + j) = ed_bi (M w j)) (EV : ∀ j, j ≤ e → aE (4 * j + 1) = xA j ∧ aE (4 * j + 2) = xB j) : ∃ (hit : Prop) (fo : Int32), (∀ post : Int64 → Prop, (hit → post fo.toInt64) → (¬ hit → post 1099511627776) → wpX_findJoinOutput post (xl, xw, xk, xP, xL, xF, xQ, xT, xA, xB, xC, xM, xG, kF, kQ, kT, kA, kB, kC, kM, kG, xS, xZ) (nI s) (nI e)) ∧ (∀ post : SY → Prop, post (fT, fL, fK, fW, fB, ed_bi hit, fo, aT, aL, aQ, aE, aG, aKQ, aKE, aKG, aW, aS, aM, aV, aZ, aB) → wpY_joinOf post (fT, fL, fK, fW, fB, 0, 0, aT, aL, aQ, aE, aG, aKQ, aKE, aKG, aW, aS, aM, aV, aZ, aB) (nI s) (nI e)) := by
  have w1 := ed_x s 1 hs (by omega)
  have w2 := ed_x s 2 hs (by omega)
  have w12 := ed_x s 12 hs (by omega)
  have c1 : (nI s * 99 + 1).toNatClampNeg = 99 * s + 1 := w1.2
  have c2 : (nI s * 99 + 2).toNatClampNeg = 99 * s + 2 := w2.2
  have c12 : (nI s * 99 + 12).toNatClampNeg = 99 * s + 12 := w12.2
  have ce : (nI e).toNatClampNeg = e := nI_clamp (by omega)
  have ve : vp_in (nI e) 64 := vp_in_nI (by omega) (by omega)
  have ve2 : vp_in (nI e) 192 := vp_in_nI (by omega) (by omega)
  have e64 : (64 : Int32) + nI e = nI (64 + e) := nI_add 64 e
  have v64 : vp_in ((64 : Int32) + nI e) 192 := by rw [e64]; exact vp_in_nI (by omega) (by omega)
  have m0 : aM (nI e).toNatClampNeg = ed_bi (M 0 e) := by have := HM 0 e (by omega) hf (Nat.le_refl _); rw [Nat.mul_zero, Nat.zero_add] at this; rw [ce]; exact this
  have m1 : aM ((64 : Int32) + nI e).toNatClampNeg = ed_bi (M 1 e) := by have := HM 1 e (by omega) hf (Nat.le_refl _); rw [Nat.mul_one] at this; rw [e64, nI_clamp (by omega)]; exact this
  have d1 : (100 : Int32) * nI s + 1 + 0 = nI (100 * s + 1) := by rw [Int32.add_zero]; exact ed_yi s 1
  have d2 : (100 : Int32) * nI s + 1 + 1 = nI (100 * s + 2) := by rw [show (100 : Int32) * nI s + 1 = nI (100 * s + 1) from ed_yi s 1, nI_1]
  have side : ∀ sd ot sz : Nat, sd ≤ 1 → ot ≤ 1 → sd = ot → sz ≤ 16 → ∃ pr' : Nat, ∃ sum' : Int32, pr' ≤ 64 ∧ (∀ post : Int64 → Prop, (¬ pr' = 0 → post sum'.toInt64) → (pr' = 0 → post 1099511627776) → wpX_sumOfSide post (xl, xw, xk, xP, xL, xF, xQ, xT, xA, xB, xC, xM, xG, kF, kQ, kT, kA, kB, kC, kM, kG, xS, xZ) (nI s) (nI sd) (nI sz) (nI e)) ∧ (∀ post : SY → Prop, post (fT, fL, fK, fW, fB, ed_bi (¬ pr' = 0), sum', aT, aL, aQ, aE, aG, aKQ, aKE, aKG, aW, aS, aM, aV, aZ, aB) → ∃ k : Nat, wY_joinOf_55 post (nI s) (nI e) (nI ot) fT fL fK fW fB aT aL aQ aE aG aKQ aKE aKG aW aS aM aV aZ aB k (nI sz) (nI e) 0 0) := by
    intro sd ot sz h1 h2 h3 h4
    obtain ⟨pr', sum', p1, p2, p3⟩ := xy_side (xl := xl) (xw := xw) (xk := xk) (xP := xP) (xL := xL) (xF := xF) (xQ := xQ) (xT := xT) (xC := xC) (xG := xG) (kF := kF) (kQ := kQ) (kT := kT) (kA := kA) (kB := kB) (kC := kC) (kM := kM) (kG := kG) (xS := xS) (xZ := xZ) (fT := fT) (fL := fL) (fK := fK) (fW := fW) (fB := fB) (aT := aT) (aL := aL) (aG := aG) (aKQ := aKQ) (aKE := aKE) (aKG := aKG) (aW := aW) (aS := aS) (aV := aV) (aZ := aZ) (aB := aB) (l := 3 * s + sd) hs he (by omega) h2 h4 q9 (HB sd · (by omega)) (by subst h3; exact (HM sd · (by omega))) EV (e + 1 - f) 0 0 0 (by omega) (Nat.zero_le _) (by omega)
    rw [show f + (e + 1 - f) = e + 1 by omega, pk_m1] at p2 p3
    rw [ed_bi_f (show ¬ ¬ (0 : Nat) = 0 by omega)] at p3
    refine ⟨pr', sum', p1, fun post a b => ?_, fun post h => ⟨_, p3 post h⟩⟩
    unfold wpX_sumOfSide
    dsimp only
    refine xb_bit ⟨w12.1, nm_r (e' := nI f) (by rw [c12]; exact n12) ⟨_, p2 post ⟨fun q => b ((nI_eq (b := 0) (by omega) (by omega)).mp q), fun q => a (fun y => q (by rw [y]; rfl))⟩⟩⟩
  rcases Classical.em (M 0 e) with z0 | z0
  · obtain ⟨pr', sum', p1, p2, p3⟩ := side 1 1 m (by omega) (by omega) rfl hm
    refine ⟨¬ pr' = 0, sum', fun post a b => ?_, fun post h => ?_⟩
    · unfold wpX_findJoinOutput
      dsimp only
      refine nm_e ⟨ve, xb_bit (w := 0) ?_⟩
      rw [ce]
      refine br_f (fun q => (ed_bz (by omega) (HB 0 e (by omega) hf (Nat.le_refl _))).mp q z0) ⟨w2.1, ?_⟩
      rw [c2, n2]
      exact p2 post a (fun y => b (fun q => q y))
    · have ne : ¬ aM (nI e).toNatClampNeg = 0 := by rw [m0, ed_bi_t z0]; decide
      refine ⟨ve2, br_f ne ⟨ve2, br_f ne ⟨?_, ?_⟩⟩⟩
      · rw [d2]; exact vp_in_nI (by omega) (by omega)
      · exact nm_r (e' := nI m) (by rw [d2, nI_clamp (by omega)]; exact q2) (p3 post h)
  rcases Classical.em (M 1 e) with z1 | z1
  · obtain ⟨pr', sum', p1, p2, p3⟩ := side 0 0 n (by omega) (by omega) rfl hn
    refine ⟨¬ pr' = 0, sum', fun post a b => ?_, fun post h => ?_⟩
    · unfold wpX_findJoinOutput
      dsimp only
      refine nm_e ⟨ve, xb_bit (w := 0) ?_⟩
      rw [ce]
      refine br_t ((ed_bz (by omega) (HB 0 e (by omega) hf (Nat.le_refl _))).mpr z0) ⟨ve, xb_bit (w := 1) ?_⟩
      refine br_f (fun q => (ed_bz (by omega) (HB 1 e (by omega) hf (Nat.le_refl _))).mp q z1) ⟨w1.1, ?_⟩
      rw [c1, n1]
      exact p2 post a (fun y => b (fun q => q y))
    · refine ⟨ve2, br_t (by rw [m0, ed_bi_f z0]) ⟨v64, br_f (by rw [m1, ed_bi_t z1]; decide) ⟨ve2, br_t (by rw [m0, ed_bi_f z0]) ⟨?_, ?_⟩⟩⟩⟩
      · rw [d1]; exact vp_in_nI (by omega) (by omega)
      · exact nm_r (e' := nI n) (by rw [d1, nI_clamp (by omega)]; exact q1) (p3 post h)
  · refine ⟨False, 0, fun post a b => ?_, fun post h => ?_⟩
    · unfold wpX_findJoinOutput
      dsimp only
      refine nm_e ⟨ve, xb_bit (w := 0) ?_⟩
      rw [ce]
      refine br_t ((ed_bz (by omega) (HB 0 e (by omega) hf (Nat.le_refl _))).mpr z0) ⟨ve, xb_bit (w := 1) ?_⟩
      exact br_t ((ed_bz (by omega) (HB 1 e (by omega) hf (Nat.le_refl _))).mpr z1) (b id)
    · rw [ed_bi_f id] at h
      exact ⟨ve2, br_t (by rw [m0, ed_bi_f z0]) ⟨v64, br_t (by rw [m1, ed_bi_f z1]) h⟩⟩
end
