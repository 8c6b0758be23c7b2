/-! Y's pattern -/
/-- what Y adds for a first event -/
noncomputable def ed_gw (M : Nat → Nat → Prop) (last : Nat) (Ty A T : Nat → Int32) (st N : Int32) (eq on e j : Nat) : Nat :=
  @ite _ (on = 1 ∧ ∃ k, j < k ∧ k < e ∧ 0 < ed_mt M last Ty A T st (eq = 1) N j k) (Classical.propDecidable _) 0 (ed_mt M last Ty A T st (eq = 1) N j e)
section
variable {fT fL fK fW fB fH fO : Int32} {aT aL aQ aE aG aKQ aKE aKG aW aS aM aV aZ aB : Nat → Int32}
theorem yv_follow {post : Int32 → Prop} {s e f i k eq : Nat} {st : Int32} (hs : s < 6) (he : e < 64) (hfi : f ≤ i) (hik : i < k) (hke : k ≤ e) (q3 : aQ (100 * s + 3) = nI eq) (heq : eq ≤ 1) (hB : ∀ k, f ≤ k → k ≤ e + 1 → aB k = nI (ed_cn (fun j => aE (4 * j) = st) f (k - f))) (h : post (ed_bi (ed_nb (fun j => aE (4 * j)) st i k ∧ (eq = 1 → aE (4 * i + 1) = aE (4 * k + 1))))) : wpY_follow post (fT, fL, fK, fW, fB, fH, fO, aT, aL, aQ, aE, aG, aKQ, aKE, aKG, aW, aS, aM, aV, aZ, aB) (nI s) (nI i) (nI k) := by
  have w3 := ed_y s 3 hs (by omega)
  have c3 : (100 * nI s + 3).toNatClampNeg = 100 * s + 3 := w3.2
  have l1 := ed_cn_le (fun j => aE (4 * j) = st) f (k - f)
  have l2 := ed_cn_le (fun j => aE (4 * j) = st) f (i + 1 - f)
  have br : (aB k = aB (i + 1)) ↔ ed_nb (fun j => aE (4 * j)) st i k := by
    rw [hB k (by omega) (by omega), hB (i + 1) (by omega) (by omega), nI_eq (by omega) (by omega)]
    exact ed_nb_br (Ty := fun j => aE (4 * j)) (st := st) hfi hik
  unfold wpY_follow
  dsimp only
  rw [nI_1, nI_clamp (show k < 2 ^ 31 by omega), nI_clamp (show i + 1 < 2 ^ 31 by omega), c3, q3]
  refine ⟨vp_in_nI (by omega) (by omega), vp_in_nI (by omega) (by omega), ?_⟩
  by_cases z : aB k = aB (i + 1)
  · have nb := br.mp z
    refine br_t z ⟨w3.1, ?_⟩
    by_cases q : eq = 0
    · rw [ed_bi_t ⟨nb, fun y => by omega⟩] at h
      exact br_t (by rw [q]; rfl) h
    · have q1 : eq = 1 := by omega
      refine br_f (fun y => q ((nI_eq (b := 0) (by omega) (by omega)).mp y)) (yb_a (by omega) (yb_a (by omega) ?_))
      by_cases za : aE (4 * i + 1) = aE (4 * k + 1)
      · rw [ed_bi_t ⟨nb, fun _ => za⟩] at h
        exact br_t za h
      · rw [ed_bi_f (fun y => za (y.2 q1))] at h
        exact br_f za h
  · rw [ed_bi_f (fun y => z (br.mpr y.1))] at h
    exact br_f z h
theorem yv_matches {post : Int32 → Prop} {s e f i k c eq : Nat} {st N : Int32} {M : Nat → Nat → Prop} (hs : s < 6) (he : e < 64) (hfi : f ≤ i) (hik : i < k) (hke : k ≤ e) (hc : c = 2 ∨ c = 3) (q1 : aQ (100 * s + 1) = N) (q3 : aQ (100 * s + 3) = nI eq) (q20 : aQ (100 * s + 20) = nI c) (heq : eq ≤ 1) (HM : ∀ w j, w < c → f ≤ j → j ≤ e → aM (64 * w + j) = ed_bi (M w j)) (hB : ∀ k, f ≤ k → k ≤ e + 1 → aB k = nI (ed_cn (fun j => aE (4 * j) = st) f (k - f))) (h : post (nI (ed_mt M (c - 1) (fun j => aE (4 * j)) (fun j => aE (4 * j + 1)) (fun j => aE (4 * j + 3)) st (eq = 1) N i k))) : wpY_matches post (fT, fL, fK, fW, fB, fH, fO, aT, aL, aQ, aE, aG, aKQ, aKE, aKG, aW, aS, aM, aV, aZ, aB) (nI s) (nI i) (nI k) := by
  have w1 := ed_y s 1 hs (by omega)
  have c1 : (100 * nI s + 1).toNatClampNeg = 100 * s + 1 := w1.2
  have w20 := ed_y s 20 hs (by omega)
  have c20 : (100 * nI s + 20).toNatClampNeg = 100 * s + 20 := w20.2
  have e20 : nI c - 1 = nI (c - 1) := pk_sub (b := 1) (by omega)
  have ci : (nI i).toNatClampNeg = i := nI_clamp (by omega)
  have vi : vp_in (nI i) 192 := vp_in_nI (by omega) (by omega)
  have e64 : (64 : Int32) * nI (c - 1) + nI k = nI (64 * (c - 1) + k) := by rw [show (64 : Int32) * nI (c - 1) = nI (64 * (c - 1)) from pk_mul 64 _, nI_add]
  have m0 : aM i = ed_bi (M 0 i) := by have := HM 0 i (by omega) hfi (by omega); rwa [Nat.mul_zero, Nat.zero_add] at this
  have ml := HM (c - 1) k (by omega) (by omega) hke
  unfold wpY_matches
  dsimp only
  refine ⟨w20.1, nm_r (e' := nI (c - 1)) (by rw [c20, q20, e20]) ⟨vi, ?_⟩⟩
  rw [ci, m0, e64, nI_clamp (show 64 * (c - 1) + k < 2 ^ 31 by omega), ml, c1, q1]
  rcases Classical.em (M 0 i) with z0 | z0
  rotate_left
  · rw [ed_mt_0 (fun y => z0 y.1)] at h
    exact br_t (ed_bi_f z0) h
  refine br_f (by rw [ed_bi_t z0]; decide) ⟨vp_in_nI (by omega) (by omega), ?_⟩
  rcases Classical.em (M (c - 1) k) with zl | zl
  rotate_left
  · rw [ed_mt_0 (fun y => zl y.2.1)] at h
    exact br_t (ed_bi_f zl) h
  refine br_f (by rw [ed_bi_t zl]; decide) (yb_time (by omega) (yb_time (by omega) ⟨w1.1, ?_⟩))
  by_cases zt : aE (4 * k + 3) - aE (4 * i + 3) < N
  rotate_left
  · rw [ed_mt_0 (T := fun j => aE (4 * j + 3)) (f := i) (e := k) (fun y => y.2.2 (Int32.not_lt.mp zt))] at h
    exact br_f zt h
  refine br_t zt ?_
  have nt : ¬ N ≤ aE (4 * k + 3) - aE (4 * i + 3) := Int32.not_le.mpr zt
  rcases hc with rfl | rfl
  · refine br_t rfl (yv_follow hs he hfi hik hke q3 heq hB ?_)
    have em : ed_mt M (2 - 1) (fun j => aE (4 * j)) (fun j => aE (4 * j + 1)) (fun j => aE (4 * j + 3)) st (eq = 1) N i k = ed_b (ed_nb (fun j => aE (4 * j)) st i k ∧ (eq = 1 → aE (4 * i + 1) = aE (4 * k + 1))) := by
      unfold ed_mt
      rw [if_pos ⟨z0, zl, nt⟩, if_pos rfl]
    rw [em] at h
    rcases Classical.em (ed_nb (fun j => aE (4 * j)) st i k ∧ (eq = 1 → aE (4 * i + 1) = aE (4 * k + 1))) with y | y
    · rw [ed_bt y] at h; rw [ed_bi_t y]; exact br_f (by decide) h
    · rw [ed_bf y] at h; rw [ed_bi_f y]; exact br_t rfl h
  · have em : ed_mt M (3 - 1) (fun j => aE (4 * j)) (fun j => aE (4 * j + 1)) (fun j => aE (4 * j + 3)) st (eq = 1) N i k = ed_cn (ed_md (M 1) (fun j => aE (4 * j)) (fun j => aE (4 * j + 1)) st (eq = 1) i k) (i + 1) (k - i - 1) := ed_mt_2 z0 zl nt
    rw [em] at h
    have key : ∀ m j : Nat, j + m = k → i < j → wY_matches_97 post (nI s) (nI i) (nI k) fT fL fK fW fB fH fO aT aL aQ aE aG aKQ aKE aKG aW aS aM aV aZ aB (m + 1) (nI (ed_cn (ed_md (M 1) (fun j => aE (4 * j)) (fun j => aE (4 * j + 1)) st (eq = 1) i k) (i + 1) (j - i - 1))) (nI j) := by
      intro m
      induction m with
      | zero =>
        intro j hj hij
        have e0 : j = k := by omega
        subst e0
        exact br_t (nI_le (Nat.le_refl _) (by omega)) h
      | succ m ih =>
        intro j hj hij
        have e64j : (64 : Int32) + nI j = nI (64 + j) := nI_add 64 j
        have mj := HM 1 j (by omega) (by omega) (by omega)
        rw [Nat.mul_one] at mj
        have ec : ed_cn (ed_md (M 1) (fun j => aE (4 * j)) (fun j => aE (4 * j + 1)) st (eq = 1) i k) (i + 1) (j + 1 - i - 1) = ed_cn (ed_md (M 1) (fun j => aE (4 * j)) (fun j => aE (4 * j + 1)) st (eq = 1) i k) (i + 1) (j - i - 1) + ed_b (ed_md (M 1) (fun j => aE (4 * j)) (fun j => aE (4 * j + 1)) st (eq = 1) i k j) := by
          rw [show j + 1 - i - 1 = (j - i - 1) + 1 by omega, ed_cn, show i + 1 + (j - i - 1) = j by omega]
        have IH := ih (j + 1) (by omega) (by omega)
        rw [ec] at IH
        have no : ¬ ed_md (M 1) (fun j => aE (4 * j)) (fun j => aE (4 * j + 1)) st (eq = 1) i k j → wY_matches_97 post (nI s) (nI i) (nI k) fT fL fK fW fB fH fO aT aL aQ aE aG aKQ aKE aKG aW aS aM aV aZ aB (m + 1) (nI (ed_cn (ed_md (M 1) (fun j => aE (4 * j)) (fun j => aE (4 * j + 1)) st (eq = 1) i k) (i + 1) (j - i - 1))) (nI (j + 1)) := by
          intro y
          rw [ed_bf y, Nat.add_zero] at IH
          exact IH
        refine br_f (nI_ge (by omega) (by omega)) ?_
        rw [e64j, nI_clamp (by omega), mj]
        refine ⟨vp_in_nI (by omega) (by omega), ?_⟩
        rcases Classical.em (M 1 j) with z1 | z1
        rotate_left
        · exact br_t (ed_bi_f z1) (nm_r (nI_1 j) (no (fun y => z1 y.1)))
        refine br_f (by rw [ed_bi_t z1]; decide) (yv_follow hs he hfi hij (by omega) q3 heq hB ?_)
        rcases Classical.em (ed_nb (fun j => aE (4 * j)) st i j ∧ (eq = 1 → aE (4 * i + 1) = aE (4 * j + 1))) with y1 | y1
        rotate_left
        · rw [ed_bi_f y1]
          exact br_t rfl (nm_r (nI_1 j) (no (fun y => y1 ⟨y.2.1, y.2.2.1⟩)))
        rw [ed_bi_t y1]
        refine br_f (by decide) (yv_follow hs he (by omega) (by omega) hke q3 heq hB ?_)
        rcases Classical.em (ed_nb (fun j => aE (4 * j)) st j k ∧ (eq = 1 → aE (4 * j + 1) = aE (4 * k + 1))) with y2 | y2
        rotate_left
        · rw [ed_bi_f y2]
          exact br_t rfl (nm_r (nI_1 j) (no (fun y => y2 ⟨y.2.2.2.1, y.2.2.2.2⟩)))
        rw [ed_bi_t y2]
        rw [ed_bt ⟨z1, y1.1, y1.2, y2.1, y2.2⟩] at IH
        exact br_f (by decide) (nm_r (nI_1 _) (nm_r (nI_1 j) IH))
    have K := key (k - i - 1) (i + 1) (by omega) (by omega)
    rw [show i + 1 - i - 1 = 0 by omega] at K
    exact br_f (by decide) (nm_r (nI_1 i) ⟨_, K⟩)
theorem yv_56 {s e f : Nat} {st : Int32} (hs : s < 6) (he : e < 64) (hf : f ≤ e) (q2 : aQ (100 * s + 2) = st) : ∀ (m i : Nat) (B : Nat → Int32), i + m = e + 1 → f ≤ i → (∀ k, f ≤ k → k ≤ i → B k = nI (ed_cn (fun j => aE (4 * j) = st) f (k - f))) → ∃ B', (∀ k, f ≤ k → k ≤ e + 1 → B' k = nI (ed_cn (fun j => aE (4 * j) = st) f (k - f))) ∧ ∀ post : SY → Prop, (∃ n : Nat, wY_patternOf_117 post (nI s) (nI e) fT fL fK fW fB fH aT aL aQ aE aG aKQ aKE aKG aW aS aM aV aZ B' n (nI f) fO) → wY_patternOf_56 post (nI s) (nI e) (nI f) fT fL fK fW fB fH fO (m + 1) (nI i) aT aL aQ aE aG aKQ aKE aKG aW aS aM aV aZ B := by
  have w2 := ed_y s 2 hs (by omega)
  have c2 : (100 * nI s + 2).toNatClampNeg = 100 * s + 2 := w2.2
  intro m
  induction m with
  | zero =>
    intro i B hi hfi hB
    exact ⟨B, fun k a b => hB k a (by omega), fun post h => br_t (nI_lt (by omega) (by omega)) h⟩
  | succ m ih =>
    intro i B hi hfi hB
    have ci : (nI i).toNatClampNeg = i := nI_clamp (by omega)
    have e4 : (4 : Int32) * nI i = nI (4 * i) := pk_mul 4 i
    have ci1 : (nI i + 1).toNatClampNeg = i + 1 := by rw [nI_1, nI_clamp (by omega)]
    have v1 : vp_in (nI i + 1) 65 := by rw [nI_1]; exact vp_in_nI (by omega) (by omega)
    have ec : ed_cn (fun j => aE (4 * j) = st) f (i + 1 - f) = ed_cn (fun j => aE (4 * j) = st) f (i - f) + ed_b (aE (4 * i) = st) := by
      rw [show i + 1 - f = (i - f) + 1 by omega, ed_cn, show f + (i - f) = i by omega]
    obtain ⟨B', a1, a2⟩ := ih (i + 1) (upd B (i + 1) (nI (ed_cn (fun j => aE (4 * j) = st) f (i + 1 - f)))) (by omega) (by omega) (by
      intro k a b
      by_cases e0 : k = i + 1
      · subst e0; rw [pk_us]
      · rw [pk_un e0]; exact hB k a (by omega))
    refine ⟨B', a1, fun post h => br_f (nI_nlt (by omega) (by omega)) ⟨vp_in_nI (by omega) (by omega), ?_⟩⟩
    have H := a2 post h
    rw [e4, c2, q2, ci, ci1, nI_clamp (show 4 * i < 2 ^ 31 by omega), hB i hfi (Nat.le_refl _)]
    refine ⟨vp_in_nI (by omega) (by omega), w2.1, ?_⟩
    by_cases z : aE (4 * i) = st
    · rw [ec, ed_bt z] at H
      exact br_t z ⟨v1, nm_r (e' := upd B (i + 1) (nI (ed_cn (fun j => aE (4 * j) = st) f (i - f) + 1))) (by rw [nI_1]) (nm_r (nI_1 i) H)⟩
    · rw [ec, ed_bf z, Nat.add_zero] at H
      exact br_f z ⟨v1, nm_r (e' := upd B (i + 1) (nI (ed_cn (fun j => aE (4 * j) = st) f (i - f)))) (by rw [Int32.add_zero]) (nm_r (nI_1 i) H)⟩
theorem yv_pattern {s e f c eq on : Nat} {st N : Int32} {M : Nat → Nat → Prop} (hs : s < 6) (he : e < 64) (hf : f ≤ e) (hc : c = 2 ∨ c = 3) (q1 : aQ (100 * s + 1) = N) (q2 : aQ (100 * s + 2) = st) (q3 : aQ (100 * s + 3) = nI eq) (q4 : aQ (100 * s + 4) = nI on) (q9 : aQ (100 * s + 9) = nI f) (q20 : aQ (100 * s + 20) = nI c) (heq : eq ≤ 1) (hon : on ≤ 1) (hfO : fO = 0) (HM : ∀ w j, w < c → f ≤ j → j ≤ e → aM (64 * w + j) = ed_bi (M w j)) : (¬ M (c - 1) e → ∀ post : SY → Prop, post (fT, fL, fK, fW, fB, fH, fO, aT, aL, aQ, aE, aG, aKQ, aKE, aKG, aW, aS, aM, aV, aZ, aB) → wpY_patternOf post (fT, fL, fK, fW, fB, fH, fO, aT, aL, aQ, aE, aG, aKQ, aKE, aKG, aW, aS, aM, aV, aZ, aB) (nI s) (nI e)) ∧ (M (c - 1) e → ∃ B, ∀ post : SY → Prop, post (fT, fL, fK, fW, fB, ed_bi (¬ ed_su (ed_gw M (c - 1) (fun j => aE (4 * j)) (fun j => aE (4 * j + 1)) (fun j => aE (4 * j + 3)) st N eq on e) f (e - f) = 0), nI (ed_su (ed_gw M (c - 1) (fun j => aE (4 * j)) (fun j => aE (4 * j + 1)) (fun j => aE (4 * j + 3)) st N eq on e) f (e - f)), aT, aL, aQ, aE, aG, aKQ, aKE, aKG, aW, aS, aM, aV, aZ, B) → wpY_patternOf post (fT, fL, fK, fW, fB, fH, fO, aT, aL, aQ, aE, aG, aKQ, aKE, aKG, aW, aS, aM, aV, aZ, aB) (nI s) (nI e)) := by
  have w4 := ed_y s 4 hs (by omega)
  have c4 : (100 * nI s + 4).toNatClampNeg = 100 * s + 4 := w4.2
  have w9 := ed_y s 9 hs (by omega)
  have c9 : (100 * nI s + 9).toNatClampNeg = 100 * s + 9 := w9.2
  have w20 := ed_y s 20 hs (by omega)
  have c20 : (100 * nI s + 20).toNatClampNeg = 100 * s + 20 := w20.2
  have e20 : nI c - 1 = nI (c - 1) := pk_sub (b := 1) (by omega)
  have e64 : (64 : Int32) * nI (c - 1) + nI e = nI (64 * (c - 1) + e) := by rw [show (64 : Int32) * nI (c - 1) = nI (64 * (c - 1)) from pk_mul 64 _, nI_add]
  have ml := HM (c - 1) e (by omega) hf (Nat.le_refl _)
  have v64 : vp_in ((64 : Int32) * nI (c - 1) + nI e) 192 := by rw [e64]; exact vp_in_nI (by omega) (by omega)
  have c64 : ((64 : Int32) * nI (c - 1) + nI e).toNatClampNeg = 64 * (c - 1) + e := by rw [e64, nI_clamp (by omega)]
  constructor
  · intro z post h
    exact ⟨w20.1, nm_r (e' := nI (c - 1)) (by rw [c20, q20, e20]) ⟨v64, br_t (by rw [c64, ml, ed_bi_f z]) h⟩⟩
  intro z
  obtain ⟨B, hB, b2⟩ := yv_56 (fT := fT) (fL := fL) (fK := fK) (fW := fW) (fB := fB) (fH := fH) (fO := fO) (aT := aT) (aL := aL) (aQ := aQ) (aE := aE) (aG := aG) (aKQ := aKQ) (aKE := aKE) (aKG := aKG) (aW := aW) (aS := aS) (aM := aM) (aV := aV) (aZ := aZ) hs he hf q2 (e + 1 - f) f (upd aB f 0) (by omega) (Nat.le_refl _) (by
    intro k a b
    have : k = f := by omega
    subst this
    rw [pk_us, Nat.sub_self]; rfl)
  obtain ⟨W, hW⟩ : ∃ W, W = ed_gw M (c - 1) (fun j => aE (4 * j)) (fun j => aE (4 * j + 1)) (fun j => aE (4 * j + 3)) st N eq on e := ⟨_, rfl⟩
  rw [← hW]
  obtain ⟨mt, hmt⟩ : ∃ mt : Nat → Nat → Nat, mt = ed_mt M (c - 1) (fun j => aE (4 * j)) (fun j => aE (4 * j + 1)) (fun j => aE (4 * j + 3)) st (eq = 1) N := ⟨_, rfl⟩
  have Wg : ∀ j, (on = 1 ∧ ∃ k, j < k ∧ k < e ∧ 0 < mt j k) → W j = 0 := by
    intro j q
    rw [hmt] at q
    rw [hW]; unfold ed_gw; rw [if_pos q]
  have Wn : ∀ j, ¬ (on = 1 ∧ ∃ k, j < k ∧ k < e ∧ 0 < mt j k) → W j = mt j e := by
    intro j q
    rw [hmt] at q
    rw [hW, hmt]; unfold ed_gw; rw [if_neg q]
  have mle : ∀ j k, mt j k ≤ k + 1 := fun j k => by rw [hmt]; exact ed_mt_le _ _ _ _ _ _ _ _ _ _
  have Wle : ∀ j, W j ≤ e + 1 := by
    intro j
    rcases Classical.em (on = 1 ∧ ∃ k, j < k ∧ k < e ∧ 0 < mt j k) with q | q
    · rw [Wg j q]; omega
    · rw [Wn j q]; exact mle j e
  have mat : ∀ (x : Int32) (i k : Nat) (post : Int32 → Prop), f ≤ i → i < k → k ≤ e → post (nI (mt i k)) → wpY_matches post (fT, fL, fK, fW, fB, fH, x, aT, aL, aQ, aE, aG, aKQ, aKE, aKG, aW, aS, aM, aV, aZ, B) (nI s) (nI i) (nI k) := by
    intro x i k post h1 h2 h3 h
    rw [hmt] at h
    exact yv_matches hs he h1 h2 h3 hc q1 q3 q20 heq HM hB h
  refine ⟨B, fun post h => ⟨w20.1, nm_r (e' := nI (c - 1)) (by rw [c20, q20, e20]) ⟨v64, br_f (by rw [c64, ml, ed_bi_t z]; decide) ⟨w9.1, nm_r (e' := nI f) (by rw [c9]; exact q9) ⟨vp_in_nI (by omega) (by omega), nm_r (e' := upd aB f 0) (by rw [nI_clamp (by omega)]) ⟨e + 1 - f + 1, b2 post ?_⟩⟩⟩⟩⟩⟩
  have key : ∀ m i : Nat, i + m = e → f ≤ i → wY_patternOf_117 post (nI s) (nI e) fT fL fK fW fB fH aT aL aQ aE aG aKQ aKE aKG aW aS aM aV aZ B (m + 1) (nI i) (nI (ed_su W f (i - f))) := by
    intro m
    induction m with
    | zero =>
      intro i hi hfi
      have e0 : i = e := by omega
      subst e0
      have sl : ed_su W f (i - f) ≤ (i - f) * (i + 1) := ed_su_le (fun j _ _ => Wle j)
      have sl2 : (i - f) * (i + 1) ≤ 64 * 64 := Nat.mul_le_mul (by omega) (by omega)
      refine br_t (nI_le (Nat.le_refl _) (by omega)) ?_
      rcases Nat.eq_zero_or_pos (ed_su W f (i - f)) with y | y
      · rw [ed_bi_f (fun q => q y)] at h
        exact br_t (by rw [y]; decide) h
      · rw [ed_bi_t (by omega)] at h
        exact br_f (nI_nle y (by omega)) h
    | succ m ih =>
      intro i hi hfi
      have es : ed_su W f (i + 1 - f) = ed_su W f (i - f) + W i := by
        rw [show i + 1 - f = (i - f) + 1 by omega, ed_su, show f + (i - f) = i by omega]
      have IH := ih (i + 1) (by omega) (by omega)
      rw [es] at IH
      have g183 : ∀ fl : Int32, (fl = 0 → ¬ (on = 1 ∧ ∃ k, i < k ∧ k < e ∧ 0 < mt i k)) → (¬ fl = 0 → (on = 1 ∧ ∃ k, i < k ∧ k < e ∧ 0 < mt i k)) → wY_patternOf_183 post (wY_patternOf_117 post (nI s) (nI e) fT fL fK fW fB fH aT aL aQ aE aG aKQ aKE aKG aW aS aM aV aZ B (m + 1)) (nI s) (nI e) (nI i) fl fT fL fK fW fB fH (nI (ed_su W f (i - f))) aT aL aQ aE aG aKQ aKE aKG aW aS aM aV aZ B := by
        intro fl h1 h2
        by_cases y : fl = 0
        · refine br_t y (mat _ i e _ hfi (by omega) (Nat.le_refl _) (nm_r (nI_add _ _) (nm_r (nI_1 i) ?_)))
          rw [Wn i (h1 y)] at IH
          exact IH
        · refine br_f y (nm_r (nI_1 i) ?_)
          rw [Wg i (h2 y), Nat.add_zero] at IH
          exact IH
      have g132 : ∀ m' k : Nat, k + m' = e → i < k → ∀ fl : Int32, (fl = 0 ↔ ¬ (on = 1 ∧ ∃ q, i < q ∧ q < k ∧ 0 < mt i q)) → wY_patternOf_132 post (wY_patternOf_117 post (nI s) (nI e) fT fL fK fW fB fH aT aL aQ aE aG aKQ aKE aKG aW aS aM aV aZ B (m + 1)) (nI s) (nI e) (nI i) fT fL fK fW fB fH (nI (ed_su W f (i - f))) aT aL aQ aE aG aKQ aKE aKG aW aS aM aV aZ B (m' + 1) fl (nI k) := by
        intro m'
        induction m' with
        | zero =>
          intro k hk hik fl hfl
          have e0 : k = e := by omega
          subst e0
          exact br_t (nI_le (Nat.le_refl _) (by omega)) (g183 fl hfl.mp (fun y => Classical.byContradiction (fun w => y (hfl.mpr w))))
        | succ m' ih' =>
          intro k hk hik fl hfl
          refine br_f (nI_ge (by omega) (by omega)) ⟨w4.1, ?_⟩
          rw [c4, q4]
          by_cases o : on = 1
          · refine br_t (by rw [o]; rfl) ?_
            by_cases y : fl = 0
            · have no := hfl.mp y
              refine br_t y (mat _ i k _ hfi hik (by omega) ?_)
              have := mle i k
              rcases Nat.eq_zero_or_pos (mt i k) with w | w
              · refine br_t (by rw [w]; decide) (nm_r (nI_1 k) (ih' (k + 1) (by omega) (by omega) 0 ⟨fun _ => ?_, fun _ => rfl⟩))
                rintro ⟨_, q, a, b, d⟩
                by_cases e0 : q = k
                · subst e0; omega
                · exact no ⟨o, q, a, by omega, d⟩
              · refine br_f (nI_nle w (by omega)) (nm_r (nI_1 k) (ih' (k + 1) (by omega) (by omega) 1 ⟨fun q => absurd q (by decide), fun q => absurd ⟨o, k, hik, by omega, w⟩ q⟩))
            · obtain ⟨_, q, a, b, d⟩ := Classical.byContradiction (fun w => y (hfl.mpr w))
              exact br_f y (g183 fl (fun w => absurd w y) (fun _ => ⟨o, q, a, by omega, d⟩))
          · have y : fl = 0 := hfl.mpr (fun q => o q.1)
            exact br_f (fun q => o ((nI_eq (b := 1) (by omega) (by omega)).mp q)) (g183 fl (fun _ q => o q.1) (fun q => absurd y q))
      exact br_f (nI_ge (by omega) (by omega)) (nm_r (nI_1 i) ⟨_, g132 (e - i - 1) (i + 1) (by omega) (by omega) 0 ⟨fun _ => (fun ⟨_, q, a, b, _⟩ => by omega), fun _ => rfl⟩⟩)
  have K := key (e - f) f (by omega) (Nat.le_refl _)
  rw [Nat.sub_self] at K
  rw [hfO]
  exact ⟨_, K⟩
end
/-- X's and Y's count for a first event are the same -/
theorem ed_wt_gw {M : Nat → Nat → Prop} {last : Nat} {Ty A T : Nat → Int32} {st N : Int32} {eq on e j : Nat} {gb : Nat → Prop} (hon : on ≤ 1) (h : gb j ↔ ∃ k, j < k ∧ k < e ∧ 0 < ed_mt M last Ty A T st (eq = 1) N j k) : ed_wt M last Ty A T st N eq on gb e j = ed_gw M last Ty A T st N eq on e j := by
  unfold ed_wt ed_gw
  rcases Classical.em (on = 1 ∧ ∃ k, j < k ∧ k < e ∧ 0 < ed_mt M last Ty A T st (eq = 1) N j k) with g | g
  · rw [if_pos g, if_neg]
    rintro ⟨_, _, _, q | q⟩
    · omega
    · exact q (h.mpr g.2)
  · rw [if_neg g]
    rcases Classical.em (ed_fb M A T N eq on gb e j) with q | q
    · rw [if_pos q]
    · rw [if_neg q]
      symm
      by_cases a : eq = 1 → A j = A e
      · apply ed_mt_0
        rintro ⟨m0, _, nt⟩
        apply q
        refine ⟨m0, Int32.not_le.mp nt, a, ?_⟩
        by_cases o : on = 0
        · exact Or.inl o
        · exact Or.inr (fun y => g ⟨by omega, h.mp y⟩)
      · have q1 : eq = 1 := Classical.byContradiction (fun y => a (fun w => absurd w y))
        exact ed_mt_a q1 (fun y => a (fun _ => y))
