/-! X's pattern -/
theorem ed_sub1 (x : Int32) : x - 1 = x + (-1) := Int32.sub_eq_add_neg x 1
/-- may this first event begin a match that ends with e (X's own test)? -/
def ed_fb (M : Nat → Nat → Prop) (A T : Nat → Int32) (N : Int32) (eq on : Nat) (gb : Nat → Prop) (e j : Nat) : Prop :=
  M 0 j ∧ T e - T j < N ∧ (eq = 1 → A j = A e) ∧ (on = 0 ∨ ¬ gb j)
noncomputable def ed_wt (M : Nat → Nat → Prop) (last : Nat) (Ty A T : Nat → Int32) (st N : Int32) (eq on : Nat) (gb : Nat → Prop) (e j : Nat) : Nat :=
  @ite _ (ed_fb M A T N eq on gb e j) (Classical.propDecidable _) (ed_mt M last Ty A T st (eq = 1) N j e) 0
theorem ed_wt_le (M : Nat → Nat → Prop) (last : Nat) (Ty A T : Nat → Int32) (st N : Int32) (eq on : Nat) (gb : Nat → Prop) (e j : Nat) : ed_wt M last Ty A T st N eq on gb e j ≤ e + 1 := by
  unfold ed_wt
  split
  · exact ed_mt_le _ _ _ _ _ _ _ _ _ _
  · omega
section
variable {xl xw xk : Int32} {xP xL xF xQ xT xA xB xC xM xG kF kQ kT kA kB kC kM kG xS xZ : Nat → Int32}
theorem xv_stop {post : Int32 → Prop} {e : Nat} {st : Int32} (he : e < 64) (h : ∀ L : Int32, (∀ m, m < e → (nI m < L ↔ ¬ ed_nb xT st m e)) → post L) : wpX_latestOfTypeBefore post (xl, xw, xk, xP, xL, xF, xQ, xT, xA, xB, xC, xM, xG, kF, kQ, kT, kA, kB, kC, kM, kG, xS, xZ) st (nI e) := by
  have key : ∀ m : Nat, m ≤ e → (∀ j, m ≤ j → j < e → xT j ≠ st) → wX_latestOfTypeBefore_4 post st xl xw xk xP xL xF xQ xT xA xB xC xM xG kF kQ kT kA kB kC kM kG xS xZ (m + 1) (nI m + (-1)) := by
    intro m
    induction m with
    | zero =>
      intro hm g
      refine br_t (by decide) (h _ (fun m hm' => ⟨fun q => ?_, fun q => absurd (fun j a b => g j (by omega) b) q⟩))
      exact absurd (Int32.lt_trans q (show (-1 : Int32) < 0 by decide)) (nI_pos (by omega))
    | succ m ih =>
      intro hm g
      rw [pk_m1]
      have cm : (nI m).toNatClampNeg = m := nI_clamp (by omega)
      refine br_f (nI_pos (by omega)) ⟨vp_in_nI (by omega) (by omega), ?_⟩
      rw [cm]
      by_cases z : xT m = st
      · refine br_t z (h _ (fun q hq => ?_))
        rw [nI_ltI (by omega) (by omega)]
        constructor
        · intro y w; exact w m y (by omega) z
        · intro y
          rcases Nat.lt_or_ge q m with w | w
          · exact w
          · exact absurd (fun j a b => g j (by omega) b) y
      · refine br_f z (nm_e (ih (by omega) (fun j a b => ?_)))
        by_cases e0 : j = m
        · subst e0; exact z
        · exact g j (by omega) b
  exact nm_r (ed_sub1 _) ⟨e + 1, key e (Nat.le_refl _) (fun j a b => by omega)⟩
theorem xv_may {post : Int32 → Prop} {s e f i eq on : Nat} {N : Int32} {M : Nat → Nat → Prop} (hs : s < 6) (he : e < 64) (hfi : f ≤ i) (hi : i < e) (n1 : xQ (99 * s + 1) = N) (n7 : xQ (99 * s + 7) = nI eq) (n8 : xQ (99 * s + 8) = nI on) (heq : eq ≤ 1) (hon : on ≤ 1) (HB : ∀ w i, w < 1 → f ≤ i → i ≤ e → (bt (xM i) (3 * s + w) = true ↔ M w i)) (h1 : ed_fb M xA xC N eq on (fun j => bt (xG j) s = true) e i → post 1) (h0 : ¬ ed_fb M xA xC N eq on (fun j => bt (xG j) s = true) e i → post 0) : wpX_mayBeginRow post (xl, xw, xk, xP, xL, xF, xQ, xT, xA, xB, xC, xM, xG, kF, kQ, kT, kA, kB, kC, kM, kG, xS, xZ) (nI s) (nI i) (nI e) := by
  have w1 := ed_x s 1 hs (by omega)
  have w7 := ed_x s 7 hs (by omega)
  have w8 := ed_x s 8 hs (by omega)
  have c1 : (nI s * 99 + 1).toNatClampNeg = 99 * s + 1 := w1.2
  have c7 : (nI s * 99 + 7).toNatClampNeg = 99 * s + 7 := w7.2
  have c8 : (nI s * 99 + 8).toNatClampNeg = 99 * s + 8 := w8.2
  have ci : (nI i).toNatClampNeg = i := nI_clamp (by omega)
  have ce : (nI e).toNatClampNeg = e := nI_clamp (by omega)
  have vi : vp_in (nI i) 64 := vp_in_nI (by omega) (by omega)
  have ve : vp_in (nI e) 64 := vp_in_nI (by omega) (by omega)
  unfold ed_fb at h0 h1
  unfold wpX_mayBeginRow
  dsimp only
  refine nm_e ⟨vi, xb_bit (w := 0) ?_⟩
  rw [ci, ce, c1, c7, n1, n7]
  rcases Classical.em (M 0 i) with z | z
  rotate_left
  · exact br_t ((ed_bz (by omega) (HB 0 i (by omega) hfi (by omega))).mpr z) (h0 (fun q => z q.1))
  refine br_f (fun q => (ed_bz (by omega) (HB 0 i (by omega) hfi (by omega))).mp q z) ⟨ve, vi, w1.1, ?_⟩
  by_cases zt : xC e - xC i < N
  rotate_left
  · exact br_f zt (h0 (fun q => zt q.2.1))
  refine br_t zt ⟨w7.1, ?_⟩
  have g81 : (eq = 1 → xA i = xA e) → wX_mayBeginRow_81 post (nI s) (nI i) (nI s * 99) xl xw xk xP xL xF xQ xT xA xB xC xM xG kF kQ kT kA kB kC kM kG xS xZ := by
    intro za
    refine ⟨w8.1, ?_⟩
    rw [c8, n8, ci]
    by_cases o : on = 0
    · exact br_t (by rw [o]; rfl) (h1 ⟨z, zt, za, Or.inl o⟩)
    · refine br_f (fun q => o ((nI_eq (b := 0) (by omega) (by omega)).mp q)) ⟨vi, ?_⟩
      by_cases b : bt (xG i) s = true
      · exact br_f (fun q => (ed_bz (P := bt (xG i) s = true) (by omega) Iff.rfl).mp q b) (h0 (fun q => q.2.2.2.elim o (fun y => y b)))
      · exact br_t ((ed_bz (P := bt (xG i) s = true) (by omega) Iff.rfl).mpr b) (h1 ⟨z, zt, za, Or.inr b⟩)
  by_cases q : eq = 1
  · subst q
    refine br_t rfl ⟨vi, ve, ?_⟩
    by_cases za : xA i = xA e
    · exact br_t za (g81 (fun _ => za))
    · exact br_f za (h0 (fun y => za (y.2.2.1 rfl)))
  · exact br_f (fun y => q ((nI_eq (b := 1) (by omega) (by omega)).mp y)) (g81 (fun y => absurd y q))
theorem xv_middles {post : Int32 → Prop} {s e f i0 eq : Nat} {L st : Int32} {M : Nat → Nat → Prop} (hs : s < 6) (he : e < 64) (hfi : f ≤ i0) (hi0 : i0 < e) (n6 : xQ (99 * s + 6) = st) (n7 : xQ (99 * s + 7) = nI eq) (heq : eq ≤ 1) (HB : ∀ i, f ≤ i → i ≤ e → (bt (xM i) (3 * s + 1) = true ↔ M 1 i)) (hL : ∀ m, m < e → (nI m < L ↔ ¬ ed_nb xT st m e)) (ha : eq = 1 → xA i0 = xA e) (h : post (nI (ed_cn (ed_md (M 1) xT xA st (eq = 1) i0 e) (i0 + 1) (e - i0 - 1)))) : wpX_middlesOfRows post (xl, xw, xk, xP, xL, xF, xQ, xT, xA, xB, xC, xM, xG, kF, kQ, kT, kA, kB, kC, kM, kG, xS, xZ) (nI s) (nI i0) (nI e) L := by
  have w6 := ed_x s 6 hs (by omega)
  have w7 := ed_x s 7 hs (by omega)
  have c6 : (nI s * 99 + 6).toNatClampNeg = 99 * s + 6 := w6.2
  have c7 : (nI s * 99 + 7).toNatClampNeg = 99 * s + 7 := w7.2
  have ce : (nI e).toNatClampNeg = e := nI_clamp (by omega)
  have ve : vp_in (nI e) 64 := vp_in_nI (by omega) (by omega)
  have go : ∀ fl : Int32, (fl = 0 ↔ ¬ eq = 1) → ∀ m i : Nat, i + m = e → i0 < i → ed_nb xT st i0 i → wX_middlesOfRows_42 post (nI e) L (nI s * 99) ((1 : Int32) <<< (nI (3 * s + 1) &&& 31)) fl xl xw xk xP xL xF xQ xT xA xB xC xM xG kF kQ kT kA kB kC kM kG xS xZ (m + 1) (nI (ed_cn (ed_md (M 1) xT xA st (eq = 1) i0 e) (i0 + 1) (i - i0 - 1))) (nI i) := by
    intro fl hfl m
    induction m with
    | zero =>
      intro i hi h1 h2
      have e0 : i = e := by omega
      subst e0
      exact br_t (nI_le (Nat.le_refl _) (by omega)) h
    | succ m ih =>
      intro i hi h1 h2
      have ci : (nI i).toNatClampNeg = i := nI_clamp (by omega)
      have vi : vp_in (nI i) 64 := vp_in_nI (by omega) (by omega)
      have q1 : i + 1 - i0 - 1 = (i - i0 - 1) + 1 := by omega
      have q2 : i0 + 1 + (i - i0 - 1) = i := by omega
      have ec : ed_cn (ed_md (M 1) xT xA st (eq = 1) i0 e) (i0 + 1) (i + 1 - i0 - 1) = ed_cn (ed_md (M 1) xT xA st (eq = 1) i0 e) (i0 + 1) (i - i0 - 1) + ed_b (ed_md (M 1) xT xA st (eq = 1) i0 e i) := by
        rw [q1, ed_cn, q2]
      have g104 : wX_middlesOfRows_104 post (wX_middlesOfRows_42 post (nI e) L (nI s * 99) ((1 : Int32) <<< (nI (3 * s + 1) &&& 31)) fl xl xw xk xP xL xF xQ xT xA xB xC xM xG kF kQ kT kA kB kC kM kG xS xZ (m + 1)) (nI e) L (nI s * 99) ((1 : Int32) <<< (nI (3 * s + 1) &&& 31)) fl (nI (ed_cn (ed_md (M 1) xT xA st (eq = 1) i0 e) (i0 + 1) (i + 1 - i0 - 1))) (nI i) xl xw xk xP xL xF xQ xT xA xB xC xM xG kF kQ kT kA kB kC kM kG xS xZ := by
        refine ⟨vi, w6.1, ?_⟩
        rw [ci, c6, n6]
        by_cases z : xT i = st
        · refine br_t z ?_
          have e5 := ed_cn_split (ed_md (M 1) xT xA st (eq = 1) i0 e) (i0 + 1) (i + 1 - i0 - 1) (e - i - 1)
          rw [show i + 1 - i0 - 1 + (e - i - 1) = e - i0 - 1 by omega, show i0 + 1 + (i + 1 - i0 - 1) = i + 1 by omega, ed_cn_0 (f := i + 1) (fun j a b y => y.2.1 i (by omega) (by omega) z)] at e5
          rw [← e5.trans (Nat.add_zero _)]
          exact h
        · refine br_f z (nm_r (nI_1 i) (ih (i + 1) (by omega) (by omega) (fun j a b => ?_)))
          by_cases e0 : j = i
          · subst e0; exact z
          · exact h2 j a (by omega)
      have no : ¬ ed_md (M 1) xT xA st (eq = 1) i0 e i → wX_middlesOfRows_104 post (wX_middlesOfRows_42 post (nI e) L (nI s * 99) ((1 : Int32) <<< (nI (3 * s + 1) &&& 31)) fl xl xw xk xP xL xF xQ xT xA xB xC xM xG kF kQ kT kA kB kC kM kG xS xZ (m + 1)) (nI e) L (nI s * 99) ((1 : Int32) <<< (nI (3 * s + 1) &&& 31)) fl (nI (ed_cn (ed_md (M 1) xT xA st (eq = 1) i0 e) (i0 + 1) (i - i0 - 1))) (nI i) xl xw xk xP xL xF xQ xT xA xB xC xM xG kF kQ kT kA kB kC kM kG xS xZ := by
        intro q
        rw [ec, ed_bf q, Nat.add_zero] at g104
        exact g104
      have g82 : M 1 i → (eq = 1 → xA i = xA e) → wX_middlesOfRows_82 post (wX_middlesOfRows_42 post (nI e) L (nI s * 99) ((1 : Int32) <<< (nI (3 * s + 1) &&& 31)) fl xl xw xk xP xL xF xQ xT xA xB xC xM xG kF kQ kT kA kB kC kM kG xS xZ (m + 1)) (nI e) L (nI s * 99) ((1 : Int32) <<< (nI (3 * s + 1) &&& 31)) fl (nI (ed_cn (ed_md (M 1) xT xA st (eq = 1) i0 e) (i0 + 1) (i - i0 - 1))) (nI i) xl xw xk xP xL xF xQ xT xA xB xC xM xG kF kQ kT kA kB kC kM kG xS xZ := by
        intro z za
        refine br_f (by decide) ?_
        rcases Classical.em (ed_nb xT st i e) with y | y
        · refine br_f (fun q => (hL i (by omega)).mp q y) (nm_r (nI_1 _) ?_)
          rw [ec, ed_bt ⟨z, h2, fun q => (ha q).trans (za q).symm, y, za⟩] at g104
          exact g104
        · exact br_t ((hL i (by omega)).mpr y) (no (fun q => y q.2.2.2.1))
      refine br_f (nI_ge (by omega) (by omega)) ⟨vi, ?_⟩
      rw [ci, ce]
      rcases Classical.em (M 1 i) with z | z
      · refine br_f (fun q => (ed_bz (by omega) (HB i (by omega) (by omega))).mp q z) ?_
        by_cases fz : fl = 0
        · exact br_t fz (g82 z (fun q => absurd q (hfl.mp fz)))
        · refine br_f fz ⟨vi, ve, ?_⟩
          by_cases za : xA i = xA e
          · exact br_t za (g82 z (fun _ => za))
          · refine br_f za (br_t rfl (no (fun q => za (q.2.2.2.2 (Classical.byContradiction (fun y => fz (hfl.mpr y)))))))
      · exact br_t ((ed_bz (by omega) (HB i (by omega) (by omega))).mpr z) (br_t rfl (no (fun q => z q.1)))
  unfold wpX_middlesOfRows
  dsimp only
  refine nm_e (xb_bit (w := 1) ⟨w7.1, ?_⟩)
  rw [c7, n7]
  have z0 : ed_cn (ed_md (M 1) xT xA st (eq = 1) i0 e) (i0 + 1) (i0 + 1 - i0 - 1) = 0 := by rw [show i0 + 1 - i0 - 1 = 0 by omega]; rfl
  by_cases q : eq = 1
  · have := go 1 ⟨fun y => absurd y (by decide), fun y => absurd q y⟩ (e - i0 - 1) (i0 + 1) (by omega) (by omega) (fun j a b => by omega)
    rw [z0] at this
    exact br_t (by rw [q]; rfl) (nm_r (nI_1 i0) ⟨_, this⟩)
  · have := go 0 ⟨fun _ => q, fun _ => rfl⟩ (e - i0 - 1) (i0 + 1) (by omega) (by omega) (fun j a b => by omega)
    rw [z0] at this
    exact br_f (fun y => q ((nI_eq (b := 1) (by omega) (by omega)).mp y)) (nm_r (nI_1 i0) ⟨_, this⟩)
theorem xv_pattern {post : Int64 → SX → Prop} {s e f c eq on : Nat} {st N : Int32} {M : Nat → Nat → Prop} (hs : s < 6) (he : e < 64) (hf : f ≤ e) (n12 : xQ (99 * s + 12) = nI f) (n1 : xQ (99 * s + 1) = N) (n6 : xQ (99 * s + 6) = st) (n7 : xQ (99 * s + 7) = nI eq) (n8 : xQ (99 * s + 8) = nI on) (n23 : xQ (99 * s + 23) = nI c) (hc : c = 2 ∨ c = 3) (heq : eq ≤ 1) (hon : on ≤ 1) (HB : ∀ w i, w < c → f ≤ i → i ≤ e → (bt (xM i) (3 * s + w) = true ↔ M w i)) (h0 : ¬ M (c - 1) e → post 1099511627776 (xl, xw, xk, xP, xL, xF, xQ, xT, xA, xB, xC, xM, xG, kF, kQ, kT, kA, kB, kC, kM, kG, xS, xZ)) (h1 : M (c - 1) e → ∀ G : Nat → Int32, (∀ j l, bt (G j) l = true ↔ (bt (xG j) l = true ∨ (l = s ∧ f ≤ j ∧ j < e ∧ 0 < ed_wt M (c - 1) xT xA xC st N eq on (fun j => bt (xG j) s = true) e j))) → (ed_su (ed_wt M (c - 1) xT xA xC st N eq on (fun j => bt (xG j) s = true) e) f (e - f) = 0 → post 1099511627776 (xl, xw, xk, xP, xL, xF, xQ, xT, xA, xB, xC, xM, G, kF, kQ, kT, kA, kB, kC, kM, kG, xS, xZ)) ∧ (¬ ed_su (ed_wt M (c - 1) xT xA xC st N eq on (fun j => bt (xG j) s = true) e) f (e - f) = 0 → post (nI (ed_su (ed_wt M (c - 1) xT xA xC st N eq on (fun j => bt (xG j) s = true) e) f (e - f))).toInt64 (xl, xw, xk, xP, xL, xF, xQ, xT, xA, xB, xC, xM, G, kF, kQ, kT, kA, kB, kC, kM, kG, xS, xZ))) : wpX_findPatternOutput post (xl, xw, xk, xP, xL, xF, xQ, xT, xA, xB, xC, xM, xG, kF, kQ, kT, kA, kB, kC, kM, kG, xS, xZ) (nI s) (nI e) := by
  have w6 := ed_x s 6 hs (by omega)
  have w12 := ed_x s 12 hs (by omega)
  have w23 := ed_x s 23 hs (by omega)
  have c6 : (nI s * 99 + 6).toNatClampNeg = 99 * s + 6 := w6.2
  have c12 : (nI s * 99 + 12).toNatClampNeg = 99 * s + 12 := w12.2
  have c23 : (nI s * 99 + 23).toNatClampNeg = 99 * s + 23 := w23.2
  have ce : (nI e).toNatClampNeg = e := nI_clamp (by omega)
  have ve : vp_in (nI e) 64 := vp_in_nI (by omega) (by omega)
  have e23 : nI c - 1 = nI (c - 1) := pk_sub (b := 1) (by omega)
  unfold wpX_findPatternOutput
  dsimp only
  refine nm_e ⟨w23.1, nm_r (e' := nI (c - 1)) (by rw [c23, n23, e23]) ⟨ve, xb_bit (w := c - 1) ?_⟩⟩
  rw [ce, c6, c12, n6, n12]
  rcases Classical.em (M (c - 1) e) with z | z
  rotate_left
  · exact br_t ((ed_bz (by omega) (HB (c - 1) e (by omega) hf (Nat.le_refl _))).mpr z) (h0 z)
  refine br_f (fun q => (ed_bz (by omega) (HB (c - 1) e (by omega) hf (Nat.le_refl _))).mp q z) ⟨w6.1, xv_stop he (fun L hL => ⟨w12.1, nm_e ⟨e - f + 1, ?_⟩⟩)⟩
  have H := h1 z
  obtain ⟨W, hW⟩ : ∃ W, W = ed_wt M (c - 1) xT xA xC st N eq on (fun j => bt (xG j) s = true) e := ⟨_, rfl⟩
  rw [← hW] at H
  have Wle : ∀ j, W j ≤ e + 1 := fun j => by rw [hW]; exact ed_wt_le _ _ _ _ _ _ _ _ _ _ _ _
  have key : ∀ (m i : Nat) (G : Nat → Int32), i + m = e → f ≤ i → (∀ j l, bt (G j) l = true ↔ (bt (xG j) l = true ∨ (l = s ∧ f ≤ j ∧ j < i ∧ 0 < W j))) → wX_findPatternOutput_68 post (nI s) (nI e) (nI (c - 1)) L xl xw xk (m + 1) (nI (ed_su W f (i - f))) (nI i) xP xL xF xQ xT xA xB xC xM G kF kQ kT kA kB kC kM kG xS xZ := by
    intro m
    induction m with
    | zero =>
      intro i G hi hfi hG
      have e0 : i = e := by omega
      subst e0
      have sl : ed_su W f (i - f) ≤ (i - f) * (i + 1) := ed_su_le (fun j _ _ => Wle j)
      have sl2 : (i - f) * (i + 1) ≤ 64 * 64 := Nat.mul_le_mul (by omega) (by omega)
      obtain ⟨a, b⟩ := H G hG
      refine br_t (nI_le (Nat.le_refl _) (by omega)) ⟨fun q => a ((nI_eq (b := 0) (by omega) (by omega)).mp q), fun q => b (fun y => q (by rw [y]; rfl))⟩
    | succ m ih =>
      intro i G hi hfi hG
      have ci : (nI i).toNatClampNeg = i := nI_clamp (by omega)
      have vi : vp_in (nI i) 64 := vp_in_nI (by omega) (by omega)
      have es : ed_su W f (i + 1 - f) = ed_su W f (i - f) + W i := by
        rw [show i + 1 - f = (i - f) + 1 by omega, ed_su, show f + (i - f) = i by omega]
      have hGi : bt (G i) s = true ↔ bt (xG i) s = true := by
        rw [hG i s]
        exact ⟨fun q => q.elim id (fun y => by omega), Or.inl⟩
      have fbe : ed_fb M xA xC N eq on (fun j => bt (G j) s = true) e i ↔ ed_fb M xA xC N eq on (fun j => bt (xG j) s = true) e i := by
        unfold ed_fb
        dsimp only
        rw [hGi]
      have sk : W i = 0 → wX_findPatternOutput_68 post (nI s) (nI e) (nI (c - 1)) L xl xw xk (m + 1) (nI (ed_su W f (i - f))) (nI (i + 1)) xP xL xF xQ xT xA xB xC xM G kF kQ kT kA kB kC kM kG xS xZ := by
        intro w0
        have := ih (i + 1) G (by omega) (by omega) (fun j l => by
          rw [hG j l]
          constructor
          · rintro (q | ⟨q1, q2, q3, q4⟩)
            · exact Or.inl q
            · exact Or.inr ⟨q1, q2, by omega, q4⟩
          · rintro (q | ⟨q1, q2, q3, q4⟩)
            · exact Or.inl q
            · by_cases e0 : j = i
              · subst e0; omega
              · exact Or.inr ⟨q1, q2, by omega, q4⟩)
        rw [es, w0, Nat.add_zero] at this
        exact this
      have g120 : ∀ r : Nat, W i = r → wX_findPatternOutput_120 post (wX_findPatternOutput_68 post (nI s) (nI e) (nI (c - 1)) L xl xw xk (m + 1)) (nI s) (nI e) (nI (c - 1)) L (nI (ed_su W f (i - f))) (nI i) (nI r) xl xw xk xP xL xF xQ xT xA xB xC xM G kF kQ kT kA kB kC kM kG xS xZ := by
        intro r hr
        have rl := Wle i
        rcases Nat.eq_zero_or_pos r with r0 | r0
        · subst r0
          exact br_t (by decide) (nm_r (nI_1 i) (sk hr))
        · refine br_f (nI_nle r0 (by omega)) ⟨vi, vi, nm_r (e' := upd G i (G i ||| ((1 : Int32) <<< (nI s &&& 31)))) (by rw [ci]) (nm_r (nI_add _ _) (nm_r (nI_1 i) ?_))⟩
          have := ih (i + 1) (upd G i (G i ||| ((1 : Int32) <<< (nI s &&& 31)))) (by omega) (by omega) (fun j l => by
            by_cases e0 : j = i
            · subst e0
              rw [pk_us, ed_bset _ _ _ (by omega), Bool.or_eq_true, hG j l, decide_eq_true_eq]
              constructor
              · rintro ((q | ⟨q1, q2, q3, q4⟩) | q)
                · exact Or.inl q
                · exact Or.inr ⟨q1, q2, by omega, q4⟩
                · exact Or.inr ⟨q.symm, hfi, by omega, by omega⟩
              · rintro (q | ⟨q1, q2, q3, q4⟩)
                · exact Or.inl (Or.inl q)
                · exact Or.inr q1.symm
            · rw [pk_un e0, hG j l]
              constructor
              · rintro (q | ⟨q1, q2, q3, q4⟩)
                · exact Or.inl q
                · exact Or.inr ⟨q1, q2, by omega, q4⟩
              · rintro (q | ⟨q1, q2, q3, q4⟩)
                · exact Or.inl q
                · exact Or.inr ⟨q1, q2, by omega, q4⟩)
          rw [es, hr] at this
          exact this
      refine br_f (nI_ge (by omega) (by omega)) (xv_may (xG := G) hs he hfi (by omega) n1 n7 n8 heq hon (fun w j hw a b => HB w j (by omega) a b) (fun q => br_f (by decide) ?_) (fun q => br_t rfl (nm_r (nI_1 i) (sk ?_))))
      · have q' := fbe.mp q
        have Wi : W i = ed_mt M (c - 1) xT xA xC st (eq = 1) N i e := by rw [hW]; unfold ed_wt; rw [if_pos q']
        have nt : ¬ N ≤ xC e - xC i := Int32.not_le.mpr q'.2.1
        rcases hc with rfl | rfl
        · have Wi2 : W i = ed_b (ed_nb xT st i e) := Wi.trans (ed_mt_1 q'.1 z nt q'.2.2.1)
          rcases Classical.em (ed_nb xT st i e) with y | y
          · exact br_f (fun w => (hL i (by omega)).mp w y) (br_f (by decide) (g120 1 (by rw [Wi2, ed_bt y])))
          · exact br_t ((hL i (by omega)).mpr y) (br_f (by decide) (g120 0 (by rw [Wi2, ed_bf y])))
        · have Wi2 : W i = ed_cn (ed_md (M 1) xT xA st (eq = 1) i e) (i + 1) (e - i - 1) := Wi.trans (ed_mt_2 q'.1 z nt)
          have mid : wpX_middlesOfRows (fun r_70 => (wX_findPatternOutput_120 post (wX_findPatternOutput_68 post (nI s) (nI e) (nI (3 - 1)) L xl xw xk (m + 1)) (nI s) (nI e) (nI (3 - 1)) L (nI (ed_su W f (i - f))) (nI i) r_70 xl xw xk xP xL xF xQ xT xA xB xC xM G kF kQ kT kA kB kC kM kG xS xZ)) (xl, xw, xk, xP, xL, xF, xQ, xT, xA, xB, xC, xM, G, kF, kQ, kT, kA, kB, kC, kM, kG, xS, xZ) (nI s) (nI i) (nI e) L :=
            xv_middles (xG := G) hs he hfi (by omega) n6 n7 heq (fun j a b => HB 1 j (by omega) a b) hL q'.2.2.1 (g120 _ Wi2)
          rcases Classical.em (nI i < L) with y | y
          · exact br_t y (br_t rfl mid)
          · exact br_f y (br_t rfl mid)
      · rw [hW]; unfold ed_wt; rw [if_neg (fun y => q (fbe.mpr y))]
  have := key (e - f) f xG (by omega) (Nat.le_refl _) (fun j l => ⟨Or.inl, fun q => q.elim id (fun y => by omega)⟩)
  rw [Nat.sub_self] at this
  exact this
end
