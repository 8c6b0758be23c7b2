/-! X's window: the sorted view and its total -/
theorem ed_bs_len (P : Nat → Prop) (B : Nat → Int32) (f : Nat) : ∀ d, (ed_bs P B f d).length ≤ d
  | 0 => Nat.le_refl _
  | d + 1 => by
    have ih := ed_bs_len P B f d
    rcases Classical.em (P (f + d)) with p | p
    · rw [ed_bs_t p, List.length_cons]; omega
    · rw [ed_bs_f p]; omega
section
variable {xl xw xk : Int32} {xP xL xF xQ xT xA xB xC xM xG kF kQ kT kA kB kC kM kG xS xZ : Nat → Int32}
theorem xv_sloop {post : Int32 → SX → Prop} {s e f kind gr l : Nat} {N fo fg : Int32} {mem : Nat → Prop} (hs : s < 6) (he : e < 64) (hf : f ≤ e) (hl : l < 32) (n12 : xQ (99 * s + 12) = nI f) (n1 : xQ (99 * s + 1) = N) (n3 : xQ (99 * s + 3) = nI kind) (hk : kind ≤ 5) (hfo : fo = 0 ↔ kind ≠ 4) (hfg : fg = 0 ↔ gr ≠ 1) (HB : ∀ i, f ≤ i → i ≤ e → (bt (xM i) l = true ↔ mem i)) (h : ∀ Z n, ed_st Z n (ed_bs (ed_px mem xC xA kind N (gr = 1) e) xB f (e + 1 - f)) → post (nI n) (xl, xw, xk, xP, xL, xF, xQ, xT, xA, xB, xC, xM, xG, kF, kQ, kT, kA, kB, kC, kM, kG, xS, Z)) : ∀ (m n : Nat) (Z : Nat → Int32), f + m ≤ e + 1 → ed_st Z n (ed_bs (ed_px mem xC xA kind N (gr = 1) e) xB (f + m) (e + 1 - (f + m))) → (∀ j, f + m ≤ j → j ≤ e → mem j → ed_cd mem xC kind N e j) → wX_sortView_50 post (nI s * 99) ((1 : Int32) <<< (nI l &&& 31)) (nI e) fo fg (m + 1) (nI n) (nI (ed_cn mem (f + m) (e + 1 - (f + m)))) (nI (ed_nx mem e (e + 1 - (f + m)))) (nI (f + m) + (-1)) xl xw xk xP xL xF xQ xT xA xB xC xM xG kF kQ kT kA kB kC kM kG xS Z := by
  have w12 := ed_x s 12 hs (by omega)
  have c12 : (nI s * 99 + 12).toNatClampNeg = 99 * s + 12 := w12.2
  intro m
  induction m with
  | zero =>
    intro n Z hm hZ _
    refine ⟨w12.1, br_t ?_ (h Z n hZ)⟩
    rw [c12, n12]; exact ed_m1lt (by omega)
  | succ m ih =>
    intro n Z hm hZ hcd
    obtain ⟨i, hi⟩ : ∃ i, i = f + m := ⟨_, rfl⟩
    have q1 : f + (m + 1) = i + 1 := by omega
    have q2 : e + 1 - (i + 1) = e - i := by omega
    have q3 : e + 1 - (f + m) = (e - i) + 1 := by omega
    have q4 : e - (e - i) = i := by omega
    rw [q1, q2] at hZ
    rw [q1] at hcd
    rw [q1, q2, pk_m1]
    have hn : n ≤ e - i := by rw [← ed_st_len hZ]; exact ed_bs_len _ _ _ _
    have ci : (nI i).toNatClampNeg = i := nI_clamp (by omega)
    have ce : (nI e).toNatClampNeg = e := nI_clamp (by omega)
    have vi : vp_in (nI i) 64 := vp_in_nI (by omega) (by omega)
    have ve : vp_in (nI e) 64 := vp_in_nI (by omega) (by omega)
    have IH := ih
    rw [q3, ← hi] at IH
    refine ⟨w12.1, br_f (by rw [c12, n12]; exact nI_nlt (by omega) (by omega)) ⟨vi, ?_⟩⟩
    rw [ci]
    rcases Classical.em (mem i) with z | z
    rotate_left
    · have np : ¬ ed_px mem xC xA kind N (gr = 1) e i := fun q => z q.1
      have e1 : ed_cn mem i ((e - i) + 1) = ed_cn mem (i + 1) (e - i) := by rw [ed_cn_front, ed_bf z, Nat.zero_add]
      have e2 : ed_nx mem e ((e - i) + 1) = ed_nx mem e (e - i) := ed_nx_f (by rw [q4]; exact z)
      rw [e1, e2] at IH
      refine br_t ((ed_bz hl (HB i (by omega) (by omega))).mpr z) (nm_e (IH n Z (by omega) ?_ ?_))
      · rw [ed_bs_ff np]; exact hZ
      · intro j h1 h2 h3
        by_cases e0 : j = i
        · subst e0; exact absurd h3 z
        · exact hcd j (by omega) h2 h3
    · refine br_f (fun q => (ed_bz hl (HB i (by omega) (by omega))).mp q z) (xv_before (xZ := Z) hs he (by omega) n1 n3 hk (fun zc => br_t rfl (nm_r (nI_1 _) ?_)) (fun zc => br_f (by decide) ?_))
      · have e1 : ed_cn mem i ((e - i) + 1) = ed_cn mem (i + 1) (e - i) + 1 := by rw [ed_cn_front, ed_bt z, Nat.add_comm]
        have e2 : ed_nx mem e ((e - i) + 1) = i := by rw [ed_nx_t (by rw [q4]; exact z), q4]
        rw [e1, e2] at IH
        have hcd' : ∀ j, i ≤ j → j ≤ e → mem j → ed_cd mem xC kind N e j := by
          intro j h1 h2 h3
          by_cases e0 : j = i
          · subst e0; exact zc
          · exact hcd j (by omega) h2 h3
        have skip : ¬ ed_px mem xC xA kind N (gr = 1) e i → wX_sortView_50 post (nI s * 99) ((1 : Int32) <<< (nI l &&& 31)) (nI e) fo fg (m + 1) (nI n) (nI (ed_cn mem (i + 1) (e - i) + 1)) (nI i) (nI i + (-1)) xl xw xk xP xL xF xQ xT xA xB xC xM xG kF kQ kT kA kB kC kM kG xS Z := by
          intro np
          exact IH n Z (by omega) (by rw [ed_bs_ff np]; exact hZ) hcd'
        have ins : ed_px mem xC xA kind N (gr = 1) e i → wX_sortView_153 post (wX_sortView_50 post (nI s * 99) ((1 : Int32) <<< (nI l &&& 31)) (nI e) fo fg (m + 1)) (nI s * 99) ((1 : Int32) <<< (nI l &&& 31)) (nI e) fo fg (nI n) (nI (ed_cn mem (i + 1) (e - i) + 1)) (nI i) (nI i) xl xw xk xP xL xF xQ xT xA xB xC xM xG kF kQ kT kA kB kC kM kG xS Z := by
          intro p
          refine ⟨vi, ?_⟩
          rw [ci]
          exact xv_ins (xZ := Z) (by omega) hZ (fun Z' hZ' => nm_r (nI_1 n) (nm_e (IH (n + 1) Z' (by omega) (ed_st_p hZ' (ed_bs_ft p (e - i)).symm) hcd')))
        have grp : (kind = 4 → ∀ j, i < j → j ≤ e → mem j → xA j ≠ xA i) → wX_sortView_124 post (wX_sortView_50 post (nI s * 99) ((1 : Int32) <<< (nI l &&& 31)) (nI e) fo fg (m + 1)) (nI s * 99) ((1 : Int32) <<< (nI l &&& 31)) (nI e) fo fg (nI n) (nI (ed_cn mem (i + 1) (e - i) + 1)) (nI i) (nI i) xl xw xk xP xL xF xQ xT xA xB xC xM xG kF kQ kT kA kB kC kM kG xS Z := by
          intro k4
          refine br_t rfl ?_
          by_cases g : fg = 0
          · exact br_t g (ins ⟨z, hcd', k4, fun q => absurd q (hfg.mp g)⟩)
          · refine br_f g ⟨vi, ve, ?_⟩
            rw [ci, ce]
            have g1 : gr = 1 := Classical.byContradiction (fun q => g (hfg.mpr q))
            by_cases za : xA i = xA e
            · exact br_t za (ins ⟨z, hcd', k4, fun _ => za⟩)
            · exact br_f za (nm_e (skip (fun q => za (q.2.2.2 g1))))
        by_cases o4 : fo = 0
        · exact br_t o4 (grp (fun q => absurd q (hfo.mp o4)))
        · have k4 : kind = 4 := Classical.byContradiction (fun q => o4 (hfo.mpr q))
          refine br_f o4 (xv_later (xZ := Z) (f := f) he (by omega) (by omega) hl HB (fun q => br_t rfl (grp (fun _ => q))) (fun q => br_f (by decide) (br_f (by decide) (nm_e (skip (fun p => q (p.2.2.1 k4)))))))
      · have e5 : ed_bs (ed_px mem xC xA kind N (gr = 1) e) xB f (e + 1 - f) = ed_bs (ed_px mem xC xA kind N (gr = 1) e) xB (i + 1) (e - i) := by
          rw [show e + 1 - f = (i + 1 - f) + (e - i) by omega, ed_bs_skip (c := i + 1 - f), show f + (i + 1 - f) = i + 1 by omega]
          intro j h1 h2 p
          exact zc (p.2.1 i (by omega) (by omega) z)
        exact h Z n (by rw [e5]; exact hZ)
theorem xv_sort {post : Int32 → SX → Prop} {s e f kind gr l : Nat} {N : Int32} {mem : Nat → Prop} (hs : s < 6) (he : e < 64) (hf : f ≤ e) (hl : l < 32) (n12 : xQ (99 * s + 12) = nI f) (n1 : xQ (99 * s + 1) = N) (n3 : xQ (99 * s + 3) = nI kind) (n5 : xQ (99 * s + 5) = nI gr) (hk : kind ≤ 5) (hgr : gr ≤ 1) (HB : ∀ i, f ≤ i → i ≤ e → (bt (xM i) l = true ↔ mem i)) (h : ∀ Z n, ed_st Z n (ed_bs (ed_px mem xC xA kind N (gr = 1) e) xB f (e + 1 - f)) → post (nI n) (xl, xw, xk, xP, xL, xF, xQ, xT, xA, xB, xC, xM, xG, kF, kQ, kT, kA, kB, kC, kM, kG, xS, Z)) : wpX_sortView post (xl, xw, xk, xP, xL, xF, xQ, xT, xA, xB, xC, xM, xG, kF, kQ, kT, kA, kB, kC, kM, kG, xS, xZ) (nI s * 99) ((1 : Int32) <<< (nI l &&& 31)) (nI e) := by
  have w3 := ed_x s 3 hs (by omega)
  have w5 := ed_x s 5 hs (by omega)
  have c3 : (nI s * 99 + 3).toNatClampNeg = 99 * s + 3 := w3.2
  have c5 : (nI s * 99 + 5).toNatClampNeg = 99 * s + 5 := w5.2
  have go : ∀ fo fg : Int32, (fo = 0 ↔ kind ≠ 4) → (fg = 0 ↔ gr ≠ 1) → wX_sortView_36 post (nI s * 99) ((1 : Int32) <<< (nI l &&& 31)) (nI e) fo fg xl xw xk xP xL xF xQ xT xA xB xC xM xG kF kQ kT kA kB kC kM kG xS xZ := by
    intro fo fg h1 h2
    have q : f + (e + 1 - f) = e + 1 := by omega
    have := xv_sloop (fo := fo) (fg := fg) hs he hf hl n12 n1 n3 hk h1 h2 HB h (e + 1 - f) 0 xZ
    rw [q, Nat.sub_self, pk_m1] at this
    exact ⟨e + 1 - f + 1, this (Nat.le_refl _) (ed_st_0 _) (fun j a b => by omega)⟩
  have go17 : ∀ fo : Int32, (fo = 0 ↔ kind ≠ 4) → wX_sortView_17 post (nI s * 99) ((1 : Int32) <<< (nI l &&& 31)) (nI e) fo xl xw xk xP xL xF xQ xT xA xB xC xM xG kF kQ kT kA kB kC kM kG xS xZ := by
    intro fo h1
    refine ⟨w5.1, ?_⟩
    rw [c5, n5]
    by_cases g : gr = 1
    · subst g; exact br_t rfl (go fo 1 h1 ⟨fun q => absurd q (by decide), fun q => absurd rfl q⟩)
    · exact br_f (fun q => g ((nI_eq (b := 1) (by omega) (by omega)).mp q)) (go fo 0 h1 ⟨fun _ => g, fun _ => rfl⟩)
  refine ⟨w3.1, ?_⟩
  rw [c3, n3]
  by_cases g : kind = 4
  · subst g; exact br_t rfl (go17 1 ⟨fun q => absurd q (by decide), fun q => absurd rfl q⟩)
  · exact br_f (fun q => g ((nI_eq (b := 4) (by omega) (by omega)).mp q)) (go17 0 ⟨fun _ => g, fun _ => rfl⟩)
theorem xv_total {post : Int32 → Prop} {to n : Nat} (hto : to ≤ 5) (hn : n ≤ 64) (h0 : 0 < n) (h : post (ed_tt to xZ n)) : wpX_totalOfSorted post (xl, xw, xk, xP, xL, xF, xQ, xT, xA, xB, xC, xM, xG, kF, kQ, kT, kA, kB, kC, kM, kG, xS, xZ) (nI to) (nI n) := by
  have e1 : nI n - 1 = nI (n - 1) := pk_sub (b := 1) h0
  have e2 : nI (n - 1) / 2 = nI ((n - 1) / 2) := pk_div (d := 2) (by omega) (by omega) (by omega)
  have : to = 0 ∨ to = 1 ∨ to = 2 ∨ to = 3 ∨ to = 4 ∨ to = 5 := by omega
  rcases this with rfl | rfl | rfl | rfl | rfl | rfl
  · exact br_t (by decide) h
  · refine br_f (by decide) (br_f (by decide) (br_t rfl ?_))
    have key : ∀ m i : Nat, i + m = n → wX_sumOfSorted_4 (fun r => post r) (nI n) xl xw xk xP xL xF xQ xT xA xB xC xM xG kF kQ kT kA kB kC kM kG xS xZ (m + 1) (ed_sm xZ i) (nI i) := by
      intro m
      induction m with
      | zero =>
        intro i hi
        have e0 : i = n := by omega
        subst e0
        exact br_t (nI_le (Nat.le_refl _) (by omega)) h
      | succ m ih =>
        intro i hi
        refine br_f (nI_ge (by omega) (by omega)) ⟨vp_in_nI (by omega) (by omega), nm_r (e' := ed_sm xZ (i + 1)) (by rw [nI_clamp (by omega)]; rfl) (nm_r (nI_1 i) (ih (i + 1) (by omega)))⟩
    exact ⟨n + 1, key n 0 (by omega)⟩
  · exact br_f (by decide) (br_f (by decide) (br_f (by decide) (br_t rfl h)))
  · refine br_f (by decide) (br_f (by decide) (br_f (by decide) (br_f (by decide) (br_t rfl ?_))))
    rw [e1, nI_clamp (by omega)]
    exact ⟨vp_in_nI (by omega) (by omega), h⟩
  · refine br_f (by decide) (br_f (by decide) (br_f (by decide) (br_f (by decide) (br_f (by decide) (br_t rfl ?_)))))
    have key : ∀ m i : Nat, i + m = n → 1 ≤ i → wX_differentOfSorted_4 (fun r => post r) (nI n) xl xw xk xP xL xF xQ xT xA xB xC xM xG kF kQ kT kA kB kC kM kG xS xZ (m + 1) (nI (ed_df xZ i)) (nI i) := by
      intro m
      induction m with
      | zero =>
        intro i hi h1
        have e0 : i = n := by omega
        subst e0
        exact br_t (nI_le (Nat.le_refl _) (by omega)) h
      | succ m ih =>
        intro i hi h1
        have ei : nI i - 1 = nI (i - 1) := pk_sub (b := 1) h1
        refine br_f (nI_ge (by omega) (by omega)) ?_
        rw [ei, nI_clamp (by omega), nI_clamp (by omega)]
        refine ⟨vp_in_nI (by omega) (by omega), vp_in_nI (by omega) (by omega), ?_⟩
        have IH := ih (i + 1) (by omega) (by omega)
        rw [ed_df] at IH
        by_cases z : xZ i = xZ (i - 1)
        · rw [ed_bf (fun q => q.elim (by omega) (fun y => y z)), Nat.add_zero] at IH
          exact br_t z (nm_r (nI_1 i) IH)
        · rw [ed_bt (Or.inr z)] at IH
          exact br_f z (nm_r (nI_1 _) (nm_r (nI_1 i) IH))
    have d1 : nI (ed_df xZ 1) = 1 := by rw [ed_df, ed_df, ed_bt (Or.inl rfl)]; rfl
    have := key (n - 1) 1 (by omega) (Nat.le_refl _)
    rw [d1] at this
    exact ⟨n - 1 + 1, this⟩
  · refine br_f (by decide) (br_f (by decide) (br_f (by decide) (br_f (by decide) (br_f (by decide) (br_f (by decide) (br_t rfl ⟨by decide, ?_⟩))))))
    rw [e1, e2, nI_clamp (by omega)]
    exact ⟨vp_in_nI (by omega) (by omega), h⟩
theorem xv_window {post : Int64 → SX → Prop} {s e f kind gr to : Nat} {N : Int32} {mem : Nat → Prop} (hs : s < 6) (he : e < 64) (hf : f ≤ e) (n12 : xQ (99 * s + 12) = nI f) (n1 : xQ (99 * s + 1) = N) (n3 : xQ (99 * s + 3) = nI kind) (n4 : xQ (99 * s + 4) = nI to) (n5 : xQ (99 * s + 5) = nI gr) (hk : kind ≤ 5) (hto : to ≤ 5) (hgr : gr ≤ 1) (hN : kind ≠ 0 → kind ≠ 4 → ∃ n, 1 ≤ n ∧ n ≤ 100 ∧ N = nI n) (HB : ∀ i, f ≤ i → i ≤ e → (bt (xM i) (3 * s + 0) = true ↔ mem i)) (h0 : ¬ mem e → post 1099511627776 (xl, xw, xk, xP, xL, xF, xQ, xT, xA, xB, xC, xM, xG, kF, kQ, kT, kA, kB, kC, kM, kG, xS, xZ)) (h1 : mem e → kind = 3 → ¬ ed_cn mem f (e + 1 - f) % N.toNatClampNeg = 0 → post 1099511627776 (xl, xw, xk, xP, xL, xF, xQ, xT, xA, xB, xC, xM, xG, kF, kQ, kT, kA, kB, kC, kM, kG, xS, xZ)) (h2 : mem e → (kind = 3 → ed_cn mem f (e + 1 - f) % N.toNatClampNeg = 0) → ∀ Z n, ed_st Z n (ed_bs (ed_px mem xC xA kind N (gr = 1) e) xB f (e + 1 - f)) → 0 < n → post (ed_tt to Z n).toInt64 (xl, xw, xk, xP, xL, xF, xQ, xT, xA, xB, xC, xM, xG, kF, kQ, kT, kA, kB, kC, kM, kG, xS, Z)) : wpX_findWindowOutput post (xl, xw, xk, xP, xL, xF, xQ, xT, xA, xB, xC, xM, xG, kF, kQ, kT, kA, kB, kC, kM, kG, xS, xZ) (nI s) (nI e) := by
  have w3 := ed_x s 3 hs (by omega)
  have w4 := ed_x s 4 hs (by omega)
  have c3 : (nI s * 99 + 3).toNatClampNeg = 99 * s + 3 := w3.2
  have c4 : (nI s * 99 + 4).toNatClampNeg = 99 * s + 4 := w4.2
  have ce : (nI e).toNatClampNeg = e := nI_clamp (by omega)
  have ve : vp_in (nI e) 64 := vp_in_nI (by omega) (by omega)
  unfold wpX_findWindowOutput
  dsimp only
  refine nm_e (xb_bit (w := 0) ⟨ve, ?_⟩)
  rw [ce]
  rcases Classical.em (mem e) with z | z
  rotate_left
  · exact br_t ((ed_bz (by omega) (HB e hf (Nat.le_refl _))).mpr z) (h0 z)
  refine br_f (fun q => (ed_bz (by omega) (HB e hf (Nat.le_refl _))).mp q z) ⟨w3.1, ?_⟩
  have fin : (kind = 3 → ed_cn mem f (e + 1 - f) % N.toNatClampNeg = 0) → wX_findWindowOutput_55 post (nI e) (nI s * 99) ((1 : Int32) <<< (nI (3 * s + 0) &&& 31)) xl xw xk xP xL xF xQ xT xA xB xC xM xG kF kQ kT kA kB kC kM kG xS xZ := by
    intro k3
    refine xv_sort hs he hf (by omega) n12 n1 n3 n5 hk hgr HB (fun Z n hZ => ?_)
    have hpe : ed_px mem xC xA kind N (gr = 1) e e := by
      refine ⟨z, fun j a b _ => ?_, fun _ j a b => by omega, fun _ => rfl⟩
      have : j = e := by omega
      subst this
      unfold ed_cd
      have pos : kind ≠ 0 → kind ≠ 4 → (0 : Int32) < N := by
        intro k0 k4
        obtain ⟨n, n1', _, rfl⟩ := hN k0 k4
        exact nI_lt (a := 0) n1' (by omega)
      rw [Nat.sub_self, ed_nx, Int32.sub_self]
      exact ⟨fun q => pos (by omega) (by omega), fun q => pos (by omega) (by omega), fun q => pos (by omega) (by omega)⟩
    have hlen := ed_st_len hZ
    have h0n : 0 < n := by
      rw [← hlen, show e + 1 - f = (e - f) + 1 by omega, ed_bs_t (by rw [show f + (e - f) = e by omega]; exact hpe)]
      simp
    have hn : n ≤ 64 := by
      have := ed_bs_len (ed_px mem xC xA kind N (gr = 1) e) xB f (e + 1 - f)
      omega
    dsimp only
    rw [c4, n4]
    exact ⟨w4.1, xv_total hto hn h0n (h2 z k3 Z n hZ h0n)⟩
  rw [c3, n3]
  by_cases k3 : kind = 3
  · subst k3
    obtain ⟨n, hn1, hn, rfl⟩ := hN (by omega) (by omega)
    have cn : (nI n).toNatClampNeg = n := nI_clamp (by omega)
    rw [cn] at h1 fin
    refine br_t rfl (xv_batch hs he hf (by omega) n12 n1 hn1 hn HB z ?_)
    rcases Classical.em (ed_cn mem f (e + 1 - f) % n = 0) with q | q
    · rw [ed_bi_t q]; exact br_f (by decide) (fin (fun _ => q))
    · rw [ed_bi_f q]; exact br_t rfl (h1 z rfl q)
  · exact br_f (fun q => k3 ((nI_eq (b := 3) (by omega) (by omega)).mp q)) (fin (fun q => absurd q k3))
end
