/-! Y's window: the total -/
section
variable {fT fL fK fW fB fH fO : Int32} {aT aL aQ aE aG aKQ aKE aKG aW aS aM aV aZ aB : Nat → Int32}
theorem yv_35 {i n : Nat} {x1 x3 x4 x5 : Int32} {L : List Int32} (hi : i < 64) (hn : n < 64) (hZ : ed_st aZ n L) : ∀ (p : Nat) (Z : Nat → Int32), p ≤ n → (∀ j, j < p → Z j = aZ j) → (∀ j, p ≤ j → j < n → Z (j + 1) = aZ j) → (∀ j, p ≤ j → j < n → aE (4 * i + 2) ≤ aZ j) → ∃ Z', ed_st Z' (n + 1) (aE (4 * i + 2) :: L) ∧ ∀ (post : Int32 → SY → Prop) (J : (Int32 → Int32 → Int32 → (Nat → Int32) → (Nat → Int32) → (Nat → Int32) → (Nat → Int32) → (Nat → Int32) → (Nat → Int32) → (Nat → Int32) → (Nat → Int32) → (Nat → Int32) → (Nat → Int32) → (Nat → Int32) → (Nat → Int32) → (Nat → Int32) → (Nat → Int32) → Prop)), J x4 (x5 + aE (4 * i + 2)) (nI (i + 1)) aT aL aQ aE aG aKQ aKE aKG aW aS aM aV Z' aB → wY_total_35 post J x1 x3 x4 x5 (nI i) fT fL fK fW fB fH fO (p + 1) (nI p) aT aL aQ aE aG aKQ aKE aKG aW aS aM aV Z aB := by
  have g80 : ∀ (p : Nat) (Z : Nat → Int32) (post : Int32 → SY → Prop) (J : (Int32 → Int32 → Int32 → (Nat → Int32) → (Nat → Int32) → (Nat → Int32) → (Nat → Int32) → (Nat → Int32) → (Nat → Int32) → (Nat → Int32) → (Nat → Int32) → (Nat → Int32) → (Nat → Int32) → (Nat → Int32) → (Nat → Int32) → (Nat → Int32) → (Nat → Int32) → Prop)), p < 64 → J x4 (x5 + aE (4 * i + 2)) (nI (i + 1)) aT aL aQ aE aG aKQ aKE aKG aW aS aM aV (upd Z p (aE (4 * i + 2))) aB → wY_total_80 post J x1 x3 x4 x5 (nI i) (nI p) fT fL fK fW fB fH fO aT aL aQ aE aG aKQ aKE aKG aW aS aM aV Z aB := by
    intro p Z post J hp h
    refine yb_b hi ⟨vp_in_nI hp (by omega), nm_r (e' := upd Z p (aE (4 * i + 2))) (by rw [nI_clamp (by omega)]) (yb_b hi (nm_e (nm_r (nI_1 i) h)))⟩
  intro p
  induction p with
  | zero =>
    intro Z hp h1 h2 h3
    refine ⟨upd Z 0 (aE (4 * i + 2)), ?_, fun post J h => br_t (by decide) (g80 0 Z post J (by omega) h)⟩
    exact ed_st_ins (p := 0) hZ (by omega) (fun j hj => absurd hj (Nat.not_lt_zero _)) h3 (fun j hj => absurd hj (Nat.not_lt_zero _)) pk_us (fun j a b => by rw [pk_un (by omega)]; exact h2 j a b)
  | succ p ih =>
    intro Z hp h1 h2 h3
    have e1 : nI (p + 1) - 1 = nI p := nI_pred p
    have c1 : (nI (p + 1) - 1).toNatClampNeg = p := by rw [e1, nI_clamp (by omega)]
    have v1 : vp_in (nI (p + 1) - 1) 64 := by rw [e1]; exact vp_in_nI (by omega) (by omega)
    have v2 : vp_in (nI (p + 1)) 64 := vp_in_nI (by omega) (by omega)
    have c2 : (nI (p + 1)).toNatClampNeg = p + 1 := nI_clamp (by omega)
    by_cases z : Z p ≤ aE (4 * i + 2)
    · have z' : aZ p ≤ aE (4 * i + 2) := by rw [← h1 p (by omega)]; exact z
      refine ⟨upd Z (p + 1) (aE (4 * i + 2)), ?_, fun post J h => br_f (nI_nle (by omega) (by omega)) ⟨v1, yb_b hi ?_⟩⟩
      · refine ed_st_ins (p := p + 1) hZ hp (fun j hj => ?_) h3 (fun j hj => by rw [pk_un (by omega)]; exact h1 j hj) pk_us (fun j a b => by rw [pk_un (by omega)]; exact h2 j a b)
        by_cases e0 : j = p
        · subst e0; exact z'
        · exact Int32.le_trans (hZ.1 j p (by omega) (by omega)) z'
      · rw [c1]
        exact br_t z (g80 (p + 1) Z post J (by omega) h)
    · have z' : aE (4 * i + 2) ≤ aZ p := by rw [← h1 p (by omega)]; exact Int32.le_of_lt (Int32.not_le.mp z)
      obtain ⟨Z', a1, a2⟩ := ih (upd Z (p + 1) (Z p)) (by omega) (fun j hj => by rw [pk_un (by omega)]; exact h1 j (by omega)) (fun j a b => by
        by_cases e0 : j = p
        · subst e0; rw [pk_us]; exact h1 j (by omega)
        · rw [pk_un (by omega)]; exact h2 j (by omega) b) (fun j a b => by
        by_cases e0 : j = p
        · subst e0; exact z'
        · exact h3 j (by omega) b)
      refine ⟨Z', a1, fun post J h => br_f (nI_nle (by omega) (by omega)) ⟨v1, yb_b hi ?_⟩⟩
      rw [c1]
      exact br_f z ⟨v1, v2, nm_r (e' := upd Z (p + 1) (Z p)) (by rw [c2]) (nm_r (pk_m1 p) (a2 post J h))⟩
theorem yv_9 {e f : Nat} {x1 : Int32} {Q : Nat → Prop} (he : e < 64) (hf : f ≤ e) (HV : ∀ j, f ≤ j → j ≤ e → aV j = ed_bi (Q j)) : ∀ (m i n : Nat) (Z : Nat → Int32), i + m = e + 1 → f ≤ i → ed_st Z n (ed_bs Q (fun j => aE (4 * j + 2)) f (i - f)) → ∃ Z' n', ed_st Z' n' (ed_bs Q (fun j => aE (4 * j + 2)) f (e + 1 - f)) ∧ ∀ post : Int32 → SY → Prop, wY_total_9 post x1 (nI e) fT fL fK fW fB fH fO 1 (nI n') (ed_ls (ed_bs Q (fun j => aE (4 * j + 2)) f (e + 1 - f))) (nI (e + 1)) aT aL aQ aE aG aKQ aKE aKG aW aS aM aV Z' aB → wY_total_9 post x1 (nI e) fT fL fK fW fB fH fO (m + 1) (nI n) (ed_ls (ed_bs Q (fun j => aE (4 * j + 2)) f (i - f))) (nI i) aT aL aQ aE aG aKQ aKE aKG aW aS aM aV Z aB := by
  intro m
  induction m with
  | zero =>
    intro i n Z hi hfi hZ
    have e0 : i = e + 1 := by omega
    subst e0
    exact ⟨Z, n, hZ, fun post h => h⟩
  | succ m ih =>
    intro i n Z hi hfi hZ
    have ci : (nI i).toNatClampNeg = i := nI_clamp (by omega)
    have vi : vp_in (nI i) 64 := vp_in_nI (by omega) (by omega)
    have q1 : i + 1 - f = (i - f) + 1 := by omega
    have q2 : f + (i - f) = i := by omega
    have hn : n ≤ i - f := by rw [← ed_st_len hZ]; exact ed_bs_len _ _ _ _
    rcases Classical.em (Q i) with p | p
    · obtain ⟨Z1, b1, b2⟩ := yv_35 (aE := aE) (fT := fT) (fL := fL) (fK := fK) (fW := fW) (fB := fB) (fH := fH) (fO := fO) (aT := aT) (aL := aL) (aQ := aQ) (aG := aG) (aKQ := aKQ) (aKE := aKE) (aKG := aKG) (aW := aW) (aS := aS) (aM := aM) (aV := aV) (aB := aB) (x1 := x1) (x3 := nI e) (x4 := nI (n + 1)) (x5 := ed_ls (ed_bs Q (fun j => aE (4 * j + 2)) f (i - f))) (i := i) (by omega) (show n < 64 by omega) hZ n Z (Nat.le_refl _) (fun _ _ => rfl) (fun j a b => by omega) (fun j a b => by omega)
      have eb : ed_bs Q (fun j => aE (4 * j + 2)) f (i + 1 - f) = aE (4 * i + 2) :: ed_bs Q (fun j => aE (4 * j + 2)) f (i - f) := by
        rw [q1, ed_bs_t (by rw [q2]; exact p), q2]
      obtain ⟨Z', n', a1, a2⟩ := ih (i + 1) (n + 1) Z1 (by omega) (by omega) (by rw [eb]; exact b1)
      refine ⟨Z', n', a1, fun post h => br_f (nI_nlt (by omega) (by omega)) ⟨vi, br_f (by rw [ci, HV i hfi (by omega), ed_bi_t p]; decide) (nm_r (nI_1 n) ⟨n + 1, b2 post _ ?_⟩)⟩⟩
      have H := a2 post h
      rw [eb, ed_ls, Int32.add_comm] at H
      exact H
    · have eb : ed_bs Q (fun j => aE (4 * j + 2)) f (i + 1 - f) = ed_bs Q (fun j => aE (4 * j + 2)) f (i - f) := by
        rw [q1, ed_bs_f (by rw [q2]; exact p)]
      obtain ⟨Z', n', a1, a2⟩ := ih (i + 1) n Z (by omega) (by omega) (by rw [eb]; exact hZ)
      refine ⟨Z', n', a1, fun post h => br_f (nI_nlt (by omega) (by omega)) ⟨vi, br_t (by rw [ci, HV i hfi (by omega), ed_bi_f p]) (nm_r (nI_1 i) ?_)⟩⟩
      have H := a2 post h
      rw [eb] at H
      exact H
theorem yv_116 {post : Int32 → SY → Prop} {to n : Nat} {x5 : Int32} (hto : to ≤ 5) (hn : n ≤ 64) (h0 : 0 < n) (h5 : x5 = ed_sm aZ n) (h : post (ed_tt to aZ n) (fT, fL, fK, fW, fB, fH, fO, aT, aL, aQ, aE, aG, aKQ, aKE, aKG, aW, aS, aM, aV, aZ, aB)) : ∃ k : Nat, wY_total_116 post (nI to) (nI n) x5 fT fL fK fW fB fH fO aT aL aQ aE aG aKQ aKE aKG aW aS aM aV aZ aB k 0 0 := by
  have e1 : nI n - 1 = nI (n - 1) := pk_sub (b := 1) h0
  have e2 : nI (n - 1) / 2 = nI ((n - 1) / 2) := pk_div (d := 2) (by omega) (by omega) (by omega)
  have key : ∀ m i : Nat, i + m = n → wY_total_116 post (nI to) (nI n) x5 fT fL fK fW fB fH fO aT aL aQ aE aG aKQ aKE aKG aW aS aM aV aZ aB (m + 1) (nI (ed_df aZ i)) (nI i) := by
    intro m
    induction m with
    | zero =>
      intro i hi
      have e0 : i = n := by omega
      subst e0
      refine br_t (nI_le (Nat.le_refl _) (by omega)) ?_
      have : to = 0 ∨ to = 1 ∨ to = 2 ∨ to = 3 ∨ to = 4 ∨ to = 5 := by omega
      rcases this with rfl | rfl | rfl | rfl | rfl | rfl
      · exact br_t rfl h
      · exact br_f (by decide) (br_t rfl (by rw [h5]; exact h))
      · exact br_f (by decide) (br_f (by decide) (br_t rfl h))
      · refine br_f (by decide) (br_f (by decide) (br_f (by decide) (br_t rfl ?_)))
        rw [e1, nI_clamp (by omega)]
        exact ⟨vp_in_nI (by omega) (by omega), h⟩
      · exact br_f (by decide) (br_f (by decide) (br_f (by decide) (br_f (by decide) (br_t rfl h))))
      · refine br_f (by decide) (br_f (by decide) (br_f (by decide) (br_f (by decide) (br_f (by decide) ⟨by decide, ?_⟩))))
        rw [e1, e2, nI_clamp (by omega)]
        exact ⟨vp_in_nI (by omega) (by omega), h⟩
    | succ m ih =>
      intro i hi
      refine br_f (nI_ge (by omega) (by omega)) ?_
      have IH := ih (i + 1) (by omega)
      rw [ed_df] at IH
      rcases Nat.eq_zero_or_pos i with z0 | z0
      · subst z0
        rw [ed_bt (Or.inl rfl)] at IH
        exact br_t rfl (nm_r (nI_1 _) (nm_r (nI_1 _) IH))
      · have ei : nI i - 1 = nI (i - 1) := pk_sub (b := 1) z0
        refine br_f (nI_ne0 z0 (by omega)) ?_
        rw [ei, nI_clamp (by omega), nI_clamp (by omega)]
        refine ⟨vp_in_nI (by omega) (by omega), vp_in_nI (by omega) (by omega), ?_⟩
        by_cases z : aZ i = aZ (i - 1)
        · rw [ed_bf (fun q => q.elim (by omega) (fun y => y z)), Nat.add_zero] at IH
          exact br_t z (nm_r (nI_1 i) IH)
        · rw [ed_bt (Or.inr z)] at IH
          exact br_f z (nm_r (nI_1 _) (nm_r (nI_1 i) IH))
  exact ⟨n + 1, key n 0 (by omega)⟩
theorem yv_total {e f to : Nat} {Q : Nat → Prop} (he : e < 64) (hf : f ≤ e) (hto : to ≤ 5) (HV : ∀ j, f ≤ j → j ≤ e → aV j = ed_bi (Q j)) (qe : Q e) : ∃ Z n, ed_st Z n (ed_bs Q (fun j => aE (4 * j + 2)) f (e + 1 - f)) ∧ 0 < n ∧ ∀ post : Int32 → SY → Prop, post (ed_tt to Z n) (fT, fL, fK, fW, fB, fH, fO, aT, aL, aQ, aE, aG, aKQ, aKE, aKG, aW, aS, aM, aV, Z, aB) → wpY_total post (fT, fL, fK, fW, fB, fH, fO, aT, aL, aQ, aE, aG, aKQ, aKE, aKG, aW, aS, aM, aV, aZ, aB) (nI to) (nI f) (nI e) := by
  obtain ⟨Z, n, a1, a2⟩ := yv_9 (fT := fT) (fL := fL) (fK := fK) (fW := fW) (fB := fB) (fH := fH) (fO := fO) (aT := aT) (aL := aL) (aQ := aQ) (aE := aE) (aG := aG) (aKQ := aKQ) (aKE := aKE) (aKG := aKG) (aW := aW) (aS := aS) (aM := aM) (aB := aB) (x1 := nI to) he hf HV (e + 1 - f) f 0 aZ (by omega) (Nat.le_refl _) (by rw [Nat.sub_self]; exact ed_st_0 _)
  have hlen := ed_st_len a1
  have h0 : 0 < n := by
    rw [← hlen, show e + 1 - f = (e - f) + 1 by omega, ed_bs_t (by rw [show f + (e - f) = e by omega]; exact qe)]
    simp
  have hn : n ≤ 64 := by
    have := ed_bs_len Q (fun j => aE (4 * j + 2)) f (e + 1 - f)
    omega
  refine ⟨Z, n, a1, h0, fun post h => ⟨e + 1 - f + 1, ?_⟩⟩
  have H := a2 post (br_t (nI_lt (by omega) (by omega)) (yv_116 hto hn h0 (ed_st_sum a1).symm h))
  rw [Nat.sub_self] at H
  exact H
theorem yv_window {s e f kind gr to : Nat} {N : Int32} {mem : Nat → Prop} (hs : s < 6) (he : e < 64) (hf : f ≤ e) (q1 : aQ (100 * s + 1) = nI kind) (q2 : aQ (100 * s + 2) = N) (q3 : aQ (100 * s + 3) = nI to) (q4 : aQ (100 * s + 4) = nI gr) (q9 : aQ (100 * s + 9) = nI f) (hk : kind ≤ 5) (hto : to ≤ 5) (hgr : gr ≤ 1) (hN : kind ≠ 0 → kind ≠ 4 → ∃ n, 1 ≤ n ∧ n ≤ 100 ∧ N = nI n) (HM : ∀ j, f ≤ j → j ≤ e → aM j = ed_bi (mem j)) : (¬ mem e → ∀ post : SY → Prop, post (fT, fL, fK, fW, fB, fH, fO, aT, aL, aQ, aE, aG, aKQ, aKE, aKG, aW, aS, aM, aV, aZ, aB) → wpY_windowOf post (fT, fL, fK, fW, fB, fH, fO, aT, aL, aQ, aE, aG, aKQ, aKE, aKG, aW, aS, aM, aV, aZ, aB) (nI s) (nI e)) ∧ (mem e → kind = 3 → ¬ ed_cn mem f (e + 1 - f) % N.toNatClampNeg = 0 → ∃ V, ∀ post : SY → Prop, post (fT, fL, fK, fW, fB, fH, fO, aT, aL, aQ, aE, aG, aKQ, aKE, aKG, aW, aS, aM, V, aZ, aB) → wpY_windowOf post (fT, fL, fK, fW, fB, fH, fO, aT, aL, aQ, aE, aG, aKQ, aKE, aKG, aW, aS, aM, aV, aZ, aB) (nI s) (nI e)) ∧ (mem e → (kind = 3 → ed_cn mem f (e + 1 - f) % N.toNatClampNeg = 0) → ∃ V Z n, ed_st Z n (ed_bs (fun j => ed_vw mem (fun j => aE (4 * j + 3)) (fun j => aE (4 * j + 1)) kind N e j ∧ (gr = 1 → aE (4 * j + 1) = aE (4 * e + 1))) (fun j => aE (4 * j + 2)) f (e + 1 - f)) ∧ 0 < n ∧ ∀ post : SY → Prop, post (fT, fL, fK, fW, fB, 1, ed_tt to Z n, aT, aL, aQ, aE, aG, aKQ, aKE, aKG, aW, aS, aM, V, Z, aB) → wpY_windowOf post (fT, fL, fK, fW, fB, fH, fO, aT, aL, aQ, aE, aG, aKQ, aKE, aKG, aW, aS, aM, aV, aZ, aB) (nI s) (nI e)) := by
  have w1 := ed_y s 1 hs (by omega)
  have w2 := ed_y s 2 hs (by omega)
  have w3 := ed_y s 3 hs (by omega)
  have w4 := ed_y s 4 hs (by omega)
  have w9 := ed_y s 9 hs (by omega)
  have c1 : (100 * nI s + 1).toNatClampNeg = 100 * s + 1 := w1.2
  have c2 : (100 * nI s + 2).toNatClampNeg = 100 * s + 2 := w2.2
  have c3 : (100 * nI s + 3).toNatClampNeg = 100 * s + 3 := w3.2
  have c4 : (100 * nI s + 4).toNatClampNeg = 100 * s + 4 := w4.2
  have c9 : (100 * nI s + 9).toNatClampNeg = 100 * s + 9 := w9.2
  have ce : (nI e).toNatClampNeg = e := nI_clamp (by omega)
  have ve : vp_in (nI e) 192 := vp_in_nI (by omega) (by omega)
  have hme := HM e hf (Nat.le_refl _)
  refine ⟨fun z post h => ⟨ve, br_t (by rw [ce, hme, ed_bi_f z]) h⟩, ?_⟩
  obtain ⟨V, v1, v2⟩ := yv_w61 (s := s) (kind := kind) (N := N) (fT := fT) (fL := fL) (fK := fK) (fW := fW) (fB := fB) (fH := fH) (fO := fO) (aT := aT) (aL := aL) (aQ := aQ) (aE := aE) (aG := aG) (aKQ := aKQ) (aKE := aKE) (aKG := aKG) (aW := aW) (aS := aS) (aZ := aZ) (aB := aB) he hf hk HM (e + 1 - f) aV (by omega) (fun j a b => by omega)
  rw [show f + (e + 1 - f) = e + 1 by omega, Nat.sub_self, pk_m1] at v2
  have e1 : ed_bi (∀ j, e + 1 ≤ j → j ≤ e → mem j → aE (4 * (ed_nx mem e (e - j)) + 3) - aE (4 * j + 3) < N) = 1 := ed_bi_t (fun j a b => by omega)
  rw [e1] at v2
  have start : mem e → ∀ post : SY → Prop, ((nI kind = 3 → (¬ N = 0 ∧ (((nI (ed_cn mem f (e + 1 - f)) - nI (ed_cn mem f (e + 1 - f)) / N * N) = 0 → wY_windowOf_230 post (nI s) (nI e) (nI f) fT fL fK fW fB fH fO aT aL aQ aE aG aKQ aKE aKG aW aS aM V aZ aB) ∧ (¬ (nI (ed_cn mem f (e + 1 - f)) - nI (ed_cn mem f (e + 1 - f)) / N * N) = 0 → post (fT, fL, fK, fW, fB, fH, fO, aT, aL, aQ, aE, aG, aKQ, aKE, aKG, aW, aS, aM, V, aZ, aB))))) ∧ (¬ nI kind = 3 → wY_windowOf_230 post (nI s) (nI e) (nI f) fT fL fK fW fB fH fO aT aL aQ aE aG aKQ aKE aKG aW aS aM V aZ aB)) → wpY_windowOf post (fT, fL, fK, fW, fB, fH, fO, aT, aL, aQ, aE, aG, aKQ, aKE, aKG, aW, aS, aM, aV, aZ, aB) (nI s) (nI e) := by
    intro z post H
    refine ⟨ve, br_f (by rw [ce, hme, ed_bi_t z]; decide) ⟨w1.1, nm_r (e' := nI kind) (by rw [c1]; exact q1) ⟨w2.1, nm_r (e' := N) (by rw [c2]; exact q2) ⟨w9.1, nm_r (e' := nI f) (by rw [c9]; exact q9) ⟨e + 1 - f + 1, ?_⟩⟩⟩⟩⟩
    exact v2 post (br_t (ed_m1lt (by omega)) H)
  have rem : kind = 3 → ¬ N = 0 ∧ nI (ed_cn mem f (e + 1 - f)) - nI (ed_cn mem f (e + 1 - f)) / N * N = nI (ed_cn mem f (e + 1 - f) % N.toNatClampNeg) ∧ ed_cn mem f (e + 1 - f) % N.toNatClampNeg < 2 ^ 31 := by
    intro k3
    obtain ⟨n, h1, h2, rfl⟩ := hN (by omega) (by omega)
    have hc := ed_cn_le mem f (e + 1 - f)
    rw [nI_clamp (by omega)]
    exact ⟨nI_ne0 h1 (by omega), pk_rem (by omega) h1 (by omega), Nat.lt_trans (Nat.mod_lt _ h1) (by omega)⟩
  constructor
  · intro z k3 nb
    obtain ⟨r1, r2, r3⟩ := rem k3
    refine ⟨V, fun post h => start z post (br_t (by rw [k3]; rfl) ⟨r1, br_f (fun q => nb ?_) h⟩)⟩
    rw [r2] at q
    exact (nI_eq (b := 0) r3 (by omega)).mp q
  · intro z k3
    have go : ∀ post : SY → Prop, wY_windowOf_230 post (nI s) (nI e) (nI f) fT fL fK fW fB fH fO aT aL aQ aE aG aKQ aKE aKG aW aS aM V aZ aB → wpY_windowOf post (fT, fL, fK, fW, fB, fH, fO, aT, aL, aQ, aE, aG, aKQ, aKE, aKG, aW, aS, aM, aV, aZ, aB) (nI s) (nI e) := by
      intro post h
      refine start z post ⟨fun q => ?_, fun _ => h⟩
      have k := (nI_eq (b := 3) (by omega) (by omega)).mp q
      obtain ⟨r1, r2, r3⟩ := rem k
      exact ⟨r1, br_t (by rw [r2, k3 k]; rfl) h⟩
    have hve : ed_vw mem (fun j => aE (4 * j + 3)) (fun j => aE (4 * j + 1)) kind N e e := by
      have pos : kind ≠ 0 → kind ≠ 4 → (0 : Int32) < N := by
        intro k0 k4
        obtain ⟨n, n1', _, rfl⟩ := hN k0 k4
        exact nI_lt (a := 0) n1' (by omega)
      refine ⟨z, ?_⟩
      have : kind = 0 ∨ kind = 1 ∨ kind = 2 ∨ kind = 3 ∨ kind = 4 ∨ kind = 5 := by omega
      rcases this with k | k | k | k | k | k
      · exact Or.inl k
      · refine Or.inr (Or.inr (Or.inl ⟨Or.inl k, ?_⟩)); rw [Nat.sub_self]; exact pos (by omega) (by omega)
      · refine Or.inr (Or.inl ⟨k, ?_⟩); rw [Int32.sub_self]; exact pos (by omega) (by omega)
      · refine Or.inr (Or.inr (Or.inl ⟨Or.inr k, ?_⟩)); rw [Nat.sub_self]; exact pos (by omega) (by omega)
      · exact Or.inr (Or.inr (Or.inr (Or.inr ⟨k, fun j a b => by omega⟩)))
      · refine Or.inr (Or.inr (Or.inr (Or.inl ⟨k, fun j a b _ => ?_⟩)))
        have : j = e := by omega
        subst this
        rw [Nat.sub_self, ed_nx, Int32.sub_self]; exact pos (by omega) (by omega)
    have fin : ∀ (V' : Nat → Int32) (Q : Nat → Prop), (∀ j, f ≤ j → j ≤ e → V' j = ed_bi (Q j)) → Q e → ∃ Z n, ed_st Z n (ed_bs Q (fun j => aE (4 * j + 2)) f (e + 1 - f)) ∧ 0 < n ∧ ∀ post : SY → Prop, post (fT, fL, fK, fW, fB, 1, ed_tt to Z n, aT, aL, aQ, aE, aG, aKQ, aKE, aKG, aW, aS, aM, V', Z, aB) → wY_windowOf_302 post (nI s) (nI e) (nI f) fT fL fK fW fB 1 fO aT aL aQ aE aG aKQ aKE aKG aW aS aM V' aZ aB := by
      intro V' Q hV qe
      obtain ⟨Z, n, t1, t2, t3⟩ := yv_total (to := to) (fT := fT) (fL := fL) (fK := fK) (fW := fW) (fB := fB) (fH := 1) (fO := fO) (aT := aT) (aL := aL) (aQ := aQ) (aE := aE) (aG := aG) (aKQ := aKQ) (aKE := aKE) (aKG := aKG) (aW := aW) (aS := aS) (aM := aM) (aZ := aZ) (aB := aB) he hf hto hV qe
      refine ⟨Z, n, t1, t2, fun post h => ⟨w3.1, ?_⟩⟩
      rw [c3, q3]
      exact t3 _ h
    by_cases g : gr = 1
    · obtain ⟨V2, a1, a2⟩ := yv_w254 (s := s) (fT := fT) (fL := fL) (fK := fK) (fW := fW) (fB := fB) (fH := 1) (fO := fO) (aT := aT) (aL := aL) (aQ := aQ) (aE := aE) (aG := aG) (aKQ := aKQ) (aKE := aKE) (aKG := aKG) (aW := aW) (aS := aS) (aM := aM) (aZ := aZ) (aB := aB) (P := fun j => ed_vw mem (fun j => aE (4 * j + 3)) (fun j => aE (4 * j + 1)) kind N e j) he hf (e + 1 - f) f V (by omega) (Nat.le_refl _) (fun j a b => by omega) v1
      obtain ⟨Z, n, t1, t2, t3⟩ := fin V2 _ a1 ⟨hve, rfl⟩
      refine ⟨V2, Z, n, ?_, t2, fun post h => go post ⟨w4.1, br_t (by rw [c4, q4, g]; rfl) ⟨e + 1 - f + 1, a2 post (t3 post h)⟩⟩⟩
      have eb : ed_bs (fun j => ed_vw mem (fun j => aE (4 * j + 3)) (fun j => aE (4 * j + 1)) kind N e j ∧ (gr = 1 → aE (4 * j + 1) = aE (4 * e + 1))) (fun j => aE (4 * j + 2)) f (e + 1 - f) = ed_bs (fun j => ed_vw mem (fun j => aE (4 * j + 3)) (fun j => aE (4 * j + 1)) kind N e j ∧ aE (4 * j + 1) = aE (4 * e + 1)) (fun j => aE (4 * j + 2)) f (e + 1 - f) :=
        ed_bs_cg (fun i _ _ => ⟨fun q => ⟨q.1, q.2 g⟩, fun q => ⟨q.1, fun _ => q.2⟩⟩) (fun _ _ _ => rfl)
      rw [eb]
      exact t1
    · obtain ⟨Z, n, t1, t2, t3⟩ := fin V _ v1 hve
      refine ⟨V, Z, n, ?_, t2, fun post h => go post ⟨w4.1, br_f (by rw [c4, q4]; exact fun q => g ((nI_eq (b := 1) (by omega) (by omega)).mp q)) (t3 post h)⟩⟩
      have eb : ed_bs (fun j => ed_vw mem (fun j => aE (4 * j + 3)) (fun j => aE (4 * j + 1)) kind N e j ∧ (gr = 1 → aE (4 * j + 1) = aE (4 * e + 1))) (fun j => aE (4 * j + 2)) f (e + 1 - f) = ed_bs (fun j => ed_vw mem (fun j => aE (4 * j + 3)) (fun j => aE (4 * j + 1)) kind N e j) (fun j => aE (4 * j + 2)) f (e + 1 - f) :=
        ed_bs_cg (fun i _ _ => ⟨fun q => q.1, fun q => ⟨q, fun y => absurd y g⟩⟩) (fun _ _ _ => rfl)
      rw [eb]
      exact t1
end
