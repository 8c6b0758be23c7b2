/-! which conditions an event met: X's bits, Y's table -/
theorem ed_3i (s w : Nat) : nI s * 3 + nI w = nI (3 * s + w) := by
  rw [show (3 : Int32) = nI 3 from rfl, pk_mul, nI_add, Nat.mul_comm]
section
variable {xl xw xk : Int32} {xP xL xF xQ xT xA xB xC xM xG kF kQ kT kA kB kC kM kG xS xZ : Nat → Int32}
variable {fT fL fK fW fB fH fO : Int32} {aT aL aQ aE aG aKQ aKE aKG aW aS aM aV aZ aB : Nat → Int32}
theorem xb_bit {post : Int32 → Prop} {s w : Nat} (h : post ((1 : Int32) <<< (nI (3 * s + w) &&& 31))) : wpX_metBit post (nI s) (nI w) := by
  unfold wpX_metBit
  rw [ed_3i]
  exact h
theorem xv_note {post : SX → Prop} {s e c : Nat} (hs : s < 6) (he : e < 64) (hc : c ≤ 3) (nc : xQ (99 * s + 23) = nI c) (hv : ∀ w, w < c → ed_cv xQ (99 * s + 24 + 25 * w)) (h : ∀ M st, (∀ j, j ≠ e → M j = xM j) → (∀ l, bt (M e) l = true ↔ (bt (xM e) l = true ∨ ∃ w, w < c ∧ l = 3 * s + w ∧ ed_me xQ (99 * s + 24 + 25 * w) (xA e) (xB e) (xT e) (xC e))) → post (xl, xw, xk, xP, xL, xF, xQ, xT, xA, xB, xC, M, xG, kF, kQ, kT, kA, kB, kC, kM, kG, st, xZ)) : wpX_noteConditionsMet post (xl, xw, xk, xP, xL, xF, xQ, xT, xA, xB, xC, xM, xG, kF, kQ, kT, kA, kB, kC, kM, kG, xS, xZ) (nI s) (nI e) := by
  have w23 := ed_x s 23 hs (by omega)
  have c23 : (nI s * 99 + 23).toNatClampNeg = 99 * s + 23 := w23.2
  have ce : (nI e).toNatClampNeg = e := nI_clamp (by omega)
  have ve : vp_in (nI e) 64 := vp_in_nI he (by omega)
  have key : ∀ (m i : Nat) (M st : Nat → Int32), i + m = c → (∀ j, j ≠ e → M j = xM j) → (∀ l, bt (M e) l = true ↔ (bt (xM e) l = true ∨ ∃ w, w < i ∧ l = 3 * s + w ∧ ed_me xQ (99 * s + 24 + 25 * w) (xA e) (xB e) (xT e) (xC e))) → wX_noteConditionsMet_16 post (nI s) (nI e) (nI c) (m + 1) (nI i) xl xw xk xP xL xF xQ xT xA xB xC M xG kF kQ kT kA kB kC kM kG st xZ := by
    intro m
    induction m with
    | zero =>
      intro i M st hi h1 h2
      have e0 : i = c := by omega
      subst e0
      exact br_t (nI_le (Nat.le_refl _) (by omega)) (h M st h1 h2)
    | succ m ih =>
      intro i M st hi h1 h2
      refine br_f (nI_ge (by omega) (by omega)) (xv_meets (xM := M) hs (by omega) he (hv i (by omega)) (fun st' => ?_))
      rcases Classical.em (ed_me xQ (99 * s + 24 + 25 * i) (xA e) (xB e) (xT e) (xC e)) with z | z
      · rw [ed_bi_t z]
        refine br_f (by decide) ⟨ve, xb_bit ⟨ve, nm_r (e' := upd M e (M e ||| ((1 : Int32) <<< (nI (3 * s + i) &&& 31)))) (by rw [ce]) (nm_r (nI_1 i) (ih (i + 1) _ st' (by omega) ?_ ?_))⟩⟩
        · intro j hj; rw [pk_un hj]; exact h1 j hj
        · intro l
          rw [pk_us, ed_bset _ _ _ (by omega), Bool.or_eq_true, h2 l, decide_eq_true_eq]
          constructor
          · rintro ((q | ⟨w, w1, w2, w3⟩) | q)
            · exact Or.inl q
            · exact Or.inr ⟨w, by omega, w2, w3⟩
            · exact Or.inr ⟨i, by omega, q.symm, z⟩
          · rintro (q | ⟨w, w1, w2, w3⟩)
            · exact Or.inl (Or.inl q)
            · by_cases e0 : w = i
              · subst e0; exact Or.inr w2.symm
              · exact Or.inl (Or.inr ⟨w, by omega, w2, w3⟩)
      · rw [ed_bi_f z]
        refine br_t rfl (nm_r (nI_1 i) (ih (i + 1) M st' (by omega) h1 ?_))
        intro l
        rw [h2 l]
        constructor
        · rintro (q | ⟨w, w1, w2, w3⟩)
          · exact Or.inl q
          · exact Or.inr ⟨w, by omega, w2, w3⟩
        · rintro (q | ⟨w, w1, w2, w3⟩)
          · exact Or.inl q
          · by_cases e0 : w = i
            · subst e0; exact absurd w3 z
            · exact Or.inr ⟨w, by omega, w2, w3⟩
  refine ⟨w23.1, nm_r (e' := nI c) (by rw [c23]; exact nc) ⟨c + 1, ?_⟩⟩
  refine key c 0 xM xS (by omega) (fun _ _ => rfl) (fun l => ⟨Or.inl, fun q => q.elim id (fun ⟨w, w1, _⟩ => absurd w1 (Nat.not_lt_zero _))⟩)
theorem yb_95 {post : Int32 → SY → Prop} {J : Int32 → Int32 → (Nat → Int32) → (Nat → Int32) → (Nat → Int32) → (Nat → Int32) → (Nat → Int32) → (Nat → Int32) → (Nat → Int32) → (Nat → Int32) → (Nat → Int32) → (Nat → Int32) → (Nat → Int32) → (Nat → Int32) → (Nat → Int32) → (Nat → Int32) → Prop} {D d e i k t : Nat} {yy zx : Int32} (hD : D + 2 + 2 * i < 600) (he : e < 64) (hk : k ≤ 13) (ht : t ≤ d) (hd : d - t < 13) (hJ : J (nI (d - t + 1)) (nI (i + 1)) aT aL aQ aE aG aKQ aKE aKG aW (upd aS (d - t) (ed_rs (nI k) (aQ (D + 2 + 2 * i)) (aE (4 * e + 1)) (aE (4 * e + 2)) (aE (4 * e)) (aE (4 * e + 3)) zx yy)) aM aV aZ aB) : wY_meets_95 post J (nI e) (nI D) (nI d) (nI i) (nI k) (nI t) yy zx fT fL fK fW fB fH fO aT aL aQ aE aG aKQ aKE aKG aW aS aM aV aZ aB := by
  have e2 : nI D + 2 + 2 * nI i = nI (D + 2 + 2 * i) := by
    rw [show (2 : Int32) * nI i = nI (2 * i) from pk_mul 2 i, show nI D + 2 = nI (D + 2) from nI_add D 2, nI_add]
  have f0 : (4 : Int32) * nI e = nI (4 * e) := pk_mul 4 e
  have f1 : (4 : Int32) * nI e + 1 = nI (4 * e + 1) := by rw [f0, nI_1]
  have f2 : (4 : Int32) * nI e + 2 = nI (4 * e + 2) := by rw [f0]; exact nI_add _ 2
  have f3 : (4 : Int32) * nI e + 3 = nI (4 * e + 3) := by rw [f0]; exact nI_add _ 3
  have v13 : vp_in (nI (d - t)) 13 := vp_in_nI hd (by omega)
  have cd : (nI (d - t)).toNatClampNeg = d - t := nI_clamp (by omega)
  unfold wY_meets_95
  refine nm_r (pk_sub ht) (nm_r (nI_1 _) ?_)
  rw [f1, f2, f3, f0, e2, cd, nI_clamp (show D + 2 + 2 * i < 2 ^ 31 by omega), nI_clamp (show 4 * e < 2 ^ 31 by omega), nI_clamp (show 4 * e + 1 < 2 ^ 31 by omega), nI_clamp (show 4 * e + 2 < 2 ^ 31 by omega), nI_clamp (show 4 * e + 3 < 2 ^ 31 by omega)]
  rcases Nat.lt_or_ge k 5 with k5 | k5
  · have : k = 0 ∨ k = 1 ∨ k = 2 ∨ k = 3 ∨ k = 4 := by omega
    rcases this with rfl | rfl | rfl | rfl | rfl
    · rw [ed_rs0] at hJ
      exact br_t rfl ⟨vp_in_nI (by omega) (by omega), v13, nm_e (nm_r (nI_1 i) hJ)⟩
    · rw [ed_rs1] at hJ
      exact br_f (by decide) (br_t rfl ⟨vp_in_nI (by omega) (by omega), v13, nm_e (nm_r (nI_1 i) hJ)⟩)
    · rw [ed_rs2] at hJ
      exact br_f (by decide) (br_f (by decide) (br_t rfl ⟨vp_in_nI (by omega) (by omega), v13, nm_e (nm_r (nI_1 i) hJ)⟩))
    · rw [ed_rs3] at hJ
      exact br_f (by decide) (br_f (by decide) (br_f (by decide) (br_t rfl ⟨vp_in_nI (by omega) (by omega), v13, nm_e (nm_r (nI_1 i) hJ)⟩)))
    · rw [ed_rs4] at hJ
      exact br_f (by decide) (br_f (by decide) (br_f (by decide) (br_f (by decide) (br_t rfl ⟨vp_in_nI (by omega) (by omega), v13, nm_e (nm_r (nI_1 i) hJ)⟩))))
  · have n : ∀ c : Nat, c < 5 → ¬ nI k = nI c := fun c hc q => by have := (nI_eq (by omega) (by omega)).mp q; omega
    rw [ed_rsc k5 hk] at hJ
    exact br_f (n 0 (by omega)) (br_f (n 1 (by omega)) (br_f (n 2 (by omega)) (br_f (n 3 (by omega)) (br_f (n 4 (by omega)) (yb_res k5 hk ⟨v13, nm_e (nm_r (nI_1 i) hJ)⟩)))))
theorem yv_meets {s w e n : Nat} (hs : s < 6) (hw : w < 3) (he : e < 64) (en : aQ (100 * s + 24 + 25 * w) = nI n) (ok : ed_ok (fun i => aQ (100 * s + 24 + 25 * w + 1 + 2 * i)) n) : ∃ st, ∀ post : Int32 → SY → Prop, post (ed_bi (ed_pe (fun i => aQ (100 * s + 24 + 25 * w + 1 + 2 * i)) (fun i => aQ (100 * s + 24 + 25 * w + 2 + 2 * i)) (aE (4 * e + 1)) (aE (4 * e + 2)) (aE (4 * e)) (aE (4 * e + 3)) n 0 ≠ 0)) (fT, fL, fK, fW, fB, fH, fO, aT, aL, aQ, aE, aG, aKQ, aKE, aKG, aW, st, aM, aV, aZ, aB) → wpY_meets post (fT, fL, fK, fW, fB, fH, fO, aT, aL, aQ, aE, aG, aKQ, aKE, aKG, aW, aS, aM, aV, aZ, aB) (nI s) (nI w) (nI e) := by
  obtain ⟨D, hD⟩ : ∃ D, D = 100 * s + 24 + 25 * w := ⟨_, rfl⟩
  rw [← hD] at en ok ⊢
  obtain ⟨hn, hg, hd⟩ := ok
  have eD : (100 : Int32) * nI s + 24 + 25 * nI w = nI D := by
    rw [show (100 : Int32) * nI s + 24 = nI (100 * s + 24) from ed_yi s 24, show (25 : Int32) * nI w = nI (25 * w) from pk_mul 25 w, nI_add, hD]
  have vD : vp_in (nI D) 600 := vp_in_nI (by omega) (by omega)
  have cD : (nI D).toNatClampNeg = D := nI_clamp (by omega)
  have key : ∀ (m i : Nat) (S : Nat → Int32), i + m = n → (∀ j, j < ed_dp (fun i => aQ (D + 1 + 2 * i)) i → S j = ed_pe (fun i => aQ (D + 1 + 2 * i)) (fun i => aQ (D + 2 + 2 * i)) (aE (4 * e + 1)) (aE (4 * e + 2)) (aE (4 * e)) (aE (4 * e + 3)) i j) → ∃ st, ∀ post : Int32 → SY → Prop, post (ed_bi (ed_pe (fun i => aQ (D + 1 + 2 * i)) (fun i => aQ (D + 2 + 2 * i)) (aE (4 * e + 1)) (aE (4 * e + 2)) (aE (4 * e)) (aE (4 * e + 3)) n 0 ≠ 0)) (fT, fL, fK, fW, fB, fH, fO, aT, aL, aQ, aE, aG, aKQ, aKE, aKG, aW, st, aM, aV, aZ, aB) → wY_meets_20 post (nI e) (nI D) fT fL fK fW fB fH fO (m + 1) (nI (ed_dp (fun i => aQ (D + 1 + 2 * i)) i)) (nI i) aT aL aQ aE aG aKQ aKE aKG aW S aM aV aZ aB := by
    intro m
    induction m with
    | zero =>
      intro i S hi hS
      have e0 : i = n := by omega
      subst e0
      have z0 := hS 0 (by omega)
      refine ⟨S, fun post h => ⟨vD, br_t (by rw [cD, en]; exact nI_le (Nat.le_refl _) (by omega)) ?_⟩⟩
      by_cases z : S 0 = 0
      · rw [ed_bi_f (fun q => q (z0.symm.trans z))] at h
        exact br_t z h
      · rw [ed_bi_t (fun q => z (z0.trans q))] at h
        exact br_f z h
    | succ m ih =>
      intro i S hi hS
      have dl := ed_dp_le (fun i => aQ (D + 1 + 2 * i)) i
      obtain ⟨⟨k, hk, ek⟩, ht⟩ := hg i (by omega)
      have e1 : nI D + 1 + 2 * nI i = nI (D + 1 + 2 * i) := by
        rw [show (2 : Int32) * nI i = nI (2 * i) from pk_mul 2 i, nI_1, nI_add]
      have c1 : (nI D + 1 + 2 * nI i).toNatClampNeg = D + 1 + 2 * i := by rw [e1, nI_clamp (by omega)]
      have ek' : aQ (D + 1 + 2 * i) = nI k := ek
      have stp := ed_pe_s (o := fun i => aQ (D + 1 + 2 * i)) (v := fun i => aQ (D + 2 + 2 * i)) (S := S) (a := aE (4 * e + 1)) (b := aE (4 * e + 2)) (ty := aE (4 * e)) (t := aE (4 * e + 3)) (i := i) ht hS rfl
      obtain ⟨st, hst⟩ := ih (i + 1) _ (by omega) stp
      refine ⟨st, fun post h => ⟨vD, br_f (by rw [cD, en]; exact nI_ge (by omega) (by omega)) ⟨by rw [e1]; exact vp_in_nI (by omega) (by omega), nm_r (e' := nI k) (by rw [c1]; exact ek) (yb_takes ?_)⟩⟩⟩
      have H := hst post h
      dsimp only at ht H hS
      rw [ek'] at ht H
      have ed : ed_dp (fun i => aQ (D + 1 + 2 * i)) (i + 1) = ed_dp (fun i => aQ (D + 1 + 2 * i)) i - ed_tk (nI k) + 1 := by
        rw [ed_dp, ek']; omega
      rw [ed] at H
      have g95 : ∀ yy zx, ed_rs (nI k) (aQ (D + 2 + 2 * i)) (aE (4 * e + 1)) (aE (4 * e + 2)) (aE (4 * e)) (aE (4 * e + 3)) zx yy = ed_rs (nI k) (aQ (D + 2 + 2 * i)) (aE (4 * e + 1)) (aE (4 * e + 2)) (aE (4 * e)) (aE (4 * e + 3)) (ed_pe (fun i => aQ (D + 1 + 2 * i)) (fun i => aQ (D + 2 + 2 * i)) (aE (4 * e + 1)) (aE (4 * e + 2)) (aE (4 * e)) (aE (4 * e + 3)) i (ed_dp (fun i => aQ (D + 1 + 2 * i)) i - 2)) (ed_pe (fun i => aQ (D + 1 + 2 * i)) (fun i => aQ (D + 2 + 2 * i)) (aE (4 * e + 1)) (aE (4 * e + 2)) (aE (4 * e)) (aE (4 * e + 3)) i (ed_dp (fun i => aQ (D + 1 + 2 * i)) i - 1)) → wY_meets_95 post (wY_meets_20 post (nI e) (nI D) fT fL fK fW fB fH fO (m + 1)) (nI e) (nI D) (nI (ed_dp (fun i => aQ (D + 1 + 2 * i)) i)) (nI i) (nI k) (nI (ed_tk (nI k))) yy zx fT fL fK fW fB fH fO aT aL aQ aE aG aKQ aKE aKG aW S aM aV aZ aB := by
        intro yy zx q
        refine yb_95 (by omega) he hk ht (by omega) ?_
        rw [q]
        exact H
      rcases Nat.lt_or_ge k 5 with k5 | k5
      · have t0 := ed_tk0 (k := k) (by omega)
        refine br_t (by rw [t0]; decide) (br_t (by rw [t0]; decide) (g95 _ _ ?_))
        have : k = 0 ∨ k = 1 ∨ k = 2 ∨ k = 3 ∨ k = 4 := by omega
        rcases this with rfl | rfl | rfl | rfl | rfl
        · rw [ed_rs0, ed_rs0]
        · rw [ed_rs1, ed_rs1]
        · rw [ed_rs2, ed_rs2]
        · rw [ed_rs3, ed_rs3]
        · rw [ed_rs4, ed_rs4]
      · have d1 : 1 ≤ ed_dp (fun i => aQ (D + 1 + 2 * i)) i := by
          by_cases k12 : k = 12
          · subst k12; rw [ed_tk12] at ht; omega
          · rw [ed_tk2 k5 hk k12] at ht; omega
        have em1 : nI (ed_dp (fun i => aQ (D + 1 + 2 * i)) i) - 1 = nI (ed_dp (fun i => aQ (D + 1 + 2 * i)) i - 1) := pk_sub (b := 1) d1
        have cm1 : (nI (ed_dp (fun i => aQ (D + 1 + 2 * i)) i) - 1).toNatClampNeg = ed_dp (fun i => aQ (D + 1 + 2 * i)) i - 1 := by rw [em1, nI_clamp (by omega)]
        have vm1 : vp_in (nI (ed_dp (fun i => aQ (D + 1 + 2 * i)) i) - 1) 13 := by rw [em1]; exact vp_in_nI (by omega) (by omega)
        have s1 := hS (ed_dp (fun i => aQ (D + 1 + 2 * i)) i - 1) (by omega)
        by_cases k12 : k = 12
        · subst k12
          refine br_f (by rw [ed_tk12]; decide) ⟨vm1, br_t (by rw [ed_tk12]; decide) (g95 _ _ ?_)⟩
          rw [cm1, ed_rsc (by omega) (by omega), ed_rsc (by omega) (by omega), ed_cb12, ed_cb12, s1]
        · have t2 := ed_tk2 k5 hk k12
          have ht2 := ht
          rw [t2] at ht2
          have em2 : nI (ed_dp (fun i => aQ (D + 1 + 2 * i)) i) - 2 = nI (ed_dp (fun i => aQ (D + 1 + 2 * i)) i - 2) := pk_sub (b := 2) ht2
          have cm2 : (nI (ed_dp (fun i => aQ (D + 1 + 2 * i)) i) - 2).toNatClampNeg = ed_dp (fun i => aQ (D + 1 + 2 * i)) i - 2 := by rw [em2, nI_clamp (by omega)]
          have vm2 : vp_in (nI (ed_dp (fun i => aQ (D + 1 + 2 * i)) i) - 2) 13 := by rw [em2]; exact vp_in_nI (by omega) (by omega)
          have s2 := hS (ed_dp (fun i => aQ (D + 1 + 2 * i)) i - 2) (by omega)
          refine br_f (by rw [t2]; decide) ⟨vm1, br_f (by rw [t2]; decide) ⟨vm2, g95 _ _ ?_⟩⟩
          rw [cm1, cm2, s1, s2]
  obtain ⟨st, hst⟩ := key n 0 aS (by omega) (fun j hj => absurd hj (Nat.not_lt_zero _))
  refine ⟨st, fun post h => ?_⟩
  unfold wpY_meets
  dsimp only
  rw [eD]
  exact nm_e ⟨n + 1, hst post h⟩
end
