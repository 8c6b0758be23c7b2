/-! the evaluators of both sides -/
noncomputable def ed_bi (P : Prop) : Int32 := @ite _ P (Classical.propDecidable P) 1 0
theorem ed_bi_t {P : Prop} (h : P) : ed_bi P = 1 := by unfold ed_bi; rw [if_pos h]
theorem ed_bi_f {P : Prop} (h : ¬ P) : ed_bi P = 0 := by unfold ed_bi; rw [if_neg h]
theorem ed_bi_0 {P : Prop} : ed_bi P = 0 ↔ ¬ P := by
  constructor
  · intro h p; rw [ed_bi_t p] at h; exact absurd h (by decide)
  · exact ed_bi_f
theorem ed_n1 : vp_nar .boolean 1 = 1 := by decide
theorem ed_n0 : vp_nar .boolean 0 = 0 := by decide
theorem ed_nbi (P : Prop) : vp_nar .boolean (ed_bi P) = ed_bi P := by
  rcases Classical.em P with h | h
  · rw [ed_bi_t h]; exact ed_n1
  · rw [ed_bi_f h]; exact ed_n0
theorem ed_cb5 (x y : Int32) : ed_cb (nI 5) x y = x + y := by unfold ed_cb; rw [if_pos (by decide)]
theorem ed_cb6 (x y : Int32) : ed_cb (nI 6) x y = x - y := by unfold ed_cb; rw [if_neg (by decide), if_pos (by decide)]
theorem ed_cb7 (x y : Int32) : ed_cb (nI 7) x y = x * y := by unfold ed_cb; rw [if_neg (by decide), if_neg (by decide), if_pos (by decide)]
theorem ed_cb8 (x y : Int32) : ed_cb (nI 8) x y = (if x < y then 1 else 0) := by unfold ed_cb; rw [if_neg (by decide), if_neg (by decide), if_neg (by decide), if_pos (by decide)]
theorem ed_cb9 (x y : Int32) : ed_cb (nI 9) x y = (if x = y then 1 else 0) := by unfold ed_cb; rw [if_neg (by decide), if_neg (by decide), if_neg (by decide), if_neg (by decide), if_pos (by decide)]
theorem ed_cb10 (x y : Int32) : ed_cb (nI 10) x y = (if x = 0 then 0 else if y = 0 then 0 else 1) := by unfold ed_cb; rw [if_neg (by decide), if_neg (by decide), if_neg (by decide), if_neg (by decide), if_neg (by decide), if_pos (by decide)]
theorem ed_cb11 (x y : Int32) : ed_cb (nI 11) x y = (if x = 0 then (if y = 0 then 0 else 1) else 1) := by unfold ed_cb; rw [if_neg (by decide), if_neg (by decide), if_neg (by decide), if_neg (by decide), if_neg (by decide), if_neg (by decide), if_pos (by decide)]
theorem ed_cb12 (x y : Int32) : ed_cb (nI 12) x y = (if y = 0 then 1 else 0) := by unfold ed_cb; rw [if_neg (by decide), if_neg (by decide), if_neg (by decide), if_neg (by decide), if_neg (by decide), if_neg (by decide), if_neg (by decide), if_pos (by decide)]
theorem ed_cb13 (x y : Int32) : ed_cb (nI 13) x y = (if y = 0 then 0 else x - x / y * y) := by unfold ed_cb; rw [if_neg (by decide), if_neg (by decide), if_neg (by decide), if_neg (by decide), if_neg (by decide), if_neg (by decide), if_neg (by decide), if_neg (by decide)]
theorem ed_rs0 (v a b ty t x y : Int32) : ed_rs (nI 0) v a b ty t x y = v := by unfold ed_rs; rw [if_pos (by decide)]
theorem ed_rs1 (v a b ty t x y : Int32) : ed_rs (nI 1) v a b ty t x y = a := by unfold ed_rs; rw [if_neg (by decide), if_pos (by decide)]
theorem ed_rs2 (v a b ty t x y : Int32) : ed_rs (nI 2) v a b ty t x y = b := by unfold ed_rs; rw [if_neg (by decide), if_neg (by decide), if_pos (by decide)]
theorem ed_rs3 (v a b ty t x y : Int32) : ed_rs (nI 3) v a b ty t x y = ty := by unfold ed_rs; rw [if_neg (by decide), if_neg (by decide), if_neg (by decide), if_pos (by decide)]
theorem ed_rs4 (v a b ty t x y : Int32) : ed_rs (nI 4) v a b ty t x y = t := by unfold ed_rs; rw [if_neg (by decide), if_neg (by decide), if_neg (by decide), if_neg (by decide), if_pos (by decide)]
theorem ed_rsc {k : Nat} (h5 : 5 ≤ k) (h13 : k ≤ 13) (v a b ty t x y : Int32) : ed_rs (nI k) v a b ty t x y = ed_cb (nI k) x y := by
  have n : ∀ c : Nat, c < 5 → ¬ nI k = nI c := fun c hc q => by have := (nI_eq (by omega) (by omega)).mp q; omega
  have n0 : ¬ nI k = 0 := n 0 (by omega)
  have n1 : ¬ nI k = 1 := n 1 (by omega)
  have n2 : ¬ nI k = 2 := n 2 (by omega)
  have n3 : ¬ nI k = 3 := n 3 (by omega)
  have n4 : ¬ nI k = 4 := n 4 (by omega)
  unfold ed_rs
  rw [if_neg n0, if_neg n1, if_neg n2, if_neg n3, if_neg n4]
theorem ed_tk0 {k : Nat} (h : k ≤ 4) : ed_tk (nI k) = 0 := by
  have z : nI k ≤ 4 := nI_le (b := 4) h (by omega)
  unfold ed_tk; rw [if_pos z]
theorem ed_tk12 : ed_tk (nI 12) = 1 := by decide
theorem ed_tk2 {k : Nat} (h : 5 ≤ k) (h2 : k ≤ 13) (h12 : k ≠ 12) : ed_tk (nI k) = 2 := by
  have z : ¬ nI k ≤ 4 := nI_ge (a := 4) h (by omega)
  have z2 : ¬ nI k = 12 := fun q => h12 ((nI_eq (b := 12) (by omega) (by omega)).mp q)
  unfold ed_tk
  rw [if_neg z, if_neg z2]
section
variable {xl xw xk : Int32} {xP xL xF xQ xT xA xB xC xM xG kF kQ kT kA kB kC kM kG xS xZ : Nat → Int32}
variable {fT fL fK fW fB fH fO : Int32} {aT aL aQ aE aG aKQ aKE aKG aW aS aM aV aZ aB : Nat → Int32}
theorem ed_leaf8 {post : Int32 → Prop} {x y : Int32} (h : post (if x < y then 1 else 0)) : (y ≤ x → post 0) ∧ (¬ y ≤ x → post 1) := by
  by_cases z : x < y
  · rw [if_pos z] at h; exact br_f (Int32.not_le.mpr z) h
  · rw [if_neg z] at h; exact br_t (Int32.not_lt.mp z) h
theorem ed_leaf9 {post : Int32 → Prop} {x y : Int32} (h : post (if x = y then 1 else 0)) : (x = y → post 1) ∧ (¬ x = y → post 0) := by
  by_cases z : x = y
  · rw [if_pos z] at h; exact br_t z h
  · rw [if_neg z] at h; exact br_f z h
theorem ed_leaf10 {post : Int32 → Prop} {x y : Int32} (h : post (if x = 0 then 0 else if y = 0 then 0 else 1)) : (x = 0 → post 0) ∧ (¬ x = 0 → ((y = 0 → post 0) ∧ (¬ y = 0 → post 1))) := by
  by_cases z : x = 0
  · rw [if_pos z] at h; exact br_t z h
  · rw [if_neg z] at h
    by_cases z2 : y = 0
    · rw [if_pos z2] at h; exact br_f z (br_t z2 h)
    · rw [if_neg z2] at h; exact br_f z (br_f z2 h)
theorem ed_leaf11 {post : Int32 → Prop} {x y : Int32} (h : post (if x = 0 then (if y = 0 then 0 else 1) else 1)) : (x = 0 → ((y = 0 → post 0) ∧ (¬ y = 0 → post 1))) ∧ (¬ x = 0 → post 1) := by
  by_cases z : x = 0
  · rw [if_pos z] at h
    by_cases z2 : y = 0
    · rw [if_pos z2] at h; exact br_t z (br_t z2 h)
    · rw [if_neg z2] at h; exact br_t z (br_f z2 h)
  · rw [if_neg z] at h; exact br_f z h
theorem ed_leaf12 {post : Int32 → Prop} {y : Int32} (h : post (if y = 0 then 1 else 0)) : (y = 0 → post 1) ∧ (¬ y = 0 → post 0) := by
  by_cases z : y = 0
  · rw [if_pos z] at h; exact br_t z h
  · rw [if_neg z] at h; exact br_f z h
theorem ed_leaf13 {post : Int32 → Prop} {x y : Int32} (h : post (if y = 0 then 0 else x - x / y * y)) : (y = 0 → post 0) ∧ (¬ y = 0 → (¬ y = 0 ∧ post (x - x / y * y))) := by
  by_cases z : y = 0
  · rw [if_pos z] at h; exact br_t z h
  · rw [if_neg z] at h; exact br_f z ⟨z, h⟩
theorem xb_comb {post : Int32 → Prop} {k : Nat} {x y : Int32} (h5 : 5 ≤ k) (h13 : k ≤ 13) (h12 : k ≠ 12) (h : post (ed_cb (nI k) x y)) : wpX_combined post (nI k) x y := by
  have : k = 5 ∨ k = 6 ∨ k = 7 ∨ k = 8 ∨ k = 9 ∨ k = 10 ∨ k = 11 ∨ k = 13 := by omega
  rcases this with rfl | rfl | rfl | rfl | rfl | rfl | rfl | rfl
  · rw [ed_cb5] at h; exact br_f (by decide) (br_f (by decide) (br_t rfl h))
  · rw [ed_cb6] at h; exact br_f (by decide) (br_f (by decide) (br_f (by decide) (br_t rfl h)))
  · rw [ed_cb7] at h; exact br_f (by decide) (br_f (by decide) (br_f (by decide) (br_f (by decide) (br_t rfl h))))
  · rw [ed_cb8] at h; exact br_f (by decide) (br_f (by decide) (br_f (by decide) (br_f (by decide) (br_f (by decide) (br_t rfl (ed_leaf8 h))))))
  · rw [ed_cb9] at h; exact br_f (by decide) (br_f (by decide) (br_f (by decide) (br_f (by decide) (br_f (by decide) (br_f (by decide) (br_t rfl (ed_leaf9 h)))))))
  · rw [ed_cb10] at h; exact br_f (by decide) (br_f (by decide) (br_f (by decide) (br_f (by decide) (br_f (by decide) (br_f (by decide) (br_f (by decide) (br_t rfl (ed_leaf10 h))))))))
  · rw [ed_cb11] at h; exact br_f (by decide) (br_f (by decide) (br_f (by decide) (br_f (by decide) (br_f (by decide) (br_f (by decide) (br_f (by decide) (br_f (by decide) (br_t rfl (ed_leaf11 h)))))))))
  · rw [ed_cb13] at h; exact br_f (by decide) (br_t (by decide) (ed_leaf13 h))
theorem yb_res {post : Int32 → Prop} {k : Nat} {x y : Int32} (h5 : 5 ≤ k) (h13 : k ≤ 13) (h : post (ed_cb (nI k) x y)) : wpY_result post (fT, fL, fK, fW, fB, fH, fO, aT, aL, aQ, aE, aG, aKQ, aKE, aKG, aW, aS, aM, aV, aZ, aB) (nI k) x y := by
  have : k = 5 ∨ k = 6 ∨ k = 7 ∨ k = 8 ∨ k = 9 ∨ k = 10 ∨ k = 11 ∨ k = 12 ∨ k = 13 := by omega
  rcases this with rfl | rfl | rfl | rfl | rfl | rfl | rfl | rfl | rfl
  · rw [ed_cb5] at h; exact br_f (by decide) (br_f (by decide) (br_t rfl h))
  · rw [ed_cb6] at h; exact br_f (by decide) (br_f (by decide) (br_f (by decide) (br_t rfl h)))
  · rw [ed_cb7] at h; exact br_f (by decide) (br_f (by decide) (br_f (by decide) (br_f (by decide) (br_t rfl h))))
  · rw [ed_cb8] at h; exact br_f (by decide) (br_f (by decide) (br_f (by decide) (br_f (by decide) (br_f (by decide) (br_t rfl (ed_leaf8 h))))))
  · rw [ed_cb9] at h; exact br_f (by decide) (br_f (by decide) (br_f (by decide) (br_f (by decide) (br_f (by decide) (br_f (by decide) (br_t rfl (ed_leaf9 h)))))))
  · rw [ed_cb10] at h; exact br_f (by decide) (br_f (by decide) (br_f (by decide) (br_f (by decide) (br_f (by decide) (br_f (by decide) (br_f (by decide) (br_t rfl (ed_leaf10 h))))))))
  · rw [ed_cb11] at h; exact br_f (by decide) (br_f (by decide) (br_f (by decide) (br_f (by decide) (br_f (by decide) (br_f (by decide) (br_f (by decide) (br_f (by decide) (br_t rfl (ed_leaf11 h)))))))))
  · rw [ed_cb12] at h; exact br_f (by decide) (br_f (by decide) (br_f (by decide) (br_f (by decide) (br_f (by decide) (br_f (by decide) (br_f (by decide) (br_f (by decide) (br_f (by decide) (br_t rfl (ed_leaf12 h))))))))))
  · rw [ed_cb13] at h; exact br_f (by decide) (br_t (by decide) (ed_leaf13 h))
theorem xb_fresh {post : Int32 → Prop} {k e : Nat} {v x y : Int32} (hk : k ≤ 4) (he : e < 64) (h : post (ed_rs (nI k) v (xA e) (xB e) (xT e) (xC e) x y)) : wpX_freshValue post (xl, xw, xk, xP, xL, xF, xQ, xT, xA, xB, xC, xM, xG, kF, kQ, kT, kA, kB, kC, kM, kG, xS, xZ) (nI k) v (nI e) := by
  have ce : (nI e).toNatClampNeg = e := nI_clamp (by omega)
  have ve : vp_in (nI e) 64 := vp_in_nI he (by omega)
  have : k = 0 ∨ k = 1 ∨ k = 2 ∨ k = 3 ∨ k = 4 := by omega
  unfold wpX_freshValue
  dsimp only
  rw [ce]
  rcases this with rfl | rfl | rfl | rfl | rfl
  · rw [ed_rs0] at h; exact br_t (by decide) h
  · rw [ed_rs1] at h; exact br_f (by decide) (br_f (by decide) (br_t rfl ⟨ve, h⟩))
  · rw [ed_rs2] at h; exact br_f (by decide) (br_f (by decide) (br_f (by decide) (br_t rfl ⟨ve, h⟩)))
  · rw [ed_rs3] at h; exact br_f (by decide) (br_f (by decide) (br_f (by decide) (br_f (by decide) (br_t rfl ⟨ve, h⟩))))
  · rw [ed_rs4] at h; exact br_f (by decide) (br_f (by decide) (br_f (by decide) (br_f (by decide) (br_f (by decide) (br_t rfl ⟨ve, h⟩)))))
theorem xv_meets {post : Int32 → SX → Prop} {s w e : Nat} (hs : s < 6) (hw : w < 3) (he : e < 64) (hv : ed_cv xQ (99 * s + 24 + 25 * w)) (h : ∀ st, post (ed_bi (ed_me xQ (99 * s + 24 + 25 * w) (xA e) (xB e) (xT e) (xC e))) (xl, xw, xk, xP, xL, xF, xQ, xT, xA, xB, xC, xM, xG, kF, kQ, kT, kA, kB, kC, kM, kG, st, xZ)) : wpX_meets post (xl, xw, xk, xP, xL, xF, xQ, xT, xA, xB, xC, xM, xG, kF, kQ, kT, kA, kB, kC, kM, kG, xS, xZ) (nI s) (nI w) (nI e) := by
  obtain ⟨B, hB⟩ : ∃ B, B = 99 * s + 24 + 25 * w := ⟨_, rfl⟩
  rw [← hB] at hv h
  obtain ⟨n, en, hn, hg, hd⟩ := hv
  have eB : nI s * 99 + 24 + nI w * 25 = nI B := by
    rw [show nI s * 99 + 24 = nI (99 * s + 24) from ed_xi s 24, show nI w * 25 = nI (w * 25) from pk_mul w 25, nI_add]
    congr 1; omega
  have hme : ed_me xQ B (xA e) (xB e) (xT e) (xC e) ↔ ed_pe (fun i => xQ (B + 1 + i)) (fun i => xQ (B + 13 + i)) (xA e) (xB e) (xT e) (xC e) n 0 ≠ 0 := by
    unfold ed_me; rw [en, nI_clamp (by omega)]
  have key : ∀ (m i : Nat) (S : Nat → Int32), i + m = n → (∀ j, j < ed_dp (fun i => xQ (B + 1 + i)) i → S j = ed_pe (fun i => xQ (B + 1 + i)) (fun i => xQ (B + 13 + i)) (xA e) (xB e) (xT e) (xC e) i j) → wX_meets_29 post (nI e) (nI B) (nI n) xl xw xk (m + 1) (nI (ed_dp (fun i => xQ (B + 1 + i)) i)) (nI i) xP xL xF xQ xT xA xB xC xM xG kF kQ kT kA kB kC kM kG S xZ := by
    intro m
    induction m with
    | zero =>
      intro i S hi hS
      have e0 : i = n := by omega
      subst e0
      have z0 := hS 0 (by omega)
      refine br_t (nI_le (Nat.le_refl _) (by omega)) ?_
      by_cases z : S 0 = 0
      · have := h S
        rw [ed_bi_f (fun q => hme.mp q (z0.symm.trans z))] at this
        exact br_t z this
      · have := h S
        rw [ed_bi_t (hme.mpr (fun q => z (z0.trans q)))] at this
        exact br_f z this
    | succ m ih =>
      intro i S hi hS
      have dl := ed_dp_le (fun i => xQ (B + 1 + i)) i
      obtain ⟨⟨k, hk, ek⟩, ht⟩ := hg i (by omega)
      have e1 : nI B + 1 + nI i = nI (B + 1 + i) := by rw [nI_1, nI_add]
      have e13 : nI B + 13 + nI i = nI (B + 13 + i) := by rw [show nI B + 13 = nI (B + 13) from nI_add B 13, nI_add]
      have c1 : (nI B + 1 + nI i).toNatClampNeg = B + 1 + i := by rw [e1, nI_clamp (by omega)]
      have c13 : (nI B + 13 + nI i).toNatClampNeg = B + 13 + i := by rw [e13, nI_clamp (by omega)]
      have ek' : xQ (B + 1 + i) = nI k := ek
      have stp := ed_pe_s (o := fun i => xQ (B + 1 + i)) (v := fun i => xQ (B + 13 + i)) (S := S) (a := xA e) (b := xB e) (ty := xT e) (t := xC e) (i := i) ht hS rfl
      refine br_f (nI_ge (by omega) (by omega)) ⟨by rw [e1]; exact vp_in_nI (by omega) (by omega), nm_r (e' := nI k) (by rw [c1]; exact ek) (xb_taken ?_)⟩
      dsimp only at ht stp hS
      rw [ek'] at ht stp
      have nxt : ∀ r, r = ed_rs (nI k) (xQ (B + 13 + i)) (xA e) (xB e) (xT e) (xC e) (ed_pe (fun i => xQ (B + 1 + i)) (fun i => xQ (B + 13 + i)) (xA e) (xB e) (xT e) (xC e) i (ed_dp (fun i => xQ (B + 1 + i)) i - 2)) (ed_pe (fun i => xQ (B + 1 + i)) (fun i => xQ (B + 13 + i)) (xA e) (xB e) (xT e) (xC e) i (ed_dp (fun i => xQ (B + 1 + i)) i - 1)) → wX_meets_159 post (wX_meets_29 post (nI e) (nI B) (nI n) xl xw xk (m + 1)) (nI e) (nI B) (nI n) (nI (ed_dp (fun i => xQ (B + 1 + i)) i)) (nI i) (nI (ed_tk (nI k))) xl xw xk xP xL xF xQ xT xA xB xC xM xG kF kQ kT kA kB kC kM kG (upd S (ed_dp (fun i => xQ (B + 1 + i)) i - ed_tk (nI k)) r) xZ := by
        intro r hr
        subst hr
        refine nm_r (e' := nI (ed_dp (fun i => xQ (B + 1 + i)) (i + 1))) ?_ (nm_r (nI_1 i) (ih (i + 1) _ (by omega) stp))
        rw [ed_dp, ed_stp (by omega), ek']
      rcases Nat.lt_or_ge k 5 with k5 | k5
      · have t0 := ed_tk0 (k := k) (by omega)
        refine br_t (by rw [t0]; rfl) ⟨by rw [e13]; exact vp_in_nI (by omega) (by omega), ?_⟩
        rw [c13]
        refine xb_fresh (x := ed_pe (fun i => xQ (B + 1 + i)) (fun i => xQ (B + 13 + i)) (xA e) (xB e) (xT e) (xC e) i (ed_dp (fun i => xQ (B + 1 + i)) i - 2)) (y := ed_pe (fun i => xQ (B + 1 + i)) (fun i => xQ (B + 13 + i)) (xA e) (xB e) (xT e) (xC e) i (ed_dp (fun i => xQ (B + 1 + i)) i - 1)) (by omega) he ⟨vp_in_nI (by omega) (by omega), nm_e ?_⟩
        have := nxt _ rfl
        rw [nI_clamp (by omega)]
        rw [t0, Nat.sub_zero] at this
        rw [t0]
        exact this
      · rcases Nat.lt_or_ge (ed_dp (fun i => xQ (B + 1 + i)) i) 1 with d1 | d1
        · by_cases k12 : k = 12
          · subst k12; rw [ed_tk12] at ht; omega
          · rw [ed_tk2 k5 hk k12] at ht; omega
        have em1 : nI (ed_dp (fun i => xQ (B + 1 + i)) i) - 1 = nI (ed_dp (fun i => xQ (B + 1 + i)) i - 1) := pk_sub (b := 1) d1
        have cm1 : (nI (ed_dp (fun i => xQ (B + 1 + i)) i) - 1).toNatClampNeg = ed_dp (fun i => xQ (B + 1 + i)) i - 1 := by rw [em1, nI_clamp (by omega)]
        have vm1 : vp_in (nI (ed_dp (fun i => xQ (B + 1 + i)) i) - 1) 12 := by rw [em1]; exact vp_in_nI (by omega) (by omega)
        have s1 := hS (ed_dp (fun i => xQ (B + 1 + i)) i - 1) (by omega)
        by_cases k12 : k = 12
        · subst k12
          refine br_f (by rw [ed_tk12]; decide) (br_t (by rw [ed_tk12]; rfl) ⟨vm1, ?_⟩)
          rw [cm1]
          have nn := nxt
          rw [ed_tk12] at nn
          rw [ed_tk12]
          by_cases z : S (ed_dp (fun i => xQ (B + 1 + i)) i - 1) = 0
          · refine br_t z ⟨vm1, nm_e ?_⟩
            rw [cm1]
            refine nn 1 ?_
            rw [ed_rsc (by omega) (by omega), ed_cb12, if_pos (s1.symm.trans z)]
          · refine br_f z ⟨vm1, nm_e ?_⟩
            rw [cm1]
            refine nn 0 ?_
            rw [ed_rsc (by omega) (by omega), ed_cb12, if_neg (fun q => z (s1.trans q))]
        · have t2 := ed_tk2 k5 hk k12
          rw [t2] at ht
          have em2 : nI (ed_dp (fun i => xQ (B + 1 + i)) i) - 2 = nI (ed_dp (fun i => xQ (B + 1 + i)) i - 2) := pk_sub (b := 2) ht
          have cm2 : (nI (ed_dp (fun i => xQ (B + 1 + i)) i) - 2).toNatClampNeg = ed_dp (fun i => xQ (B + 1 + i)) i - 2 := by rw [em2, nI_clamp (by omega)]
          have vm2 : vp_in (nI (ed_dp (fun i => xQ (B + 1 + i)) i) - 2) 12 := by rw [em2]; exact vp_in_nI (by omega) (by omega)
          have s2 := hS (ed_dp (fun i => xQ (B + 1 + i)) i - 2) (by omega)
          have nn := nxt
          rw [t2] at nn
          rw [t2]
          refine br_f (by decide) (br_f (by decide) ⟨vm2, vm1, ?_⟩)
          rw [cm1, cm2]
          refine xb_comb k5 hk k12 ⟨vm2, nm_e (nn _ ?_)⟩
          rw [ed_rsc k5 hk, s1, s2]
  unfold wpX_meets
  dsimp only
  rw [eB]
  refine nm_e ⟨vp_in_nI (by omega) (by omega), nm_r (e' := nI n) (by rw [nI_clamp (by omega)]; exact en) ⟨n + 1, ?_⟩⟩
  exact key n 0 xS (by omega) (fun j hj => absurd hj (Nat.not_lt_zero _))
end
