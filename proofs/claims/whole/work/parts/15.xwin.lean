/-! X's window -/
theorem ed_m1lt {f : Nat} (h : f ≤ 64) : nI f + (-1) < nI f := by
  rcases Nat.eq_zero_or_pos f with z | z
  · subst z; decide
  · obtain ⟨g, rfl⟩ : ∃ g, f = g + 1 := ⟨f - 1, by omega⟩
    rw [pk_m1]; exact nI_lt (by omega) (by omega)
theorem ed_bz {m : Int32} {l : Nat} {P : Prop} (hl : l < 32) (h : bt m l = true ↔ P) : (m &&& ((1 : Int32) <<< (nI l &&& 31))) = 0 ↔ ¬ P := by
  rw [ed_bit m l hl, ← h]
  cases bt m l <;> simp
section
variable {xl xw xk : Int32} {xP xL xF xQ xT xA xB xC xM xG kF kQ kT kA kB kC kM kG xS xZ : Nat → Int32}
theorem xv_batch {post : Int32 → Prop} {s e f n l : Nat} {mem : Nat → Prop} (hs : s < 6) (he : e < 64) (hf : f ≤ e) (hl : l < 32) (n12 : xQ (99 * s + 12) = nI f) (n1 : xQ (99 * s + 1) = nI n) (hn1 : 1 ≤ n) (hn : n ≤ 100) (HB : ∀ i, f ≤ i → i ≤ e → (bt (xM i) l = true ↔ mem i)) (me : mem e) (h : post (ed_bi (ed_cn mem f (e + 1 - f) % n = 0))) : wpX_fillsBatch post (xl, xw, xk, xP, xL, xF, xQ, xT, xA, xB, xC, xM, xG, kF, kQ, kT, kA, kB, kC, kM, kG, xS, xZ) (nI s * 99) ((1 : Int32) <<< (nI l &&& 31)) (nI e) := by
  have w12 := ed_x s 12 hs (by omega)
  have w1 := ed_x s 1 hs (by omega)
  have c12 : (nI s * 99 + 12).toNatClampNeg = 99 * s + 12 := w12.2
  have c1 : (nI s * 99 + 1).toNatClampNeg = 99 * s + 1 := w1.2
  have key : ∀ m i x : Nat, i + m = e + 1 → f ≤ i → x ≤ n → x % n = ed_cn mem f (i - f) % n → (i = e + 1 → 1 ≤ x) → wX_fillsBatch_14 post (nI s * 99) ((1 : Int32) <<< (nI l &&& 31)) (nI e) xl xw xk xP xL xF xQ xT xA xB xC xM xG kF kQ kT kA kB kC kM kG xS xZ (m + 1) (nI x) (nI i) := by
    intro m
    induction m with
    | zero =>
      intro i x hi hfi hx hc h1
      have e0 : i = e + 1 := by omega
      subst e0
      have q := ed_batch hn1 (h1 rfl) hx hc
      refine br_t (nI_lt (by omega) (by omega)) ⟨w1.1, ?_⟩
      rw [c1, n1]
      by_cases z : x = n
      · rw [ed_bi_t (q.mp z)] at h
        exact br_t (by rw [z]) h
      · rw [ed_bi_f (fun y => z (q.mpr y))] at h
        exact br_f (fun y => z ((nI_eq (by omega) (by omega)).mp y)) h
    | succ m ih =>
      intro i x hi hfi hx hc h1
      have ci : (nI i).toNatClampNeg = i := nI_clamp (by omega)
      have ec : ed_cn mem f (i + 1 - f) = ed_cn mem f (i - f) + ed_b (mem i) := by
        rw [show i + 1 - f = (i - f) + 1 by omega, ed_cn, show f + (i - f) = i by omega]
      have st : ∀ y : Nat, y < n → y % n = x % n → wX_fillsBatch_36 post (wX_fillsBatch_14 post (nI s * 99) ((1 : Int32) <<< (nI l &&& 31)) (nI e) xl xw xk xP xL xF xQ xT xA xB xC xM xG kF kQ kT kA kB kC kM kG xS xZ (m + 1)) (nI s * 99) ((1 : Int32) <<< (nI l &&& 31)) (nI e) (nI y) (nI i) xl xw xk xP xL xF xQ xT xA xB xC xM xG kF kQ kT kA kB kC kM kG xS xZ := by
        intro y hy hyx
        refine ⟨vp_in_nI (by omega) (by omega), ?_⟩
        rw [ci]
        rcases Classical.em (mem i) with z | z
        · refine br_f (fun q => (ed_bz hl (HB i hfi (by omega))).mp q z) (nm_r (nI_1 y) (nm_r (nI_1 i) (ih (i + 1) (y + 1) (by omega) (by omega) (by omega) ?_ (fun _ => by omega))))
          rw [ec, ed_bt z, Nat.add_mod, hyx, hc, ← Nat.add_mod]
        · refine br_t ((ed_bz hl (HB i hfi (by omega))).mpr z) (nm_r (nI_1 i) (ih (i + 1) y (by omega) (by omega) (by omega) ?_ (fun q => ?_)))
          · rw [ec, ed_bf z, Nat.add_zero, hyx, hc]
          · have : i = e := by omega
            subst this
            exact absurd me z
      refine br_f (nI_nlt (by omega) (by omega)) ⟨w1.1, ?_⟩
      rw [c1, n1]
      by_cases z : x = n
      · exact br_t (by rw [z]) (st 0 (by omega) (by rw [z, Nat.mod_self, Nat.zero_mod]))
      · exact br_f (fun y => z ((nI_eq (by omega) (by omega)).mp y)) (st x (by omega) rfl)
  refine ⟨w12.1, nm_r (e' := nI f) (by rw [c12]; exact n12) ⟨e + 1 - f + 1, ?_⟩⟩
  exact key (e + 1 - f) f 0 (by omega) (Nat.le_refl _) (by omega) (by rw [Nat.sub_self]; rfl) (fun q => by omega)
theorem xv_before {post : Int32 → Prop} {s e i kind : Nat} {N : Int32} {mem : Nat → Prop} (hs : s < 6) (he : e < 64) (hi : i ≤ e) (n1 : xQ (99 * s + 1) = N) (n3 : xQ (99 * s + 3) = nI kind) (hk : kind ≤ 5) (h0 : ed_cd mem xC kind N e i → post 0) (h1 : ¬ ed_cd mem xC kind N e i → post 1) : wpX_isBeforeView post (xl, xw, xk, xP, xL, xF, xQ, xT, xA, xB, xC, xM, xG, kF, kQ, kT, kA, kB, kC, kM, kG, xS, xZ) (nI s * 99) (nI i) (nI (ed_nx mem e (e - i))) (nI e) (nI (ed_cn mem (i + 1) (e - i))) := by
  have w3 := ed_x s 3 hs (by omega)
  have w1 := ed_x s 1 hs (by omega)
  have c3 : (nI s * 99 + 3).toNatClampNeg = 99 * s + 3 := w3.2
  have c1 : (nI s * 99 + 1).toNatClampNeg = 99 * s + 1 := w1.2
  have nl := ed_nx_le mem e (e - i)
  have ci : (nI i).toNatClampNeg = i := nI_clamp (by omega)
  have ce : (nI e).toNatClampNeg = e := nI_clamp (by omega)
  have cn : (nI (ed_nx mem e (e - i))).toNatClampNeg = ed_nx mem e (e - i) := nI_clamp (by omega)
  have vi : vp_in (nI i) 64 := vp_in_nI (by omega) (by omega)
  have ve : vp_in (nI e) 64 := vp_in_nI (by omega) (by omega)
  have vn : vp_in (nI (ed_nx mem e (e - i))) 64 := vp_in_nI (by omega) (by omega)
  refine ⟨w1.1, nm_r (e' := N) (by rw [c1]; exact n1) ⟨w3.1, nm_r (e' := nI kind) (by rw [c3]; exact n3) ?_⟩⟩
  rw [ci, ce, cn]
  unfold ed_cd at h0 h1
  have : kind = 0 ∨ kind = 1 ∨ kind = 2 ∨ kind = 3 ∨ kind = 4 ∨ kind = 5 := by omega
  rcases this with rfl | rfl | rfl | rfl | rfl | rfl
  · exact br_t (by decide) (h0 ⟨fun q => by omega, fun q => by omega, fun q => by omega⟩)
  · refine br_f (by decide) (br_f (by decide) (br_t rfl ?_))
    by_cases z : nI (ed_cn mem (i + 1) (e - i)) < N
    · exact br_t z (h0 ⟨fun _ => z, fun q => by omega, fun q => by omega⟩)
    · exact br_f z (h1 (fun q => z (q.1 (Or.inl rfl))))
  · refine br_f (by decide) (br_f (by decide) (br_f (by decide) (br_t rfl ⟨ve, vi, ?_⟩)))
    by_cases z : xC e - xC i < N
    · exact br_t z (h0 ⟨fun q => by omega, fun _ => z, fun q => by omega⟩)
    · exact br_f z (h1 (fun q => z (q.2.1 rfl)))
  · refine br_f (by decide) (br_f (by decide) (br_f (by decide) (br_f (by decide) (br_t rfl ?_))))
    by_cases z : nI (ed_cn mem (i + 1) (e - i)) < N
    · exact br_t z (h0 ⟨fun _ => z, fun q => by omega, fun q => by omega⟩)
    · exact br_f z (h1 (fun q => z (q.1 (Or.inr rfl))))
  · exact br_f (by decide) (br_f (by decide) (br_f (by decide) (br_f (by decide) (br_f (by decide) (br_t rfl (h0 ⟨fun q => by omega, fun q => by omega, fun q => by omega⟩))))))
  · refine br_f (by decide) (br_f (by decide) (br_f (by decide) (br_f (by decide) (br_f (by decide) (br_f (by decide) (br_t rfl ⟨vn, vi, ?_⟩))))))
    by_cases z : xC (ed_nx mem e (e - i)) - xC i < N
    · exact br_t z (h0 ⟨fun q => by omega, fun q => by omega, fun _ => z⟩)
    · exact br_f z (h1 (fun q => z (q.2.2 rfl)))
theorem xv_later {post : Int32 → Prop} {e f i l : Nat} {mem : Nat → Prop} (he : e < 64) (hi : i ≤ e) (hfi : f ≤ i) (hl : l < 32) (HB : ∀ i, f ≤ i → i ≤ e → (bt (xM i) l = true ↔ mem i)) (h0 : (∀ j, i < j → j ≤ e → mem j → xA j ≠ xA i) → post 0) (h1 : ¬ (∀ j, i < j → j ≤ e → mem j → xA j ≠ xA i) → post 1) : wpX_hasLaterWithSameA post (xl, xw, xk, xP, xL, xF, xQ, xT, xA, xB, xC, xM, xG, kF, kQ, kT, kA, kB, kC, kM, kG, xS, xZ) ((1 : Int32) <<< (nI l &&& 31)) (nI i) (nI e) := by
  have ci : (nI i).toNatClampNeg = i := nI_clamp (by omega)
  have key : ∀ m k : Nat, k + m = e + 1 → i < k → (∀ j, i < j → j < k → mem j → xA j ≠ xA i) → wX_hasLaterWithSameA_5 post ((1 : Int32) <<< (nI l &&& 31)) (nI i) (nI e) xl xw xk xP xL xF xQ xT xA xB xC xM xG kF kQ kT kA kB kC kM kG xS xZ (m + 1) (nI k) := by
    intro m
    induction m with
    | zero =>
      intro k hk hik g
      exact br_t (nI_lt (by omega) (by omega)) (h0 (fun j a b => g j a (by omega)))
    | succ m ih =>
      intro k hk hik g
      have ck : (nI k).toNatClampNeg = k := nI_clamp (by omega)
      have vk : vp_in (nI k) 64 := vp_in_nI (by omega) (by omega)
      refine br_f (nI_nlt (by omega) (by omega)) ⟨vk, ?_⟩
      rw [ck, ci]
      rcases Classical.em (mem k) with z | z
      · refine br_f (fun q => (ed_bz hl (HB k (by omega) (by omega))).mp q z) ⟨vk, vp_in_nI (by omega) (by omega), ?_⟩
        by_cases za : xA k = xA i
        · exact br_t za (h1 (fun q => q k hik (by omega) z za))
        · refine br_f za (nm_r (nI_1 k) (ih (k + 1) (by omega) (by omega) (fun j a b c => ?_)))
          by_cases e0 : j = k
          · subst e0; exact za
          · exact g j a (by omega) c
      · refine br_t ((ed_bz hl (HB k (by omega) (by omega))).mpr z) (nm_r (nI_1 k) (ih (k + 1) (by omega) (by omega) (fun j a b c => ?_)))
        by_cases e0 : j = k
        · subst e0; exact absurd c z
        · exact g j a (by omega) c
  exact nm_r (nI_1 i) ⟨e - i + 1, key (e - i) (i + 1) (by omega) (by omega) (fun j a b => by omega)⟩
theorem xv_ins {post : SX → Prop} {v : Int32} {n : Nat} {L : List Int32} (hn : n < 64) (hZ : ed_st xZ n L) (h : ∀ Z, ed_st Z (n + 1) (v :: L) → post (xl, xw, xk, xP, xL, xF, xQ, xT, xA, xB, xC, xM, xG, kF, kQ, kT, kA, kB, kC, kM, kG, xS, Z)) : wpX_insertSorted post (xl, xw, xk, xP, xL, xF, xQ, xT, xA, xB, xC, xM, xG, kF, kQ, kT, kA, kB, kC, kM, kG, xS, xZ) v (nI n) := by
  have key : ∀ (p : Nat) (Z : Nat → Int32), p ≤ n → (∀ j, j < p → Z j = xZ j) → (∀ j, p ≤ j → j < n → Z (j + 1) = xZ j) → (∀ j, p ≤ j → j < n → v ≤ xZ j) → wX_insertSorted_2 post v xl xw xk (p + 1) (nI p) xP xL xF xQ xT xA xB xC xM xG kF kQ kT kA kB kC kM kG xS Z := by
    intro p
    induction p with
    | zero =>
      intro Z hp h1 h2 h3
      refine br_t (by decide) ⟨vp_in_nI (n := 0) (by omega) (by omega), nm_r (e' := upd Z 0 v) rfl (h _ ?_)⟩
      exact ed_st_ins (p := 0) hZ (by omega) (fun j hj => absurd hj (Nat.not_lt_zero _)) h3 (fun j hj => absurd hj (Nat.not_lt_zero _)) pk_us (fun j a b => by rw [pk_un (by omega)]; exact h2 j a b)
    | succ p ih =>
      intro Z hp h1 h2 h3
      have e1 : nI (p + 1) - 1 = nI p := nI_pred p
      have c1 : (nI (p + 1) - 1).toNatClampNeg = p := by rw [e1, nI_clamp (by omega)]
      have v1 : vp_in (nI (p + 1) - 1) 64 := by rw [e1]; exact vp_in_nI (by omega) (by omega)
      have v2 : vp_in (nI (p + 1)) 64 := vp_in_nI (by omega) (by omega)
      have c2 : (nI (p + 1)).toNatClampNeg = p + 1 := nI_clamp (by omega)
      refine br_f (nI_nle (by omega) (by omega)) ⟨v1, ?_⟩
      rw [c1]
      by_cases z : Z p ≤ v
      · have z' : xZ p ≤ v := by rw [← h1 p (by omega)]; exact z
        refine br_t z ⟨v2, nm_r (e' := upd Z (p + 1) v) (by rw [c2]) (h _ ?_)⟩
        refine ed_st_ins (p := p + 1) hZ hp (fun j hj => ?_) h3 (fun j hj => by rw [pk_un (by omega)]; exact h1 j hj) pk_us (fun j a b => by rw [pk_un (by omega)]; exact h2 j a b)
        by_cases e0 : j = p
        · subst e0; exact z'
        · exact Int32.le_trans (hZ.1 j p (by omega) (by omega)) z'
      · have z' : v ≤ xZ p := by rw [← h1 p (by omega)]; exact Int32.le_of_lt (Int32.not_le.mp z)
        refine br_f z ⟨v1, v2, nm_r (e' := upd Z (p + 1) (Z p)) (by rw [c2]) (nm_r (pk_m1 p) (ih _ (by omega) (fun j hj => ?_) (fun j a b => ?_) (fun j a b => ?_)))⟩
        · rw [pk_un (by omega)]; exact h1 j (by omega)
        · by_cases e0 : j = p
          · subst e0; rw [pk_us]; exact h1 j (by omega)
          · rw [pk_un (by omega)]; exact h2 j (by omega) b
        · by_cases e0 : j = p
          · subst e0; exact z'
          · exact h3 j (by omega) b
  exact ⟨n + 1, key n xZ (Nat.le_refl _) (fun _ _ => rfl) (fun j a b => by omega) (fun j a b => by omega)⟩
end
