/-! copying -/
section
variable {xl xw xk : Int32} {xP xL xF xQ xT xA xB xC xM xG kF kQ kT kA kB kC kM kG xS xZ : Nat → Int32}
theorem xc_program_list {post : SX → Prop} {p q c : Nat} (hp : p + c ≤ 25) (hq : q + c ≤ 75) (h : ∀ d : Nat → Int32, (∀ j, j < c → d (q + j) = xP (p + j)) → (∀ j, j < q ∨ q + c ≤ j → d j = xL j) → post (xl, xw, xk, xP, d, xF, xQ, xT, xA, xB, xC, xM, xG, kF, kQ, kT, kA, kB, kC, kM, kG, xS, xZ)) : wpX_copy__program_list post (xl, xw, xk, xP, xL, xF, xQ, xT, xA, xB, xC, xM, xG, kF, kQ, kT, kA, kB, kC, kM, kG, xS, xZ) (nI p) (nI q) (nI c) := by
  have key : ∀ (m i : Nat) (d : Nat → Int32), i + m = c → (∀ j, j < i → d (q + j) = xP (p + j)) → (∀ j, j < q ∨ q + i ≤ j → d j = xL j) → wX_copy__program_list_3 post (nI p) (nI q) (nI c) xl xw xk (m + 1) (nI i) xP d xF xQ xT xA xB xC xM xG kF kQ kT kA kB kC kM kG xS xZ := by
    intro m
    induction m with
    | zero =>
      intro i d hi h1 h2
      have e : i = c := by omega
      subst e
      exact br_t (nI_le (Nat.le_refl _) (by omega)) (h d h1 h2)
    | succ m ih =>
      intro i d hi h1 h2
      have ep : (nI p + nI i).toNatClampNeg = p + i := by rw [nI_add, nI_clamp (by omega)]
      have eq : (nI q + nI i).toNatClampNeg = q + i := by rw [nI_add, nI_clamp (by omega)]
      refine br_f (nI_ge (by omega) (by omega)) ⟨by rw [nI_add]; exact vp_in_nI (by omega) (by omega), by rw [nI_add]; exact vp_in_nI (by omega) (by omega), nm_r (e' := upd d (q + i) (xP (p + i))) (by rw [ep, eq]) (nm_r (nI_1 i) (ih (i + 1) _ (by omega) ?_ ?_))⟩
      · intro j hj
        by_cases e : j = i
        · subst e; rw [pk_us]
        · rw [pk_un (by omega)]; exact h1 j (by omega)
      · intro j hj
        rw [pk_un (by omega)]; exact h2 j (by omega)
  exact ⟨c + 1, key c 0 xL (by omega) (fun j hj => absurd hj (Nat.not_lt_zero _)) (fun _ _ => rfl)⟩
theorem xc_list_questions {post : SX → Prop} {p q c : Nat} (hp : p + c ≤ 75) (hq : q + c ≤ 594) (h : ∀ d : Nat → Int32, (∀ j, j < c → d (q + j) = xL (p + j)) → (∀ j, j < q ∨ q + c ≤ j → d j = xQ j) → post (xl, xw, xk, xP, xL, xF, d, xT, xA, xB, xC, xM, xG, kF, kQ, kT, kA, kB, kC, kM, kG, xS, xZ)) : wpX_copy__list_questions post (xl, xw, xk, xP, xL, xF, xQ, xT, xA, xB, xC, xM, xG, kF, kQ, kT, kA, kB, kC, kM, kG, xS, xZ) (nI p) (nI q) (nI c) := by
  have key : ∀ (m i : Nat) (d : Nat → Int32), i + m = c → (∀ j, j < i → d (q + j) = xL (p + j)) → (∀ j, j < q ∨ q + i ≤ j → d j = xQ j) → wX_copy__list_questions_3 post (nI p) (nI q) (nI c) xl xw xk (m + 1) (nI i) xP xL xF d xT xA xB xC xM xG kF kQ kT kA kB kC kM kG xS xZ := by
    intro m
    induction m with
    | zero =>
      intro i d hi h1 h2
      have e : i = c := by omega
      subst e
      exact br_t (nI_le (Nat.le_refl _) (by omega)) (h d h1 h2)
    | succ m ih =>
      intro i d hi h1 h2
      have ep : (nI p + nI i).toNatClampNeg = p + i := by rw [nI_add, nI_clamp (by omega)]
      have eq : (nI q + nI i).toNatClampNeg = q + i := by rw [nI_add, nI_clamp (by omega)]
      refine br_f (nI_ge (by omega) (by omega)) ⟨by rw [nI_add]; exact vp_in_nI (by omega) (by omega), by rw [nI_add]; exact vp_in_nI (by omega) (by omega), nm_r (e' := upd d (q + i) (xL (p + i))) (by rw [ep, eq]) (nm_r (nI_1 i) (ih (i + 1) _ (by omega) ?_ ?_))⟩
      · intro j hj
        by_cases e : j = i
        · subst e; rw [pk_us]
        · rw [pk_un (by omega)]; exact h1 j (by omega)
      · intro j hj
        rw [pk_un (by omega)]; exact h2 j (by omega)
  exact ⟨c + 1, key c 0 xQ (by omega) (fun j hj => absurd hj (Nat.not_lt_zero _)) (fun _ _ => rfl)⟩
theorem xc_figures_keptFigures {post : SX → Prop} {p q c : Nat} (hp : p + c ≤ 4) (hq : q + c ≤ 4) (h : ∀ d : Nat → Int32, (∀ j, j < c → d (q + j) = xF (p + j)) → (∀ j, j < q ∨ q + c ≤ j → d j = kF j) → post (xl, xw, xk, xP, xL, xF, xQ, xT, xA, xB, xC, xM, xG, d, kQ, kT, kA, kB, kC, kM, kG, xS, xZ)) : wpX_copy__figures_keptFigures post (xl, xw, xk, xP, xL, xF, xQ, xT, xA, xB, xC, xM, xG, kF, kQ, kT, kA, kB, kC, kM, kG, xS, xZ) (nI p) (nI q) (nI c) := by
  have key : ∀ (m i : Nat) (d : Nat → Int32), i + m = c → (∀ j, j < i → d (q + j) = xF (p + j)) → (∀ j, j < q ∨ q + i ≤ j → d j = kF j) → wX_copy__figures_keptFigures_3 post (nI p) (nI q) (nI c) xl xw xk (m + 1) (nI i) xP xL xF xQ xT xA xB xC xM xG d kQ kT kA kB kC kM kG xS xZ := by
    intro m
    induction m with
    | zero =>
      intro i d hi h1 h2
      have e : i = c := by omega
      subst e
      exact br_t (nI_le (Nat.le_refl _) (by omega)) (h d h1 h2)
    | succ m ih =>
      intro i d hi h1 h2
      have ep : (nI p + nI i).toNatClampNeg = p + i := by rw [nI_add, nI_clamp (by omega)]
      have eq : (nI q + nI i).toNatClampNeg = q + i := by rw [nI_add, nI_clamp (by omega)]
      refine br_f (nI_ge (by omega) (by omega)) ⟨by rw [nI_add]; exact vp_in_nI (by omega) (by omega), by rw [nI_add]; exact vp_in_nI (by omega) (by omega), nm_r (e' := upd d (q + i) (xF (p + i))) (by rw [ep, eq]) (nm_r (nI_1 i) (ih (i + 1) _ (by omega) ?_ ?_))⟩
      · intro j hj
        by_cases e : j = i
        · subst e; rw [pk_us]
        · rw [pk_un (by omega)]; exact h1 j (by omega)
      · intro j hj
        rw [pk_un (by omega)]; exact h2 j (by omega)
  exact ⟨c + 1, key c 0 kF (by omega) (fun j hj => absurd hj (Nat.not_lt_zero _)) (fun _ _ => rfl)⟩
theorem xc_questions_keptQuestions {post : SX → Prop} {p q c : Nat} (hp : p + c ≤ 594) (hq : q + c ≤ 594) (h : ∀ d : Nat → Int32, (∀ j, j < c → d (q + j) = xQ (p + j)) → (∀ j, j < q ∨ q + c ≤ j → d j = kQ j) → post (xl, xw, xk, xP, xL, xF, xQ, xT, xA, xB, xC, xM, xG, kF, d, kT, kA, kB, kC, kM, kG, xS, xZ)) : wpX_copy__questions_keptQuestions post (xl, xw, xk, xP, xL, xF, xQ, xT, xA, xB, xC, xM, xG, kF, kQ, kT, kA, kB, kC, kM, kG, xS, xZ) (nI p) (nI q) (nI c) := by
  have key : ∀ (m i : Nat) (d : Nat → Int32), i + m = c → (∀ j, j < i → d (q + j) = xQ (p + j)) → (∀ j, j < q ∨ q + i ≤ j → d j = kQ j) → wX_copy__questions_keptQuestions_3 post (nI p) (nI q) (nI c) xl xw xk (m + 1) (nI i) xP xL xF xQ xT xA xB xC xM xG kF d kT kA kB kC kM kG xS xZ := by
    intro m
    induction m with
    | zero =>
      intro i d hi h1 h2
      have e : i = c := by omega
      subst e
      exact br_t (nI_le (Nat.le_refl _) (by omega)) (h d h1 h2)
    | succ m ih =>
      intro i d hi h1 h2
      have ep : (nI p + nI i).toNatClampNeg = p + i := by rw [nI_add, nI_clamp (by omega)]
      have eq : (nI q + nI i).toNatClampNeg = q + i := by rw [nI_add, nI_clamp (by omega)]
      refine br_f (nI_ge (by omega) (by omega)) ⟨by rw [nI_add]; exact vp_in_nI (by omega) (by omega), by rw [nI_add]; exact vp_in_nI (by omega) (by omega), nm_r (e' := upd d (q + i) (xQ (p + i))) (by rw [ep, eq]) (nm_r (nI_1 i) (ih (i + 1) _ (by omega) ?_ ?_))⟩
      · intro j hj
        by_cases e : j = i
        · subst e; rw [pk_us]
        · rw [pk_un (by omega)]; exact h1 j (by omega)
      · intro j hj
        rw [pk_un (by omega)]; exact h2 j (by omega)
  exact ⟨c + 1, key c 0 kQ (by omega) (fun j hj => absurd hj (Nat.not_lt_zero _)) (fun _ _ => rfl)⟩
theorem xc_eventType_keptType {post : SX → Prop} {p q c : Nat} (hp : p + c ≤ 64) (hq : q + c ≤ 64) (h : ∀ d : Nat → Int32, (∀ j, j < c → d (q + j) = xT (p + j)) → (∀ j, j < q ∨ q + c ≤ j → d j = kT j) → post (xl, xw, xk, xP, xL, xF, xQ, xT, xA, xB, xC, xM, xG, kF, kQ, d, kA, kB, kC, kM, kG, xS, xZ)) : wpX_copy__eventType_keptType post (xl, xw, xk, xP, xL, xF, xQ, xT, xA, xB, xC, xM, xG, kF, kQ, kT, kA, kB, kC, kM, kG, xS, xZ) (nI p) (nI q) (nI c) := by
  have key : ∀ (m i : Nat) (d : Nat → Int32), i + m = c → (∀ j, j < i → d (q + j) = xT (p + j)) → (∀ j, j < q ∨ q + i ≤ j → d j = kT j) → wX_copy__eventType_keptType_3 post (nI p) (nI q) (nI c) xl xw xk (m + 1) (nI i) xP xL xF xQ xT xA xB xC xM xG kF kQ d kA kB kC kM kG xS xZ := by
    intro m
    induction m with
    | zero =>
      intro i d hi h1 h2
      have e : i = c := by omega
      subst e
      exact br_t (nI_le (Nat.le_refl _) (by omega)) (h d h1 h2)
    | succ m ih =>
      intro i d hi h1 h2
      have ep : (nI p + nI i).toNatClampNeg = p + i := by rw [nI_add, nI_clamp (by omega)]
      have eq : (nI q + nI i).toNatClampNeg = q + i := by rw [nI_add, nI_clamp (by omega)]
      refine br_f (nI_ge (by omega) (by omega)) ⟨by rw [nI_add]; exact vp_in_nI (by omega) (by omega), by rw [nI_add]; exact vp_in_nI (by omega) (by omega), nm_r (e' := upd d (q + i) (xT (p + i))) (by rw [ep, eq]) (nm_r (nI_1 i) (ih (i + 1) _ (by omega) ?_ ?_))⟩
      · intro j hj
        by_cases e : j = i
        · subst e; rw [pk_us]
        · rw [pk_un (by omega)]; exact h1 j (by omega)
      · intro j hj
        rw [pk_un (by omega)]; exact h2 j (by omega)
  exact ⟨c + 1, key c 0 kT (by omega) (fun j hj => absurd hj (Nat.not_lt_zero _)) (fun _ _ => rfl)⟩
theorem xc_eventA_keptA {post : SX → Prop} {p q c : Nat} (hp : p + c ≤ 64) (hq : q + c ≤ 64) (h : ∀ d : Nat → Int32, (∀ j, j < c → d (q + j) = xA (p + j)) → (∀ j, j < q ∨ q + c ≤ j → d j = kA j) → post (xl, xw, xk, xP, xL, xF, xQ, xT, xA, xB, xC, xM, xG, kF, kQ, kT, d, kB, kC, kM, kG, xS, xZ)) : wpX_copy__eventA_keptA post (xl, xw, xk, xP, xL, xF, xQ, xT, xA, xB, xC, xM, xG, kF, kQ, kT, kA, kB, kC, kM, kG, xS, xZ) (nI p) (nI q) (nI c) := by
  have key : ∀ (m i : Nat) (d : Nat → Int32), i + m = c → (∀ j, j < i → d (q + j) = xA (p + j)) → (∀ j, j < q ∨ q + i ≤ j → d j = kA j) → wX_copy__eventA_keptA_3 post (nI p) (nI q) (nI c) xl xw xk (m + 1) (nI i) xP xL xF xQ xT xA xB xC xM xG kF kQ kT d kB kC kM kG xS xZ := by
    intro m
    induction m with
    | zero =>
      intro i d hi h1 h2
      have e : i = c := by omega
      subst e
      exact br_t (nI_le (Nat.le_refl _) (by omega)) (h d h1 h2)
    | succ m ih =>
      intro i d hi h1 h2
      have ep : (nI p + nI i).toNatClampNeg = p + i := by rw [nI_add, nI_clamp (by omega)]
      have eq : (nI q + nI i).toNatClampNeg = q + i := by rw [nI_add, nI_clamp (by omega)]
      refine br_f (nI_ge (by omega) (by omega)) ⟨by rw [nI_add]; exact vp_in_nI (by omega) (by omega), by rw [nI_add]; exact vp_in_nI (by omega) (by omega), nm_r (e' := upd d (q + i) (xA (p + i))) (by rw [ep, eq]) (nm_r (nI_1 i) (ih (i + 1) _ (by omega) ?_ ?_))⟩
      · intro j hj
        by_cases e : j = i
        · subst e; rw [pk_us]
        · rw [pk_un (by omega)]; exact h1 j (by omega)
      · intro j hj
        rw [pk_un (by omega)]; exact h2 j (by omega)
  exact ⟨c + 1, key c 0 kA (by omega) (fun j hj => absurd hj (Nat.not_lt_zero _)) (fun _ _ => rfl)⟩
theorem xc_eventB_keptB {post : SX → Prop} {p q c : Nat} (hp : p + c ≤ 64) (hq : q + c ≤ 64) (h : ∀ d : Nat → Int32, (∀ j, j < c → d (q + j) = xB (p + j)) → (∀ j, j < q ∨ q + c ≤ j → d j = kB j) → post (xl, xw, xk, xP, xL, xF, xQ, xT, xA, xB, xC, xM, xG, kF, kQ, kT, kA, d, kC, kM, kG, xS, xZ)) : wpX_copy__eventB_keptB post (xl, xw, xk, xP, xL, xF, xQ, xT, xA, xB, xC, xM, xG, kF, kQ, kT, kA, kB, kC, kM, kG, xS, xZ) (nI p) (nI q) (nI c) := by
  have key : ∀ (m i : Nat) (d : Nat → Int32), i + m = c → (∀ j, j < i → d (q + j) = xB (p + j)) → (∀ j, j < q ∨ q + i ≤ j → d j = kB j) → wX_copy__eventB_keptB_3 post (nI p) (nI q) (nI c) xl xw xk (m + 1) (nI i) xP xL xF xQ xT xA xB xC xM xG kF kQ kT kA d kC kM kG xS xZ := by
    intro m
    induction m with
    | zero =>
      intro i d hi h1 h2
      have e : i = c := by omega
      subst e
      exact br_t (nI_le (Nat.le_refl _) (by omega)) (h d h1 h2)
    | succ m ih =>
      intro i d hi h1 h2
      have ep : (nI p + nI i).toNatClampNeg = p + i := by rw [nI_add, nI_clamp (by omega)]
      have eq : (nI q + nI i).toNatClampNeg = q + i := by rw [nI_add, nI_clamp (by omega)]
      refine br_f (nI_ge (by omega) (by omega)) ⟨by rw [nI_add]; exact vp_in_nI (by omega) (by omega), by rw [nI_add]; exact vp_in_nI (by omega) (by omega), nm_r (e' := upd d (q + i) (xB (p + i))) (by rw [ep, eq]) (nm_r (nI_1 i) (ih (i + 1) _ (by omega) ?_ ?_))⟩
      · intro j hj
        by_cases e : j = i
        · subst e; rw [pk_us]
        · rw [pk_un (by omega)]; exact h1 j (by omega)
      · intro j hj
        rw [pk_un (by omega)]; exact h2 j (by omega)
  exact ⟨c + 1, key c 0 kB (by omega) (fun j hj => absurd hj (Nat.not_lt_zero _)) (fun _ _ => rfl)⟩
theorem xc_eventTime_keptTime {post : SX → Prop} {p q c : Nat} (hp : p + c ≤ 64) (hq : q + c ≤ 64) (h : ∀ d : Nat → Int32, (∀ j, j < c → d (q + j) = xC (p + j)) → (∀ j, j < q ∨ q + c ≤ j → d j = kC j) → post (xl, xw, xk, xP, xL, xF, xQ, xT, xA, xB, xC, xM, xG, kF, kQ, kT, kA, kB, d, kM, kG, xS, xZ)) : wpX_copy__eventTime_keptTime post (xl, xw, xk, xP, xL, xF, xQ, xT, xA, xB, xC, xM, xG, kF, kQ, kT, kA, kB, kC, kM, kG, xS, xZ) (nI p) (nI q) (nI c) := by
  have key : ∀ (m i : Nat) (d : Nat → Int32), i + m = c → (∀ j, j < i → d (q + j) = xC (p + j)) → (∀ j, j < q ∨ q + i ≤ j → d j = kC j) → wX_copy__eventTime_keptTime_3 post (nI p) (nI q) (nI c) xl xw xk (m + 1) (nI i) xP xL xF xQ xT xA xB xC xM xG kF kQ kT kA kB d kM kG xS xZ := by
    intro m
    induction m with
    | zero =>
      intro i d hi h1 h2
      have e : i = c := by omega
      subst e
      exact br_t (nI_le (Nat.le_refl _) (by omega)) (h d h1 h2)
    | succ m ih =>
      intro i d hi h1 h2
      have ep : (nI p + nI i).toNatClampNeg = p + i := by rw [nI_add, nI_clamp (by omega)]
      have eq : (nI q + nI i).toNatClampNeg = q + i := by rw [nI_add, nI_clamp (by omega)]
      refine br_f (nI_ge (by omega) (by omega)) ⟨by rw [nI_add]; exact vp_in_nI (by omega) (by omega), by rw [nI_add]; exact vp_in_nI (by omega) (by omega), nm_r (e' := upd d (q + i) (xC (p + i))) (by rw [ep, eq]) (nm_r (nI_1 i) (ih (i + 1) _ (by omega) ?_ ?_))⟩
      · intro j hj
        by_cases e : j = i
        · subst e; rw [pk_us]
        · rw [pk_un (by omega)]; exact h1 j (by omega)
      · intro j hj
        rw [pk_un (by omega)]; exact h2 j (by omega)
  exact ⟨c + 1, key c 0 kC (by omega) (fun j hj => absurd hj (Nat.not_lt_zero _)) (fun _ _ => rfl)⟩
theorem xc_eventMet_keptMet {post : SX → Prop} {p q c : Nat} (hp : p + c ≤ 64) (hq : q + c ≤ 64) (h : ∀ d : Nat → Int32, (∀ j, j < c → d (q + j) = xM (p + j)) → (∀ j, j < q ∨ q + c ≤ j → d j = kM j) → post (xl, xw, xk, xP, xL, xF, xQ, xT, xA, xB, xC, xM, xG, kF, kQ, kT, kA, kB, kC, d, kG, xS, xZ)) : wpX_copy__eventMet_keptMet post (xl, xw, xk, xP, xL, xF, xQ, xT, xA, xB, xC, xM, xG, kF, kQ, kT, kA, kB, kC, kM, kG, xS, xZ) (nI p) (nI q) (nI c) := by
  have key : ∀ (m i : Nat) (d : Nat → Int32), i + m = c → (∀ j, j < i → d (q + j) = xM (p + j)) → (∀ j, j < q ∨ q + i ≤ j → d j = kM j) → wX_copy__eventMet_keptMet_3 post (nI p) (nI q) (nI c) xl xw xk (m + 1) (nI i) xP xL xF xQ xT xA xB xC xM xG kF kQ kT kA kB kC d kG xS xZ := by
    intro m
    induction m with
    | zero =>
      intro i d hi h1 h2
      have e : i = c := by omega
      subst e
      exact br_t (nI_le (Nat.le_refl _) (by omega)) (h d h1 h2)
    | succ m ih =>
      intro i d hi h1 h2
      have ep : (nI p + nI i).toNatClampNeg = p + i := by rw [nI_add, nI_clamp (by omega)]
      have eq : (nI q + nI i).toNatClampNeg = q + i := by rw [nI_add, nI_clamp (by omega)]
      refine br_f (nI_ge (by omega) (by omega)) ⟨by rw [nI_add]; exact vp_in_nI (by omega) (by omega), by rw [nI_add]; exact vp_in_nI (by omega) (by omega), nm_r (e' := upd d (q + i) (xM (p + i))) (by rw [ep, eq]) (nm_r (nI_1 i) (ih (i + 1) _ (by omega) ?_ ?_))⟩
      · intro j hj
        by_cases e : j = i
        · subst e; rw [pk_us]
        · rw [pk_un (by omega)]; exact h1 j (by omega)
      · intro j hj
        rw [pk_un (by omega)]; exact h2 j (by omega)
  exact ⟨c + 1, key c 0 kM (by omega) (fun j hj => absurd hj (Nat.not_lt_zero _)) (fun _ _ => rfl)⟩
theorem xc_eventBegan_keptBegan {post : SX → Prop} {p q c : Nat} (hp : p + c ≤ 64) (hq : q + c ≤ 64) (h : ∀ d : Nat → Int32, (∀ j, j < c → d (q + j) = xG (p + j)) → (∀ j, j < q ∨ q + c ≤ j → d j = kG j) → post (xl, xw, xk, xP, xL, xF, xQ, xT, xA, xB, xC, xM, xG, kF, kQ, kT, kA, kB, kC, kM, d, xS, xZ)) : wpX_copy__eventBegan_keptBegan post (xl, xw, xk, xP, xL, xF, xQ, xT, xA, xB, xC, xM, xG, kF, kQ, kT, kA, kB, kC, kM, kG, xS, xZ) (nI p) (nI q) (nI c) := by
  have key : ∀ (m i : Nat) (d : Nat → Int32), i + m = c → (∀ j, j < i → d (q + j) = xG (p + j)) → (∀ j, j < q ∨ q + i ≤ j → d j = kG j) → wX_copy__eventBegan_keptBegan_3 post (nI p) (nI q) (nI c) xl xw xk (m + 1) (nI i) xP xL xF xQ xT xA xB xC xM xG kF kQ kT kA kB kC kM d xS xZ := by
    intro m
    induction m with
    | zero =>
      intro i d hi h1 h2
      have e : i = c := by omega
      subst e
      exact br_t (nI_le (Nat.le_refl _) (by omega)) (h d h1 h2)
    | succ m ih =>
      intro i d hi h1 h2
      have ep : (nI p + nI i).toNatClampNeg = p + i := by rw [nI_add, nI_clamp (by omega)]
      have eq : (nI q + nI i).toNatClampNeg = q + i := by rw [nI_add, nI_clamp (by omega)]
      refine br_f (nI_ge (by omega) (by omega)) ⟨by rw [nI_add]; exact vp_in_nI (by omega) (by omega), by rw [nI_add]; exact vp_in_nI (by omega) (by omega), nm_r (e' := upd d (q + i) (xG (p + i))) (by rw [ep, eq]) (nm_r (nI_1 i) (ih (i + 1) _ (by omega) ?_ ?_))⟩
      · intro j hj
        by_cases e : j = i
        · subst e; rw [pk_us]
        · rw [pk_un (by omega)]; exact h1 j (by omega)
      · intro j hj
        rw [pk_un (by omega)]; exact h2 j (by omega)
  exact ⟨c + 1, key c 0 kG (by omega) (fun j hj => absurd hj (Nat.not_lt_zero _)) (fun _ _ => rfl)⟩
theorem xc_keptFigures_figures {post : SX → Prop} {p q c : Nat} (hp : p + c ≤ 4) (hq : q + c ≤ 4) (h : ∀ d : Nat → Int32, (∀ j, j < c → d (q + j) = kF (p + j)) → (∀ j, j < q ∨ q + c ≤ j → d j = xF j) → post (xl, xw, xk, xP, xL, d, xQ, xT, xA, xB, xC, xM, xG, kF, kQ, kT, kA, kB, kC, kM, kG, xS, xZ)) : wpX_copy__keptFigures_figures post (xl, xw, xk, xP, xL, xF, xQ, xT, xA, xB, xC, xM, xG, kF, kQ, kT, kA, kB, kC, kM, kG, xS, xZ) (nI p) (nI q) (nI c) := by
  have key : ∀ (m i : Nat) (d : Nat → Int32), i + m = c → (∀ j, j < i → d (q + j) = kF (p + j)) → (∀ j, j < q ∨ q + i ≤ j → d j = xF j) → wX_copy__keptFigures_figures_3 post (nI p) (nI q) (nI c) xl xw xk (m + 1) (nI i) xP xL d xQ xT xA xB xC xM xG kF kQ kT kA kB kC kM kG xS xZ := by
    intro m
    induction m with
    | zero =>
      intro i d hi h1 h2
      have e : i = c := by omega
      subst e
      exact br_t (nI_le (Nat.le_refl _) (by omega)) (h d h1 h2)
    | succ m ih =>
      intro i d hi h1 h2
      have ep : (nI p + nI i).toNatClampNeg = p + i := by rw [nI_add, nI_clamp (by omega)]
      have eq : (nI q + nI i).toNatClampNeg = q + i := by rw [nI_add, nI_clamp (by omega)]
      refine br_f (nI_ge (by omega) (by omega)) ⟨by rw [nI_add]; exact vp_in_nI (by omega) (by omega), by rw [nI_add]; exact vp_in_nI (by omega) (by omega), nm_r (e' := upd d (q + i) (kF (p + i))) (by rw [ep, eq]) (nm_r (nI_1 i) (ih (i + 1) _ (by omega) ?_ ?_))⟩
      · intro j hj
        by_cases e : j = i
        · subst e; rw [pk_us]
        · rw [pk_un (by omega)]; exact h1 j (by omega)
      · intro j hj
        rw [pk_un (by omega)]; exact h2 j (by omega)
  exact ⟨c + 1, key c 0 xF (by omega) (fun j hj => absurd hj (Nat.not_lt_zero _)) (fun _ _ => rfl)⟩
theorem xc_keptQuestions_questions {post : SX → Prop} {p q c : Nat} (hp : p + c ≤ 594) (hq : q + c ≤ 594) (h : ∀ d : Nat → Int32, (∀ j, j < c → d (q + j) = kQ (p + j)) → (∀ j, j < q ∨ q + c ≤ j → d j = xQ j) → post (xl, xw, xk, xP, xL, xF, d, xT, xA, xB, xC, xM, xG, kF, kQ, kT, kA, kB, kC, kM, kG, xS, xZ)) : wpX_copy__keptQuestions_questions post (xl, xw, xk, xP, xL, xF, xQ, xT, xA, xB, xC, xM, xG, kF, kQ, kT, kA, kB, kC, kM, kG, xS, xZ) (nI p) (nI q) (nI c) := by
  have key : ∀ (m i : Nat) (d : Nat → Int32), i + m = c → (∀ j, j < i → d (q + j) = kQ (p + j)) → (∀ j, j < q ∨ q + i ≤ j → d j = xQ j) → wX_copy__keptQuestions_questions_3 post (nI p) (nI q) (nI c) xl xw xk (m + 1) (nI i) xP xL xF d xT xA xB xC xM xG kF kQ kT kA kB kC kM kG xS xZ := by
    intro m
    induction m with
    | zero =>
      intro i d hi h1 h2
      have e : i = c := by omega
      subst e
      exact br_t (nI_le (Nat.le_refl _) (by omega)) (h d h1 h2)
    | succ m ih =>
      intro i d hi h1 h2
      have ep : (nI p + nI i).toNatClampNeg = p + i := by rw [nI_add, nI_clamp (by omega)]
      have eq : (nI q + nI i).toNatClampNeg = q + i := by rw [nI_add, nI_clamp (by omega)]
      refine br_f (nI_ge (by omega) (by omega)) ⟨by rw [nI_add]; exact vp_in_nI (by omega) (by omega), by rw [nI_add]; exact vp_in_nI (by omega) (by omega), nm_r (e' := upd d (q + i) (kQ (p + i))) (by rw [ep, eq]) (nm_r (nI_1 i) (ih (i + 1) _ (by omega) ?_ ?_))⟩
      · intro j hj
        by_cases e : j = i
        · subst e; rw [pk_us]
        · rw [pk_un (by omega)]; exact h1 j (by omega)
      · intro j hj
        rw [pk_un (by omega)]; exact h2 j (by omega)
  exact ⟨c + 1, key c 0 xQ (by omega) (fun j hj => absurd hj (Nat.not_lt_zero _)) (fun _ _ => rfl)⟩
theorem xc_keptType_eventType {post : SX → Prop} {p q c : Nat} (hp : p + c ≤ 64) (hq : q + c ≤ 64) (h : ∀ d : Nat → Int32, (∀ j, j < c → d (q + j) = kT (p + j)) → (∀ j, j < q ∨ q + c ≤ j → d j = xT j) → post (xl, xw, xk, xP, xL, xF, xQ, d, xA, xB, xC, xM, xG, kF, kQ, kT, kA, kB, kC, kM, kG, xS, xZ)) : wpX_copy__keptType_eventType post (xl, xw, xk, xP, xL, xF, xQ, xT, xA, xB, xC, xM, xG, kF, kQ, kT, kA, kB, kC, kM, kG, xS, xZ) (nI p) (nI q) (nI c) := by
  have key : ∀ (m i : Nat) (d : Nat → Int32), i + m = c → (∀ j, j < i → d (q + j) = kT (p + j)) → (∀ j, j < q ∨ q + i ≤ j → d j = xT j) → wX_copy__keptType_eventType_3 post (nI p) (nI q) (nI c) xl xw xk (m + 1) (nI i) xP xL xF xQ d xA xB xC xM xG kF kQ kT kA kB kC kM kG xS xZ := by
    intro m
    induction m with
    | zero =>
      intro i d hi h1 h2
      have e : i = c := by omega
      subst e
      exact br_t (nI_le (Nat.le_refl _) (by omega)) (h d h1 h2)
    | succ m ih =>
      intro i d hi h1 h2
      have ep : (nI p + nI i).toNatClampNeg = p + i := by rw [nI_add, nI_clamp (by omega)]
      have eq : (nI q + nI i).toNatClampNeg = q + i := by rw [nI_add, nI_clamp (by omega)]
      refine br_f (nI_ge (by omega) (by omega)) ⟨by rw [nI_add]; exact vp_in_nI (by omega) (by omega), by rw [nI_add]; exact vp_in_nI (by omega) (by omega), nm_r (e' := upd d (q + i) (kT (p + i))) (by rw [ep, eq]) (nm_r (nI_1 i) (ih (i + 1) _ (by omega) ?_ ?_))⟩
      · intro j hj
        by_cases e : j = i
        · subst e; rw [pk_us]
        · rw [pk_un (by omega)]; exact h1 j (by omega)
      · intro j hj
        rw [pk_un (by omega)]; exact h2 j (by omega)
  exact ⟨c + 1, key c 0 xT (by omega) (fun j hj => absurd hj (Nat.not_lt_zero _)) (fun _ _ => rfl)⟩
theorem xc_keptA_eventA {post : SX → Prop} {p q c : Nat} (hp : p + c ≤ 64) (hq : q + c ≤ 64) (h : ∀ d : Nat → Int32, (∀ j, j < c → d (q + j) = kA (p + j)) → (∀ j, j < q ∨ q + c ≤ j → d j = xA j) → post (xl, xw, xk, xP, xL, xF, xQ, xT, d, xB, xC, xM, xG, kF, kQ, kT, kA, kB, kC, kM, kG, xS, xZ)) : wpX_copy__keptA_eventA post (xl, xw, xk, xP, xL, xF, xQ, xT, xA, xB, xC, xM, xG, kF, kQ, kT, kA, kB, kC, kM, kG, xS, xZ) (nI p) (nI q) (nI c) := by
  have key : ∀ (m i : Nat) (d : Nat → Int32), i + m = c → (∀ j, j < i → d (q + j) = kA (p + j)) → (∀ j, j < q ∨ q + i ≤ j → d j = xA j) → wX_copy__keptA_eventA_3 post (nI p) (nI q) (nI c) xl xw xk (m + 1) (nI i) xP xL xF xQ xT d xB xC xM xG kF kQ kT kA kB kC kM kG xS xZ := by
    intro m
    induction m with
    | zero =>
      intro i d hi h1 h2
      have e : i = c := by omega
      subst e
      exact br_t (nI_le (Nat.le_refl _) (by omega)) (h d h1 h2)
    | succ m ih =>
      intro i d hi h1 h2
      have ep : (nI p + nI i).toNatClampNeg = p + i := by rw [nI_add, nI_clamp (by omega)]
      have eq : (nI q + nI i).toNatClampNeg = q + i := by rw [nI_add, nI_clamp (by omega)]
      refine br_f (nI_ge (by omega) (by omega)) ⟨by rw [nI_add]; exact vp_in_nI (by omega) (by omega), by rw [nI_add]; exact vp_in_nI (by omega) (by omega), nm_r (e' := upd d (q + i) (kA (p + i))) (by rw [ep, eq]) (nm_r (nI_1 i) (ih (i + 1) _ (by omega) ?_ ?_))⟩
      · intro j hj
        by_cases e : j = i
        · subst e; rw [pk_us]
        · rw [pk_un (by omega)]; exact h1 j (by omega)
      · intro j hj
        rw [pk_un (by omega)]; exact h2 j (by omega)
  exact ⟨c + 1, key c 0 xA (by omega) (fun j hj => absurd hj (Nat.not_lt_zero _)) (fun _ _ => rfl)⟩
theorem xc_keptB_eventB {post : SX → Prop} {p q c : Nat} (hp : p + c ≤ 64) (hq : q + c ≤ 64) (h : ∀ d : Nat → Int32, (∀ j, j < c → d (q + j) = kB (p + j)) → (∀ j, j < q ∨ q + c ≤ j → d j = xB j) → post (xl, xw, xk, xP, xL, xF, xQ, xT, xA, d, xC, xM, xG, kF, kQ, kT, kA, kB, kC, kM, kG, xS, xZ)) : wpX_copy__keptB_eventB post (xl, xw, xk, xP, xL, xF, xQ, xT, xA, xB, xC, xM, xG, kF, kQ, kT, kA, kB, kC, kM, kG, xS, xZ) (nI p) (nI q) (nI c) := by
  have key : ∀ (m i : Nat) (d : Nat → Int32), i + m = c → (∀ j, j < i → d (q + j) = kB (p + j)) → (∀ j, j < q ∨ q + i ≤ j → d j = xB j) → wX_copy__keptB_eventB_3 post (nI p) (nI q) (nI c) xl xw xk (m + 1) (nI i) xP xL xF xQ xT xA d xC xM xG kF kQ kT kA kB kC kM kG xS xZ := by
    intro m
    induction m with
    | zero =>
      intro i d hi h1 h2
      have e : i = c := by omega
      subst e
      exact br_t (nI_le (Nat.le_refl _) (by omega)) (h d h1 h2)
    | succ m ih =>
      intro i d hi h1 h2
      have ep : (nI p + nI i).toNatClampNeg = p + i := by rw [nI_add, nI_clamp (by omega)]
      have eq : (nI q + nI i).toNatClampNeg = q + i := by rw [nI_add, nI_clamp (by omega)]
      refine br_f (nI_ge (by omega) (by omega)) ⟨by rw [nI_add]; exact vp_in_nI (by omega) (by omega), by rw [nI_add]; exact vp_in_nI (by omega) (by omega), nm_r (e' := upd d (q + i) (kB (p + i))) (by rw [ep, eq]) (nm_r (nI_1 i) (ih (i + 1) _ (by omega) ?_ ?_))⟩
      · intro j hj
        by_cases e : j = i
        · subst e; rw [pk_us]
        · rw [pk_un (by omega)]; exact h1 j (by omega)
      · intro j hj
        rw [pk_un (by omega)]; exact h2 j (by omega)
  exact ⟨c + 1, key c 0 xB (by omega) (fun j hj => absurd hj (Nat.not_lt_zero _)) (fun _ _ => rfl)⟩
theorem xc_keptTime_eventTime {post : SX → Prop} {p q c : Nat} (hp : p + c ≤ 64) (hq : q + c ≤ 64) (h : ∀ d : Nat → Int32, (∀ j, j < c → d (q + j) = kC (p + j)) → (∀ j, j < q ∨ q + c ≤ j → d j = xC j) → post (xl, xw, xk, xP, xL, xF, xQ, xT, xA, xB, d, xM, xG, kF, kQ, kT, kA, kB, kC, kM, kG, xS, xZ)) : wpX_copy__keptTime_eventTime post (xl, xw, xk, xP, xL, xF, xQ, xT, xA, xB, xC, xM, xG, kF, kQ, kT, kA, kB, kC, kM, kG, xS, xZ) (nI p) (nI q) (nI c) := by
  have key : ∀ (m i : Nat) (d : Nat → Int32), i + m = c → (∀ j, j < i → d (q + j) = kC (p + j)) → (∀ j, j < q ∨ q + i ≤ j → d j = xC j) → wX_copy__keptTime_eventTime_3 post (nI p) (nI q) (nI c) xl xw xk (m + 1) (nI i) xP xL xF xQ xT xA xB d xM xG kF kQ kT kA kB kC kM kG xS xZ := by
    intro m
    induction m with
    | zero =>
      intro i d hi h1 h2
      have e : i = c := by omega
      subst e
      exact br_t (nI_le (Nat.le_refl _) (by omega)) (h d h1 h2)
    | succ m ih =>
      intro i d hi h1 h2
      have ep : (nI p + nI i).toNatClampNeg = p + i := by rw [nI_add, nI_clamp (by omega)]
      have eq : (nI q + nI i).toNatClampNeg = q + i := by rw [nI_add, nI_clamp (by omega)]
      refine br_f (nI_ge (by omega) (by omega)) ⟨by rw [nI_add]; exact vp_in_nI (by omega) (by omega), by rw [nI_add]; exact vp_in_nI (by omega) (by omega), nm_r (e' := upd d (q + i) (kC (p + i))) (by rw [ep, eq]) (nm_r (nI_1 i) (ih (i + 1) _ (by omega) ?_ ?_))⟩
      · intro j hj
        by_cases e : j = i
        · subst e; rw [pk_us]
        · rw [pk_un (by omega)]; exact h1 j (by omega)
      · intro j hj
        rw [pk_un (by omega)]; exact h2 j (by omega)
  exact ⟨c + 1, key c 0 xC (by omega) (fun j hj => absurd hj (Nat.not_lt_zero _)) (fun _ _ => rfl)⟩
theorem xc_keptMet_eventMet {post : SX → Prop} {p q c : Nat} (hp : p + c ≤ 64) (hq : q + c ≤ 64) (h : ∀ d : Nat → Int32, (∀ j, j < c → d (q + j) = kM (p + j)) → (∀ j, j < q ∨ q + c ≤ j → d j = xM j) → post (xl, xw, xk, xP, xL, xF, xQ, xT, xA, xB, xC, d, xG, kF, kQ, kT, kA, kB, kC, kM, kG, xS, xZ)) : wpX_copy__keptMet_eventMet post (xl, xw, xk, xP, xL, xF, xQ, xT, xA, xB, xC, xM, xG, kF, kQ, kT, kA, kB, kC, kM, kG, xS, xZ) (nI p) (nI q) (nI c) := by
  have key : ∀ (m i : Nat) (d : Nat → Int32), i + m = c → (∀ j, j < i → d (q + j) = kM (p + j)) → (∀ j, j < q ∨ q + i ≤ j → d j = xM j) → wX_copy__keptMet_eventMet_3 post (nI p) (nI q) (nI c) xl xw xk (m + 1) (nI i) xP xL xF xQ xT xA xB xC d xG kF kQ kT kA kB kC kM kG xS xZ := by
    intro m
    induction m with
    | zero =>
      intro i d hi h1 h2
      have e : i = c := by omega
      subst e
      exact br_t (nI_le (Nat.le_refl _) (by omega)) (h d h1 h2)
    | succ m ih =>
      intro i d hi h1 h2
      have ep : (nI p + nI i).toNatClampNeg = p + i := by rw [nI_add, nI_clamp (by omega)]
      have eq : (nI q + nI i).toNatClampNeg = q + i := by rw [nI_add, nI_clamp (by omega)]
      refine br_f (nI_ge (by omega) (by omega)) ⟨by rw [nI_add]; exact vp_in_nI (by omega) (by omega), by rw [nI_add]; exact vp_in_nI (by omega) (by omega), nm_r (e' := upd d (q + i) (kM (p + i))) (by rw [ep, eq]) (nm_r (nI_1 i) (ih (i + 1) _ (by omega) ?_ ?_))⟩
      · intro j hj
        by_cases e : j = i
        · subst e; rw [pk_us]
        · rw [pk_un (by omega)]; exact h1 j (by omega)
      · intro j hj
        rw [pk_un (by omega)]; exact h2 j (by omega)
  exact ⟨c + 1, key c 0 xM (by omega) (fun j hj => absurd hj (Nat.not_lt_zero _)) (fun _ _ => rfl)⟩
theorem xc_keptBegan_eventBegan {post : SX → Prop} {p q c : Nat} (hp : p + c ≤ 64) (hq : q + c ≤ 64) (h : ∀ d : Nat → Int32, (∀ j, j < c → d (q + j) = kG (p + j)) → (∀ j, j < q ∨ q + c ≤ j → d j = xG j) → post (xl, xw, xk, xP, xL, xF, xQ, xT, xA, xB, xC, xM, d, kF, kQ, kT, kA, kB, kC, kM, kG, xS, xZ)) : wpX_copy__keptBegan_eventBegan post (xl, xw, xk, xP, xL, xF, xQ, xT, xA, xB, xC, xM, xG, kF, kQ, kT, kA, kB, kC, kM, kG, xS, xZ) (nI p) (nI q) (nI c) := by
  have key : ∀ (m i : Nat) (d : Nat → Int32), i + m = c → (∀ j, j < i → d (q + j) = kG (p + j)) → (∀ j, j < q ∨ q + i ≤ j → d j = xG j) → wX_copy__keptBegan_eventBegan_3 post (nI p) (nI q) (nI c) xl xw xk (m + 1) (nI i) xP xL xF xQ xT xA xB xC xM d kF kQ kT kA kB kC kM kG xS xZ := by
    intro m
    induction m with
    | zero =>
      intro i d hi h1 h2
      have e : i = c := by omega
      subst e
      exact br_t (nI_le (Nat.le_refl _) (by omega)) (h d h1 h2)
    | succ m ih =>
      intro i d hi h1 h2
      have ep : (nI p + nI i).toNatClampNeg = p + i := by rw [nI_add, nI_clamp (by omega)]
      have eq : (nI q + nI i).toNatClampNeg = q + i := by rw [nI_add, nI_clamp (by omega)]
      refine br_f (nI_ge (by omega) (by omega)) ⟨by rw [nI_add]; exact vp_in_nI (by omega) (by omega), by rw [nI_add]; exact vp_in_nI (by omega) (by omega), nm_r (e' := upd d (q + i) (kG (p + i))) (by rw [ep, eq]) (nm_r (nI_1 i) (ih (i + 1) _ (by omega) ?_ ?_))⟩
      · intro j hj
        by_cases e : j = i
        · subst e; rw [pk_us]
        · rw [pk_un (by omega)]; exact h1 j (by omega)
      · intro j hj
        rw [pk_un (by omega)]; exact h2 j (by omega)
  exact ⟨c + 1, key c 0 xG (by omega) (fun j hj => absurd hj (Nat.not_lt_zero _)) (fun _ _ => rfl)⟩
end
section
variable {fT fL fK fW fB fH fO : Int32} {aT aL aQ aE aG aKQ aKE aKG aW aS aM aV aZ aB : Nat → Int32}
theorem yc_keep_56 {post : SY → Prop} (h : ∀ d : Nat → Int32, (∀ j, j < 4 → d j = aG j) → post (fT, fL, 1, fW, fB, fH, fO, aT, aL, aQ, aE, aG, aKQ, aKE, d, aW, aS, aM, aV, aZ, aB)) : ∃ n : Nat, wY_keep_56 post fT fL fK fW fB fH fO n 0 aT aL aQ aE aG aKQ aKE aKG aW aS aM aV aZ aB := by
  have key : ∀ (m i : Nat) (d : Nat → Int32), i + m = 4 → (∀ j, j < i → d j = aG j) → wY_keep_56 post fT fL fK fW fB fH fO (m + 1) (nI i) aT aL aQ aE aG aKQ aKE d aW aS aM aV aZ aB := by
    intro m
    induction m with
    | zero =>
      intro i d hi h1
      have e : i = 4 := by omega
      subst e
      exact br_t (nI_le (a := 4) (b := 4) (Nat.le_refl _) (by omega)) (h d h1)
    | succ m ih =>
      intro i d hi h1
      have ei : (nI i).toNatClampNeg = i := nI_clamp (by omega)
      refine br_f (nI_ge (b := 4) (by omega) (by omega)) ⟨vp_in_nI (by omega) (by omega), vp_in_nI (by omega) (by omega), nm_r (e' := upd d i (aG i)) (by rw [ei]) (nm_r (nI_1 i) (ih (i + 1) _ (by omega) ?_))⟩
      intro j hj
      by_cases e : j = i
      · subst e; rw [pk_us]
      · rw [pk_un (by omega)]; exact h1 j (by omega)
  exact ⟨4 + 1, key 4 0 aKG (by omega) (fun j hj => absurd hj (Nat.not_lt_zero _))⟩
theorem yc_keep_29 {post : SY → Prop} (h : ∀ d : Nat → Int32, (∀ j, j < 256 → d j = aE j) → ∃ n : Nat, wY_keep_56 post fT fL fK fW fB fH fO n 0 aT aL aQ aE aG aKQ d aKG aW aS aM aV aZ aB) : ∃ n : Nat, wY_keep_29 post fT fL fK fW fB fH fO n 0 aT aL aQ aE aG aKQ aKE aKG aW aS aM aV aZ aB := by
  have key : ∀ (m i : Nat) (d : Nat → Int32), i + m = 256 → (∀ j, j < i → d j = aE j) → wY_keep_29 post fT fL fK fW fB fH fO (m + 1) (nI i) aT aL aQ aE aG aKQ d aKG aW aS aM aV aZ aB := by
    intro m
    induction m with
    | zero =>
      intro i d hi h1
      have e : i = 256 := by omega
      subst e
      exact br_t (nI_le (a := 256) (b := 256) (Nat.le_refl _) (by omega)) (h d h1)
    | succ m ih =>
      intro i d hi h1
      have ei : (nI i).toNatClampNeg = i := nI_clamp (by omega)
      refine br_f (nI_ge (b := 256) (by omega) (by omega)) ⟨vp_in_nI (by omega) (by omega), vp_in_nI (by omega) (by omega), nm_r (e' := upd d i (aE i)) (by rw [ei]) (nm_r (nI_1 i) (ih (i + 1) _ (by omega) ?_))⟩
      intro j hj
      by_cases e : j = i
      · subst e; rw [pk_us]
      · rw [pk_un (by omega)]; exact h1 j (by omega)
  exact ⟨256 + 1, key 256 0 aKE (by omega) (fun j hj => absurd hj (Nat.not_lt_zero _))⟩
theorem yc_keep_2 {post : SY → Prop} (h : ∀ d : Nat → Int32, (∀ j, j < 600 → d j = aQ j) → ∃ n : Nat, wY_keep_29 post fT fL fK fW fB fH fO n 0 aT aL aQ aE aG d aKE aKG aW aS aM aV aZ aB) : ∃ n : Nat, wY_keep_2 post fT fL fK fW fB fH fO n 0 aT aL aQ aE aG aKQ aKE aKG aW aS aM aV aZ aB := by
  have key : ∀ (m i : Nat) (d : Nat → Int32), i + m = 600 → (∀ j, j < i → d j = aQ j) → wY_keep_2 post fT fL fK fW fB fH fO (m + 1) (nI i) aT aL aQ aE aG d aKE aKG aW aS aM aV aZ aB := by
    intro m
    induction m with
    | zero =>
      intro i d hi h1
      have e : i = 600 := by omega
      subst e
      exact br_t (nI_le (a := 600) (b := 600) (Nat.le_refl _) (by omega)) (h d h1)
    | succ m ih =>
      intro i d hi h1
      have ei : (nI i).toNatClampNeg = i := nI_clamp (by omega)
      refine br_f (nI_ge (b := 600) (by omega) (by omega)) ⟨vp_in_nI (by omega) (by omega), vp_in_nI (by omega) (by omega), nm_r (e' := upd d i (aQ i)) (by rw [ei]) (nm_r (nI_1 i) (ih (i + 1) _ (by omega) ?_))⟩
      intro j hj
      by_cases e : j = i
      · subst e; rw [pk_us]
      · rw [pk_un (by omega)]; exact h1 j (by omega)
  exact ⟨600 + 1, key 600 0 aKQ (by omega) (fun j hj => absurd hj (Nat.not_lt_zero _))⟩
theorem yc_restore_65 {post : Int32 → SY → Prop} (h : ∀ d : Nat → Int32, (∀ j, j < 4 → d j = aKG j) → post 1 (fT, fL, fK, fW, fB, fH, fO, aT, aL, aQ, aE, d, aKQ, aKE, aKG, aW, aS, aM, aV, aZ, aB)) : ∃ n : Nat, wY_restore_65 post fT fL fK fW fB fH fO n 0 aT aL aQ aE aG aKQ aKE aKG aW aS aM aV aZ aB := by
  have key : ∀ (m i : Nat) (d : Nat → Int32), i + m = 4 → (∀ j, j < i → d j = aKG j) → wY_restore_65 post fT fL fK fW fB fH fO (m + 1) (nI i) aT aL aQ aE d aKQ aKE aKG aW aS aM aV aZ aB := by
    intro m
    induction m with
    | zero =>
      intro i d hi h1
      have e : i = 4 := by omega
      subst e
      exact br_t (nI_le (a := 4) (b := 4) (Nat.le_refl _) (by omega)) (h d h1)
    | succ m ih =>
      intro i d hi h1
      have ei : (nI i).toNatClampNeg = i := nI_clamp (by omega)
      refine br_f (nI_ge (b := 4) (by omega) (by omega)) ⟨vp_in_nI (by omega) (by omega), vp_in_nI (by omega) (by omega), nm_r (e' := upd d i (aKG i)) (by rw [ei]) (nm_r (nI_1 i) (ih (i + 1) _ (by omega) ?_))⟩
      intro j hj
      by_cases e : j = i
      · subst e; rw [pk_us]
      · rw [pk_un (by omega)]; exact h1 j (by omega)
  exact ⟨4 + 1, key 4 0 aG (by omega) (fun j hj => absurd hj (Nat.not_lt_zero _))⟩
theorem yc_restore_38 {post : Int32 → SY → Prop} (h : ∀ d : Nat → Int32, (∀ j, j < 256 → d j = aKE j) → ∃ n : Nat, wY_restore_65 post fT fL fK fW fB fH fO n 0 aT aL aQ d aG aKQ aKE aKG aW aS aM aV aZ aB) : ∃ n : Nat, wY_restore_38 post fT fL fK fW fB fH fO n 0 aT aL aQ aE aG aKQ aKE aKG aW aS aM aV aZ aB := by
  have key : ∀ (m i : Nat) (d : Nat → Int32), i + m = 256 → (∀ j, j < i → d j = aKE j) → wY_restore_38 post fT fL fK fW fB fH fO (m + 1) (nI i) aT aL aQ d aG aKQ aKE aKG aW aS aM aV aZ aB := by
    intro m
    induction m with
    | zero =>
      intro i d hi h1
      have e : i = 256 := by omega
      subst e
      exact br_t (nI_le (a := 256) (b := 256) (Nat.le_refl _) (by omega)) (h d h1)
    | succ m ih =>
      intro i d hi h1
      have ei : (nI i).toNatClampNeg = i := nI_clamp (by omega)
      refine br_f (nI_ge (b := 256) (by omega) (by omega)) ⟨vp_in_nI (by omega) (by omega), vp_in_nI (by omega) (by omega), nm_r (e' := upd d i (aKE i)) (by rw [ei]) (nm_r (nI_1 i) (ih (i + 1) _ (by omega) ?_))⟩
      intro j hj
      by_cases e : j = i
      · subst e; rw [pk_us]
      · rw [pk_un (by omega)]; exact h1 j (by omega)
  exact ⟨256 + 1, key 256 0 aE (by omega) (fun j hj => absurd hj (Nat.not_lt_zero _))⟩
theorem yc_restore_11 {post : Int32 → SY → Prop} (h : ∀ d : Nat → Int32, (∀ j, j < 600 → d j = aKQ j) → ∃ n : Nat, wY_restore_38 post fT fL fK fW fB fH fO n 0 aT aL d aE aG aKQ aKE aKG aW aS aM aV aZ aB) : ∃ n : Nat, wY_restore_11 post fT fL fK fW fB fH fO n 0 aT aL aQ aE aG aKQ aKE aKG aW aS aM aV aZ aB := by
  have key : ∀ (m i : Nat) (d : Nat → Int32), i + m = 600 → (∀ j, j < i → d j = aKQ j) → wY_restore_11 post fT fL fK fW fB fH fO (m + 1) (nI i) aT aL d aE aG aKQ aKE aKG aW aS aM aV aZ aB := by
    intro m
    induction m with
    | zero =>
      intro i d hi h1
      have e : i = 600 := by omega
      subst e
      exact br_t (nI_le (a := 600) (b := 600) (Nat.le_refl _) (by omega)) (h d h1)
    | succ m ih =>
      intro i d hi h1
      have ei : (nI i).toNatClampNeg = i := nI_clamp (by omega)
      refine br_f (nI_ge (b := 600) (by omega) (by omega)) ⟨vp_in_nI (by omega) (by omega), vp_in_nI (by omega) (by omega), nm_r (e' := upd d i (aKQ i)) (by rw [ei]) (nm_r (nI_1 i) (ih (i + 1) _ (by omega) ?_))⟩
      intro j hj
      by_cases e : j = i
      · subst e; rw [pk_us]
      · rw [pk_un (by omega)]; exact h1 j (by omega)
  exact ⟨600 + 1, key 600 0 aQ (by omega) (fun j hj => absurd hj (Nat.not_lt_zero _))⟩
end
theorem i_vc_keep {k : Nat} {u : SX} {v : SY} (I : i_Rel k u v) (hk : k + 6 ≤ 3072) : wpX_keep (fun u' => wpY_keep (fun v' => i_Rel (k + 6) u' v') v) u := by
  obtain ⟨xl, xw, xk, xP, xL, xF, xQ, xT, xA, xB, xC, xM, xG, kF, kQ, kT, kA, kB, kC, kM, kG, xS, xZ⟩ := u
  obtain ⟨fT, fL, fK, fW, fB, fH, fO, aT, aL, aQ, aE, aG, aKQ, aKE, aKG, aW, aS, aM, aV, aZ, aB⟩ := v
  obtain ⟨hP, hL, hw, ⟨h, hC⟩, hK⟩ := I
  unfold wpX_keep
  dsimp only
  refine xc_figures_keptFigures (p := 0) (q := 0) (c := 4) (by omega) (by omega) (fun d0 e0 _ => ?_)
  try dsimp only
  refine xc_questions_keptQuestions (p := 0) (q := 0) (c := 594) (by omega) (by omega) (fun d1 e1 _ => ?_)
  try dsimp only
  refine xc_eventType_keptType (p := 0) (q := 0) (c := 64) (by omega) (by omega) (fun d2 e2 _ => ?_)
  try dsimp only
  refine xc_eventA_keptA (p := 0) (q := 0) (c := 64) (by omega) (by omega) (fun d3 e3 _ => ?_)
  try dsimp only
  refine xc_eventB_keptB (p := 0) (q := 0) (c := 64) (by omega) (by omega) (fun d4 e4 _ => ?_)
  try dsimp only
  refine xc_eventTime_keptTime (p := 0) (q := 0) (c := 64) (by omega) (by omega) (fun d5 e5 _ => ?_)
  try dsimp only
  refine xc_eventMet_keptMet (p := 0) (q := 0) (c := 64) (by omega) (by omega) (fun d6 e6 _ => ?_)
  try dsimp only
  refine xc_eventBegan_keptBegan (p := 0) (q := 0) (c := 64) (by omega) (by omega) (fun d7 e7 _ => ?_)
  try dsimp only
  unfold wpY_keep
  dsimp only
  refine yc_keep_2 (fun q1 f1 => yc_keep_29 (fun q2 f2 => yc_keep_56 (fun q3 f3 => ?_)))
  refine ⟨hP, hL, hw, ed_B_up (by omega) ⟨h, hC⟩, Or.inr ⟨rfl, rfl, ed_B_up (by omega) ⟨h, ed_C_cg ?_ ?_ ?_ ?_ ?_ ?_ ?_ ?_ f1 f2 f3 hC⟩⟩⟩
  · intro j hj; simpa only [Nat.zero_add] using e0 j hj
  · intro j hj; simpa only [Nat.zero_add] using e1 j hj
  · intro j hj; simpa only [Nat.zero_add] using e2 j hj
  · intro j hj; simpa only [Nat.zero_add] using e3 j hj
  · intro j hj; simpa only [Nat.zero_add] using e4 j hj
  · intro j hj; simpa only [Nat.zero_add] using e5 j hj
  · intro j hj; simpa only [Nat.zero_add] using e6 j hj
  · intro j hj; simpa only [Nat.zero_add] using e7 j hj
theorem i_vc_restore {k : Nat} {u : SX} {v : SY} (I : i_Rel k u v) (hk : k + 6 ≤ 3072) : wpX_restore (fun r u' => wpY_restore (fun r' v' => r' = r ∧ i_Rel (k + 6) u' v') v) u := by
  obtain ⟨xl, xw, xk, xP, xL, xF, xQ, xT, xA, xB, xC, xM, xG, kF, kQ, kT, kA, kB, kC, kM, kG, xS, xZ⟩ := u
  obtain ⟨fT, fL, fK, fW, fB, fH, fO, aT, aL, aQ, aE, aG, aKQ, aKE, aKG, aW, aS, aM, aV, aZ, aB⟩ := v
  have I' := i_up I
  obtain ⟨hP, hL, hw, hB, hK⟩ := I
  have hK' := hK
  rcases hK with ⟨rfl, rfl⟩ | ⟨rfl, rfl, ⟨h, hC⟩⟩
  · exact br_t rfl (br_t rfl ⟨rfl, I'⟩)
  unfold wpX_restore
  dsimp only
  refine br_f (by decide) ?_
  refine xc_keptFigures_figures (p := 0) (q := 0) (c := 4) (by omega) (by omega) (fun d0 e0 _ => ?_)
  try dsimp only
  refine xc_keptQuestions_questions (p := 0) (q := 0) (c := 594) (by omega) (by omega) (fun d1 e1 _ => ?_)
  try dsimp only
  refine xc_keptType_eventType (p := 0) (q := 0) (c := 64) (by omega) (by omega) (fun d2 e2 _ => ?_)
  try dsimp only
  refine xc_keptA_eventA (p := 0) (q := 0) (c := 64) (by omega) (by omega) (fun d3 e3 _ => ?_)
  try dsimp only
  refine xc_keptB_eventB (p := 0) (q := 0) (c := 64) (by omega) (by omega) (fun d4 e4 _ => ?_)
  try dsimp only
  refine xc_keptTime_eventTime (p := 0) (q := 0) (c := 64) (by omega) (by omega) (fun d5 e5 _ => ?_)
  try dsimp only
  refine xc_keptMet_eventMet (p := 0) (q := 0) (c := 64) (by omega) (by omega) (fun d6 e6 _ => ?_)
  try dsimp only
  refine xc_keptBegan_eventBegan (p := 0) (q := 0) (c := 64) (by omega) (by omega) (fun d7 e7 _ => ?_)
  try dsimp only
  unfold wpY_restore
  dsimp only
  refine br_f (by decide) (yc_restore_11 (fun q1 f1 => yc_restore_38 (fun q2 f2 => yc_restore_65 (fun q3 f3 => ?_))))
  refine ⟨rfl, hP, hL, hw, ed_B_up (by omega) ⟨h, ed_C_cg ?_ ?_ ?_ ?_ ?_ ?_ ?_ ?_ f1 f2 f3 hC⟩, ed_K_up (by omega) hK'⟩
  · intro j hj; simpa only [Nat.zero_add] using e0 j hj
  · intro j hj; simpa only [Nat.zero_add] using e1 j hj
  · intro j hj; simpa only [Nat.zero_add] using e2 j hj
  · intro j hj; simpa only [Nat.zero_add] using e3 j hj
  · intro j hj; simpa only [Nat.zero_add] using e4 j hj
  · intro j hj; simpa only [Nat.zero_add] using e5 j hj
  · intro j hj; simpa only [Nat.zero_add] using e6 j hj
  · intro j hj; simpa only [Nat.zero_add] using e7 j hj
