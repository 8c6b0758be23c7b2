/-! the core of both states, and the relation -/
def ed_Ct (k hi : Nat) (fg t : Nat → Int32) : Prop :=
  ∃ now : Nat, ∃ tn : Nat → Nat, fg 2 = nI now ∧ now ≤ 17 * k ∧ (∀ i, i < hi → t i = nI (tn i) ∧ tn i ≤ now) ∧ (∀ i j, i ≤ j → j < hi → tn i ≤ tn j)
def ed_Ce (h : Nat) (ty a b t ev : Nat → Int32) : Prop :=
  ∀ i, i < h → ev (4 * i) = ty i ∧ ev (4 * i + 1) = a i ∧ ev (4 * i + 2) = b i ∧ ev (4 * i + 3) = t i
def ed_S (s hs hi : Nat) (x ty a b t tm tg y : Nat → Int32) : Prop :=
  ed_Q hs hi (fun j => x (99 * s + j)) (fun j => y (100 * s + j)) ty a b t (fun i w => bt (tm i) (3 * s + w)) (fun i => bt (tg i) s)
def ed_C (k h hi : Nat) (hs : Nat → Nat) (fg x ty a b t tm tg y ev g : Nat → Int32) : Prop :=
  (fg 0 = nI h ∧ g 0 = nI h ∧ fg 1 = g 1 ∧ fg 2 = g 2 ∧ fg 3 = g 3) ∧ (h ≤ hi ∧ hi ≤ 64) ∧ ed_Ct k hi fg t ∧ ed_Ce h ty a b t ev ∧ ∀ s, s < 6 → hs s ≤ h ∧ ed_S s (hs s) hi x ty a b t tm tg y
def ed_P (xP : Nat → Int32) (fT : Int32) (aT : Nat → Int32) : Prop :=
  ∃ n : Nat, n ≤ 12 ∧ xP 0 = nI n ∧ fT = nI n ∧ (∀ i, i < 12 → xP (1 + i) = aT (2 * i) ∧ xP (13 + i) = aT (2 * i + 1)) ∧ (∀ i, i < n → ∃ k, k ≤ 13 ∧ xP (1 + i) = nI k)
def ed_L (xl fL : Int32) (xL aL : Nat → Int32) : Prop :=
  ∃ l : Nat, l ≤ 3 ∧ xl = nI l ∧ fL = nI l ∧ (∀ w, w < 3 → ed_ce xL (25 * w) aL (25 * w)) ∧ (∀ w, w < l → ed_cv xL (25 * w))
def ed_B (k : Nat) (fg x ty a b t tm tg y ev g : Nat → Int32) : Prop := ∃ h : Nat, ed_C k h h (fun _ => h) fg x ty a b t tm tg y ev g
def ed_K (k : Nat) (xk fK : Int32) (fg x ty a b t tm tg y ev g : Nat → Int32) : Prop :=
  (xk = 0 ∧ fK = 0) ∨ (xk = 1 ∧ fK = 1 ∧ ed_B k fg x ty a b t tm tg y ev g)
/-- the relation at the head of a turn -/
def i_Rel (k : Nat) (u : SX) (v : SY) : Prop :=
  match u, v with
  | (xl, xw, xk, xP, xL, xF, xQ, xT, xA, xB, xC, xM, xG, kF, kQ, kT, kA, kB, kC, kM, kG, xS, xZ), (fT, fL, fK, fW, fB, fH, fO, aT, aL, aQ, aE, aG, aKQ, aKE, aKG, aW, aS, aM, aV, aZ, aB) => ed_P xP fT aT ∧ ed_L xl fL xL aL ∧ xw = 0 ∧ ed_B k xF xQ xT xA xB xC xM xG aQ aE aG ∧ ed_K k xk fK kF kQ kT kA kB kC kM kG aKQ aKE aKG
theorem ed_C_up {k k' h hi : Nat} {hs : Nat → Nat} {fg x ty a b t tm tg y ev g : Nat → Int32} (hk : k ≤ k') (H : ed_C k h hi hs fg x ty a b t tm tg y ev g) : ed_C k' h hi hs fg x ty a b t tm tg y ev g := by
  obtain ⟨h1, h2, ⟨now, tn, a1, a2, a3⟩, h4⟩ := H
  exact ⟨h1, h2, ⟨now, tn, a1, by omega, a3⟩, h4⟩
theorem ed_B_up {k k' : Nat} {fg x ty a b t tm tg y ev g : Nat → Int32} (hk : k ≤ k') (H : ed_B k fg x ty a b t tm tg y ev g) : ed_B k' fg x ty a b t tm tg y ev g := by
  obtain ⟨h, H⟩ := H
  exact ⟨h, ed_C_up hk H⟩
theorem ed_K_up {k k' : Nat} {xk fK : Int32} {fg x ty a b t tm tg y ev g : Nat → Int32} (hk : k ≤ k') (H : ed_K k xk fK fg x ty a b t tm tg y ev g) : ed_K k' xk fK fg x ty a b t tm tg y ev g := by
  rcases H with H | ⟨h1, h2, H⟩
  · exact Or.inl H
  · exact Or.inr ⟨h1, h2, ed_B_up hk H⟩
theorem ed_C_cg {k h hi : Nat} {hs : Nat → Nat} {fg x ty a b t tm tg y ev g fg' x' ty' a' b' t' tm' tg' y' ev' g' : Nat → Int32} (e0 : ∀ j, j < 4 → fg' j = fg j) (e1 : ∀ j, j < 594 → x' j = x j) (e2 : ∀ j, j < 64 → ty' j = ty j) (e3 : ∀ j, j < 64 → a' j = a j) (e4 : ∀ j, j < 64 → b' j = b j) (e5 : ∀ j, j < 64 → t' j = t j) (e6 : ∀ j, j < 64 → tm' j = tm j) (e7 : ∀ j, j < 64 → tg' j = tg j) (e8 : ∀ j, j < 600 → y' j = y j) (e9 : ∀ j, j < 256 → ev' j = ev j) (e10 : ∀ j, j < 4 → g' j = g j) (H : ed_C k h hi hs fg x ty a b t tm tg y ev g) : ed_C k h hi hs fg' x' ty' a' b' t' tm' tg' y' ev' g' := by
  obtain ⟨h1, ⟨h2, h3⟩, ⟨now, tn, a1, a2, a3, a4⟩, h5, h6⟩ := H
  refine ⟨?_, ⟨h2, h3⟩, ⟨now, tn, ?_, a2, ?_, a4⟩, ?_, ?_⟩
  · rw [e0 0 (by omega), e0 1 (by omega), e0 2 (by omega), e0 3 (by omega), e10 0 (by omega), e10 1 (by omega), e10 2 (by omega), e10 3 (by omega)]
    exact h1
  · rw [e0 2 (by omega)]; exact a1
  · intro i hi'
    rw [e5 i (by omega)]; exact a3 i hi'
  · intro i hi'
    rw [e9 _ (by omega), e9 _ (by omega), e9 _ (by omega), e9 _ (by omega), e2 i (by omega), e3 i (by omega), e4 i (by omega), e5 i (by omega)]
    exact h5 i hi'
  · intro s hs6
    obtain ⟨p1, p2⟩ := h6 s hs6
    refine ⟨p1, ?_⟩
    unfold ed_S at p2 ⊢
    refine ed_Q_cg (by omega) ?_ ?_ ?_ ?_ p2
    · intro j hj; exact e1 _ (by omega)
    · intro j hj; exact e8 _ (by omega)
    · intro i hi'; exact ⟨e2 i (by omega), e3 i (by omega), e4 i (by omega), e5 i (by omega)⟩
    · intro i hi'
      rw [e6 i (by omega), e7 i (by omega)]
      exact ⟨fun _ _ => rfl, rfl⟩
/-- one slot changes, the others stand -/
theorem ed_C_slot {k h hi s : Nat} {hs : Nat → Nat} {fg x ty a b t tm tg y ev g x' y' tm' tg' : Nat → Int32} (n : Nat) (hn : n ≤ h) (hs6 : s < 6) (ex : ∀ j, j < 594 → (j < 99 * s ∨ 99 * s + 99 ≤ j) → x' j = x j) (ey : ∀ j, j < 600 → (j < 100 * s ∨ 100 * s + 100 ≤ j) → y' j = y j) (em : ∀ i, i < hi → ∀ l, (l < 3 * s ∨ 3 * s + 3 ≤ l) → bt (tm' i) l = bt (tm i) l) (eg : ∀ i, i < hi → ∀ l, l ≠ s → bt (tg' i) l = bt (tg i) l) (Q : ed_S s n hi x' ty a b t tm' tg' y') (H : ed_C k h hi hs fg x ty a b t tm tg y ev g) : ed_C k h hi (fun j => if j = s then n else hs j) fg x' ty a b t tm' tg' y' ev g := by
  obtain ⟨h1, h2, h3, h4, h5⟩ := H
  refine ⟨h1, h2, h3, h4, fun z hz => ?_⟩
  dsimp only
  by_cases e : z = s
  · subst e
    rw [if_pos rfl]
    exact ⟨hn, Q⟩
  · rw [if_neg e]
    obtain ⟨p1, p2⟩ := h5 z hz
    refine ⟨p1, ?_⟩
    unfold ed_S at p2 ⊢
    refine ed_Q_cg (by omega) ?_ ?_ ?_ ?_ p2
    · intro j hj; exact ex _ (by omega) (by omega)
    · intro j hj; exact ey _ (by omega) (by omega)
    · intro i hi'; exact ⟨rfl, rfl, rfl, rfl⟩
    · intro i hi'
      exact ⟨fun w hw => em i hi' _ (by omega), eg i hi' _ e⟩
theorem ed_hs_eq {h s : Nat} : (fun j => if j = s then h else (fun _ => h) j) = (fun _ : Nat => h) := by
  funext j
  by_cases e : j = s
  · rw [if_pos e]
  · rw [if_neg e]
theorem i_up {k : Nat} {u : SX} {v : SY} (h : i_Rel k u v) : i_Rel (k + 6) u v := by
  obtain ⟨xl, xw, xk, xP, xL, xF, xQ, xT, xA, xB, xC, xM, xG, kF, kQ, kT, kA, kB, kC, kM, kG, xS, xZ⟩ := u
  obtain ⟨fT, fL, fK, fW, fB, fH, fO, aT, aL, aQ, aE, aG, aKQ, aKE, aKG, aW, aS, aM, aV, aZ, aB⟩ := v
  obtain ⟨a, b, c, d, e⟩ := h
  exact ⟨a, b, c, ed_B_up (by omega) d, ed_K_up (by omega) e⟩
