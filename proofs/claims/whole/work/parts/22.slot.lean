/-! what an event does to a slot's own relation -/
theorem ed_lx_cv {x : Nat → Int32} {s w : Nat} : ed_cv (fun j => x (99 * s + j)) (24 + 25 * w) ↔ ed_cv x (99 * s + 24 + 25 * w) := by
  constructor
  · intro h; exact ed_cv_cg h (fun j _ => by simp only [Nat.add_assoc])
  · intro h; exact ed_cv_cg h (fun j _ => by simp only [Nat.add_assoc])
theorem ed_lx_ce {x y : Nat → Int32} {s w : Nat} (h : ed_ce (fun j => x (99 * s + j)) (24 + 25 * w) (fun j => y (100 * s + j)) (24 + 25 * w)) : ed_ce x (99 * s + 24 + 25 * w) y (100 * s + 24 + 25 * w) :=
  ed_ce_cg h (fun j _ => by simp only [Nat.add_assoc]) (fun j _ => by simp only [Nat.add_assoc])
theorem ed_lx_me {x : Nat → Int32} {s w : Nat} {a b ty t : Int32} (h : ed_cv (fun j => x (99 * s + j)) (24 + 25 * w)) : ed_me x (99 * s + 24 + 25 * w) a b ty t ↔ ed_me (fun j => x (99 * s + j)) (24 + 25 * w) a b ty t :=
  ed_me_cg h (fun j _ => by simp only [Nat.add_assoc])
/-- the event e has gone to the slot: bits of e, began bits -/
theorem ed_step {f g c r e hi s : Nat} {x y ty a b t tm tg tm' tg' : Nat → Int32} (he : e < hi) (H : ed_Qs f g c r e hi (fun j => x (99 * s + j)) (fun j => y (100 * s + j)) ty a b t (fun i w => bt (tm i) (3 * s + w)) (fun i => bt (tg i) s)) (m1 : ∀ j, j ≠ e → tm' j = tm j) (m2 : ∀ l, bt (tm' e) l = true ↔ (bt (tm e) l = true ∨ ∃ w, w < c ∧ l = 3 * s + w ∧ ed_me x (99 * s + 24 + 25 * w) (a e) (b e) (ty e) (t e))) (g1 : ∀ j, e ≤ j → j < hi → bt (tg' j) s = bt (tg j) s) (g2 : ∀ eq on : Nat, x (99 * s) = 2 → eq ≤ 1 → on ≤ 1 → x (99 * s + 7) = nI eq → x (99 * s + 8) = nI on → ∀ j, f ≤ j → j < e → (bt (tg' j) s = true ↔ (bt (tg j) s = true ∨ 0 < ed_wt (ed_M (fun j => x (99 * s + j)) ty a b t) (c - 1) ty a t (x (99 * s + 6)) (x (99 * s + 1)) eq on (fun j => bt (tg j) s = true) e j))) : ed_Qs f g c r (e + 1) hi (fun j => x (99 * s + j)) (fun j => y (100 * s + j)) ty a b t (fun i w => bt (tm' i) (3 * s + w)) (fun i => bt (tg' i) s) := by
  obtain ⟨⟨hf, hg, hr1, hr8, hc⟩, n, Q, ho, hv, hm, hz, hq⟩ := H
  refine ⟨⟨by omega, by omega, hr1, hr8, hc⟩, n, Q, ho, hv, ?_, ?_, ?_⟩
  · intro i w h1 h2 h3
    by_cases e0 : i = e
    · subst e0
      dsimp only
      rw [m2]
      have hz0 : bt (tm i) (3 * s + w) = false := (hz i (Nat.le_refl _) he).1 w (by omega)
      rw [hz0]
      constructor
      · rintro (q | ⟨w', q1, q2, q3⟩)
        · exact absurd q (by decide)
        · have : w' = w := by omega
          subst this
          exact (ed_lx_me (hv w' q1)).mp q3
      · intro q
        exact Or.inr ⟨w, h3, rfl, (ed_lx_me (hv w h3)).mpr q⟩
    · dsimp only
      rw [m1 i e0]
      exact hm i w h1 (by omega) h3
  · intro i h1 h2
    dsimp only
    rw [m1 i (by omega), g1 i (by omega) h2]
    exact hz i (by omega) h2
  · rcases hq with hq | hq | hq
    · exact Or.inl hq
    · obtain ⟨z0, zc, eq, on, z1, z2, z3, z4, z5, z6, z7, z8, zb⟩ := hq
      refine Or.inr (Or.inl ⟨z0, zc, eq, on, z1, z2, z3, z4, z5, z6, z7, z8, fun i h1 h2 => ?_⟩)
      by_cases e0 : i = e
      · subst e0
        dsimp only
        have hz2 : bt (tg i) s = false := (hz i (Nat.le_refl _) he).2
        rw [g1 i (Nat.le_refl _) he, hz2]
        exact ⟨fun q => absurd q (by decide), fun ⟨k, q1, q2, _⟩ => by omega⟩
      · have ie : i < e := by omega
        have zi := zb i h1 ie
        dsimp only at zi ⊢
        have zx : x (99 * s) = 2 := z0
        rw [g2 eq on zx z1 z2 z5 z7 i h1 (by omega), ed_wt_gw z2 zi, zi]
        unfold ed_gw
        constructor
        · rintro (⟨k, q1, q2, q3⟩ | q)
          · exact ⟨k, q1, by omega, q3⟩
          · rcases Classical.em (on = 1 ∧ ∃ k, i < k ∧ k < e ∧ 0 < ed_mt (ed_M (fun j => x (99 * s + j)) ty a b t) (c - 1) ty a t (x (99 * s + 6)) (eq = 1) (x (99 * s + 1)) i k) with y | y
            · rw [if_pos y] at q; omega
            · rw [if_neg y] at q; exact ⟨e, ie, Nat.lt_succ_self _, q⟩
        · rintro ⟨k, q1, q2, q3⟩
          by_cases ke : k = e
          · subst ke
            rcases Classical.em (on = 1 ∧ ∃ q, i < q ∧ q < k ∧ 0 < ed_mt (ed_M (fun j => x (99 * s + j)) ty a b t) (c - 1) ty a t (x (99 * s + 6)) (eq = 1) (x (99 * s + 1)) i q) with y | y
            · exact Or.inl y.2
            · exact Or.inr (by rw [if_neg y]; exact q3)
          · exact Or.inl ⟨k, q1, by omega, q3⟩
    · exact Or.inr (Or.inr hq)
theorem ed_vw_cg {mem : Nat → Prop} {T A T' A' : Nat → Int32} {kind : Nat} {N : Int32} {e i : Nat} (hT : ∀ j, j ≤ e → T' j = T j) (hA : ∀ j, j ≤ e → A' j = A j) (hi : i ≤ e) : ed_vw mem T' A' kind N e i ↔ ed_vw mem T A kind N e i := by
  unfold ed_vw
  rw [hT e (Nat.le_refl _), hT i hi, hA i hi]
  have c1 : (∀ j, i ≤ j → j ≤ e → mem j → T' (ed_nx mem e (e - j)) - T' j < N) ↔ (∀ j, i ≤ j → j ≤ e → mem j → T (ed_nx mem e (e - j)) - T j < N) := by
    constructor
    · intro g j a b c; rw [← hT j b, ← hT _ (ed_nx_le mem e (e - j))]; exact g j a b c
    · intro g j a b c; rw [hT j b, hT _ (ed_nx_le mem e (e - j))]; exact g j a b c
  have c2 : (∀ j, i < j → j ≤ e → mem j → A' j ≠ A i) ↔ (∀ j, i < j → j ≤ e → mem j → A j ≠ A i) := by
    constructor
    · intro g j a b c; rw [← hA j b]; exact g j a b c
    · intro g j a b c; rw [hA j b]; exact g j a b c
  rw [c1, c2]
/-! longs -/
theorem ed_l64 (x y : Int32) : x.toInt64 ≤ y.toInt64 ↔ x ≤ y := by
  rw [Int64.le_iff_toInt_le, Int32.le_iff_toInt_le, Int32.toInt_toInt64, Int32.toInt_toInt64]
theorem ed_no (x : Int32) : ¬ x.toInt64 = 1099511627776 := by
  intro h
  have h2 := congrArg Int64.toInt h
  rw [Int32.toInt_toInt64, show (1099511627776 : Int64).toInt = 1099511627776 by decide] at h2
  have := x.toInt_lt
  omega
theorem ed_l32 (x : Int32) : x.toInt64.toInt32 = x := by simp
