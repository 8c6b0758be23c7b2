/-! Y's window -/
theorem ed_bi_cg {P Q : Prop} (h : P ↔ Q) : ed_bi P = ed_bi Q := by
  rcases Classical.em P with p | p
  · rw [ed_bi_t p, ed_bi_t (h.mp p)]
  · rw [ed_bi_f p, ed_bi_f (fun q => p (h.mpr q))]
theorem ed_upd2 (f : Nat → Int32) (k : Nat) (x y : Int32) : upd (upd f k x) k y = upd f k y := by
  funext j
  by_cases e : j = k
  · subst e; rw [pk_us, pk_us]
  · rw [pk_un e, pk_un e, pk_un e]
section
variable {fT fL fK fW fB fH fO : Int32} {aT aL aQ aE aG aKQ aKE aKG aW aS aM aV aZ aB : Nat → Int32}
theorem yb_time {post : Int32 → Prop} {i : Nat} (hi : i < 64) (h : post (aE (4 * i + 3))) : wpY_timeOf post (fT, fL, fK, fW, fB, fH, fO, aT, aL, aQ, aE, aG, aKQ, aKE, aKG, aW, aS, aM, aV, aZ, aB) (nI i) := by
  have f : (4 : Int32) * nI i + 3 = nI (4 * i + 3) := by rw [show (4 : Int32) * nI i = nI (4 * i) from pk_mul 4 i]; exact nI_add _ 3
  unfold wpY_timeOf
  dsimp only
  rw [f, nI_clamp (by omega)]
  exact ⟨vp_in_nI (by omega) (by omega), h⟩
theorem yb_a {post : Int32 → Prop} {i : Nat} (hi : i < 64) (h : post (aE (4 * i + 1))) : wpY_aOf post (fT, fL, fK, fW, fB, fH, fO, aT, aL, aQ, aE, aG, aKQ, aKE, aKG, aW, aS, aM, aV, aZ, aB) (nI i) := by
  have f : (4 : Int32) * nI i + 1 = nI (4 * i + 1) := by rw [show (4 : Int32) * nI i = nI (4 * i) from pk_mul 4 i]; exact nI_add _ 1
  unfold wpY_aOf
  dsimp only
  rw [f, nI_clamp (by omega)]
  exact ⟨vp_in_nI (by omega) (by omega), h⟩
theorem yb_b {post : Int32 → Prop} {i : Nat} (hi : i < 64) (h : post (aE (4 * i + 2))) : wpY_bOf post (fT, fL, fK, fW, fB, fH, fO, aT, aL, aQ, aE, aG, aKQ, aKE, aKG, aW, aS, aM, aV, aZ, aB) (nI i) := by
  have f : (4 : Int32) * nI i + 2 = nI (4 * i + 2) := by rw [show (4 : Int32) * nI i = nI (4 * i) from pk_mul 4 i]; exact nI_add _ 2
  unfold wpY_bOf
  dsimp only
  rw [f, nI_clamp (by omega)]
  exact ⟨vp_in_nI (by omega) (by omega), h⟩
theorem yv_latest {post : Int32 → Prop} {e f i : Nat} {mem : Nat → Prop} (he : e < 64) (hi : i ≤ e) (hfi : f ≤ i) (HM : ∀ j, f ≤ j → j ≤ e → aM j = ed_bi (mem j)) (h : post (ed_bi (∀ j, i < j → j ≤ e → mem j → aE (4 * j + 1) ≠ aE (4 * i + 1)))) : wpY_latest post (fT, fL, fK, fW, fB, fH, fO, aT, aL, aQ, aE, aG, aKQ, aKE, aKG, aW, aS, aM, aV, aZ, aB) (nI i) (nI e) := by
  have key : ∀ m k : Nat, k + m = e + 1 → i < k → (∀ j, i < j → j < k → mem j → aE (4 * j + 1) ≠ aE (4 * i + 1)) → wY_latest_4 post (nI i) (nI e) fT fL fK fW fB fH fO aT aL aQ aE aG aKQ aKE aKG aW aS aM aV aZ aB (m + 1) (nI k) := by
    intro m
    induction m with
    | zero =>
      intro k hk hik g
      rw [ed_bi_t (fun j a b => g j a (by omega))] at h
      exact br_t (nI_lt (by omega) (by omega)) h
    | succ m ih =>
      intro k hk hik g
      have ck : (nI k).toNatClampNeg = k := nI_clamp (by omega)
      refine br_f (nI_nlt (by omega) (by omega)) ⟨vp_in_nI (by omega) (by omega), ?_⟩
      rw [ck, HM k (by omega) (by omega)]
      rcases Classical.em (mem k) with z | z
      · refine br_f (by rw [ed_bi_t z]; decide) (yb_a (by omega) (yb_a (by omega) ?_))
        by_cases za : aE (4 * k + 1) = aE (4 * i + 1)
        · rw [ed_bi_f (fun q => q k hik (by omega) z za)] at h
          exact br_t za h
        · refine br_f za (nm_r (nI_1 k) (ih (k + 1) (by omega) (by omega) (fun j a b c => ?_)))
          by_cases e0 : j = k
          · subst e0; exact za
          · exact g j a (by omega) c
      · refine br_t (ed_bi_f z) (nm_r (nI_1 k) (ih (k + 1) (by omega) (by omega) (fun j a b c => ?_)))
        by_cases e0 : j = k
        · subst e0; exact absurd c z
        · exact g j a (by omega) c
  exact nm_r (nI_1 i) ⟨e - i + 1, key (e - i) (i + 1) (by omega) (by omega) (fun j a b => by omega)⟩
theorem yb_117 {post : SY → Prop} {J : (Int32 → Int32 → Int32 → Int32 → (Nat → Int32) → (Nat → Int32) → (Nat → Int32) → (Nat → Int32) → (Nat → Int32) → (Nat → Int32) → (Nat → Int32) → (Nat → Int32) → (Nat → Int32) → (Nat → Int32) → (Nat → Int32) → (Nat → Int32) → (Nat → Int32) → (Nat → Int32) → Prop)} {s e f i kind : Nat} {N : Int32} {mem : Nat → Prop} (he : e < 64) (hfi : f ≤ i) (hi : i ≤ e) (hk : kind ≤ 5) (z : mem i) (HM : ∀ j, f ≤ j → j ≤ e → aM j = ed_bi (mem j)) (hJ : J (nI (ed_cn mem (i + 1) (e - i) + 1)) (nI i) (ed_bi (∀ j, i ≤ j → j ≤ e → mem j → aE (4 * (ed_nx mem e (e - j)) + 3) - aE (4 * j + 3) < N)) (nI i + (-1)) aT aL aQ aE aG aKQ aKE aKG aW aS aM (upd aV i (ed_bi (ed_vw mem (fun j => aE (4 * j + 3)) (fun j => aE (4 * j + 1)) kind N e i))) aZ aB) : wY_windowOf_117 post J (nI s) (nI e) (nI kind) N (nI f) (nI (ed_cn mem (i + 1) (e - i))) (nI i) (ed_bi (∀ j, i ≤ j → j ≤ e → mem j → aE (4 * (ed_nx mem e (e - j)) + 3) - aE (4 * j + 3) < N)) fT fL fK fW fB fH fO aT aL aQ aE aG aKQ aKE aKG aW aS aM aV aZ aB := by
  have ci : (nI i).toNatClampNeg = i := nI_clamp (by omega)
  have vi : vp_in (nI i) 64 := vp_in_nI (by omega) (by omega)
  obtain ⟨op, hop⟩ : ∃ op, op = ed_bi (∀ j, i ≤ j → j ≤ e → mem j → aE (4 * (ed_nx mem e (e - j)) + 3) - aE (4 * j + 3) < N) := ⟨_, rfl⟩
  rw [← hop] at hJ ⊢
  have k187 : kind ≠ 4 → ∀ b : Int32, vp_nar .boolean b = ed_bi (ed_vw mem (fun j => aE (4 * j + 3)) (fun j => aE (4 * j + 1)) kind N e i) → wY_windowOf_187 post J (nI s) (nI e) (nI kind) N (nI f) (nI (ed_cn mem (i + 1) (e - i))) (nI i) op (nI i) b (nI i) fT fL fK fW fB fH fO aT aL aQ aE aG aKQ aKE aKG aW aS aM aV aZ aB := by
    intro k4 b hb
    refine ⟨vi, nm_r (e' := upd aV i (ed_bi (ed_vw mem (fun j => aE (4 * j + 3)) (fun j => aE (4 * j + 1)) kind N e i))) (by rw [ci, hb]) (br_f (fun q => k4 ((nI_eq (b := 4) (by omega) (by omega)).mp q)) (nm_r (nI_1 _) (nm_e hJ)))⟩
  have y1 : kind ≠ 4 → ed_vw mem (fun j => aE (4 * j + 3)) (fun j => aE (4 * j + 1)) kind N e i → wY_windowOf_182 post J (nI s) (nI e) (nI kind) N (nI f) (nI (ed_cn mem (i + 1) (e - i))) (nI i) op (nI i) (nI i) fT fL fK fW fB fH fO aT aL aQ aE aG aKQ aKE aKG aW aS aM aV aZ aB := fun k4 q => k187 k4 1 (by rw [ed_bi_t q]; exact ed_n1)
  have y0 : kind ≠ 4 → ¬ ed_vw mem (fun j => aE (4 * j + 3)) (fun j => aE (4 * j + 1)) kind N e i → wY_windowOf_186 post J (nI s) (nI e) (nI kind) N (nI f) (nI (ed_cn mem (i + 1) (e - i))) (nI i) op (nI i) (nI i) fT fL fK fW fB fH fO aT aL aQ aE aG aKQ aKE aKG aW aS aM aV aZ aB := fun k4 q => k187 k4 0 (by rw [ed_bi_f q]; exact ed_n0)
  have : kind = 0 ∨ kind = 1 ∨ kind = 2 ∨ kind = 3 ∨ kind = 4 ∨ kind = 5 := by omega
  unfold ed_vw at y1 y0
  rcases this with rfl | rfl | rfl | rfl | rfl | rfl
  · exact br_t rfl (y1 (by omega) ⟨z, Or.inl rfl⟩)
  · refine br_f (by decide) (br_f (by decide) (br_t rfl ?_))
    by_cases q : nI (ed_cn mem (i + 1) (e - i)) < N
    · exact br_t q (y1 (by omega) ⟨z, Or.inr (Or.inr (Or.inl ⟨Or.inl rfl, q⟩))⟩)
    · refine br_f q (br_f (by decide) (y0 (by omega) ?_))
      rintro ⟨_, y | ⟨y, _⟩ | ⟨_, y⟩ | ⟨y, _⟩ | ⟨y, _⟩⟩
      · omega
      · omega
      · exact q y
      · omega
      · omega
  · refine br_f (by decide) (br_t rfl (yb_time (by omega) (yb_time (by omega) ?_)))
    by_cases q : aE (4 * e + 3) - aE (4 * i + 3) < N
    · exact br_t q (y1 (by omega) ⟨z, Or.inr (Or.inl ⟨rfl, q⟩)⟩)
    · refine br_f q (br_f (by decide) (br_f (by decide) (br_f (by decide) (y0 (by omega) ?_))))
      rintro ⟨_, y | ⟨_, y⟩ | ⟨y, _⟩ | ⟨y, _⟩ | ⟨y, _⟩⟩
      · omega
      · exact q y
      · omega
      · omega
      · omega
  · refine br_f (by decide) (br_f (by decide) (br_f (by decide) (br_t rfl ?_)))
    by_cases q : nI (ed_cn mem (i + 1) (e - i)) < N
    · exact br_t q (y1 (by omega) ⟨z, Or.inr (Or.inr (Or.inl ⟨Or.inr rfl, q⟩))⟩)
    · refine br_f q (br_f (by decide) (y0 (by omega) ?_))
      rintro ⟨_, y | ⟨y, _⟩ | ⟨_, y⟩ | ⟨y, _⟩ | ⟨y, _⟩⟩
      · omega
      · omega
      · exact q y
      · omega
      · omega
  · have e4 : ed_bi (ed_vw mem (fun j => aE (4 * j + 3)) (fun j => aE (4 * j + 1)) 4 N e i) = ed_bi (∀ j, i < j → j ≤ e → mem j → aE (4 * j + 1) ≠ aE (4 * i + 1)) := by
      refine ed_bi_cg ⟨?_, fun q => ⟨z, Or.inr (Or.inr (Or.inr (Or.inr ⟨rfl, q⟩)))⟩⟩
      rintro ⟨_, y | ⟨y, _⟩ | ⟨y, _⟩ | ⟨y, _⟩ | ⟨_, y⟩⟩
      · omega
      · omega
      · omega
      · omega
      · exact y
    refine br_f (by decide) (br_f (by decide) (br_f (by decide) (br_f (by decide) (br_f (by decide) ⟨vi, nm_r (e' := upd aV i 0) (by rw [ci, ed_n0]) (br_t rfl (yv_latest he hi hfi HM ⟨vi, nm_r (e' := upd aV i (ed_bi (ed_vw mem (fun j => aE (4 * j + 3)) (fun j => aE (4 * j + 1)) 4 N e i))) ?_ (nm_r (nI_1 _) (nm_e hJ))⟩))⟩))))
    rw [ci, ed_upd2, ed_nbi, e4]
  · refine br_f (by decide) (br_f (by decide) (br_f (by decide) (br_f (by decide) (br_t rfl ?_))))
    rcases Classical.em (∀ j, i ≤ j → j ≤ e → mem j → aE (4 * (ed_nx mem e (e - j)) + 3) - aE (4 * j + 3) < N) with q | q
    · exact br_f (by rw [hop, ed_bi_t q]; decide) (y1 (by omega) ⟨z, Or.inr (Or.inr (Or.inr (Or.inl ⟨rfl, q⟩)))⟩)
    · refine br_t (by rw [hop, ed_bi_f q]) (y0 (by omega) ?_)
      rintro ⟨_, y | ⟨y, _⟩ | ⟨y, _⟩ | ⟨_, y⟩ | ⟨y, _⟩⟩
      · omega
      · omega
      · omega
      · exact q y
      · omega
theorem yv_w61 {s e f kind : Nat} {N : Int32} {mem : Nat → Prop} (he : e < 64) (hf : f ≤ e) (hk : kind ≤ 5) (HM : ∀ j, f ≤ j → j ≤ e → aM j = ed_bi (mem j)) : ∀ (m : Nat) (V : Nat → Int32), f + m ≤ e + 1 → (∀ j, f + m ≤ j → j ≤ e → V j = ed_bi (ed_vw mem (fun j => aE (4 * j + 3)) (fun j => aE (4 * j + 1)) kind N e j)) → ∃ V', (∀ j, f ≤ j → j ≤ e → V' j = ed_bi (ed_vw mem (fun j => aE (4 * j + 3)) (fun j => aE (4 * j + 1)) kind N e j)) ∧ ∀ post : SY → Prop, wY_windowOf_61 post (nI s) (nI e) (nI kind) N (nI f) fT fL fK fW fB fH fO 1 (nI (ed_cn mem f (e + 1 - f))) (nI (ed_nx mem e (e + 1 - f))) (ed_bi (∀ j, f ≤ j → j ≤ e → mem j → aE (4 * (ed_nx mem e (e - j)) + 3) - aE (4 * j + 3) < N)) (nI f + (-1)) aT aL aQ aE aG aKQ aKE aKG aW aS aM V' aZ aB → wY_windowOf_61 post (nI s) (nI e) (nI kind) N (nI f) fT fL fK fW fB fH fO (m + 1) (nI (ed_cn mem (f + m) (e + 1 - (f + m)))) (nI (ed_nx mem e (e + 1 - (f + m)))) (ed_bi (∀ j, f + m ≤ j → j ≤ e → mem j → aE (4 * (ed_nx mem e (e - j)) + 3) - aE (4 * j + 3) < N)) (nI (f + m) + (-1)) aT aL aQ aE aG aKQ aKE aKG aW aS aM V aZ aB := by
  intro m
  induction m with
  | zero =>
    intro V hm hV
    exact ⟨V, hV, fun post h => h⟩
  | succ m ih =>
    intro V hm hV
    obtain ⟨i, hi⟩ : ∃ i, i = f + m := ⟨_, rfl⟩
    have q1 : f + (m + 1) = i + 1 := by omega
    have q2 : e + 1 - (i + 1) = e - i := by omega
    have q3 : e + 1 - (f + m) = (e - i) + 1 := by omega
    have q4 : e - (e - i) = i := by omega
    rw [q1] at hV
    rw [q1, q2, pk_m1]
    have IH := ih
    rw [q3, ← hi] at IH
    have ci : (nI i).toNatClampNeg = i := nI_clamp (by omega)
    have vi : vp_in (nI i) 64 := vp_in_nI (by omega) (by omega)
    have vi2 : vp_in (nI i) 192 := vp_in_nI (by omega) (by omega)
    have nl : ¬ nI i < nI f := nI_nlt (by omega) (by omega)
    rcases Classical.em (mem i) with z | z
    rotate_left
    · have e1 : ed_cn mem i ((e - i) + 1) = ed_cn mem (i + 1) (e - i) := by rw [ed_cn_front, ed_bf z, Nat.zero_add]
      have e2 : ed_nx mem e ((e - i) + 1) = ed_nx mem e (e - i) := ed_nx_f (by rw [q4]; exact z)
      have e3 : ed_bi (∀ j, i + 1 ≤ j → j ≤ e → mem j → aE (4 * (ed_nx mem e (e - j)) + 3) - aE (4 * j + 3) < N) = ed_bi (∀ j, i ≤ j → j ≤ e → mem j → aE (4 * (ed_nx mem e (e - j)) + 3) - aE (4 * j + 3) < N) := by
        refine ed_bi_cg ⟨fun g j a b c => ?_, fun g j a b c => g j (by omega) b c⟩
        by_cases e0 : j = i
        · subst e0; exact absurd c z
        · exact g j (by omega) b c
      rw [e1, e2] at IH
      obtain ⟨V', h1, h2⟩ := IH (upd V i 0) (by omega) (by
        intro j a b
        by_cases e0 : j = i
        · subst e0; rw [pk_us, ed_bi_f (fun q => z q.1)]
        · rw [pk_un e0]; exact hV j (by omega) b)
      refine ⟨V', h1, fun post h => br_f nl ⟨vi, nm_r (e' := upd V i 0) (by rw [ci, ed_n0]) ⟨vi2, br_t (by rw [ci, HM i (by omega) (by omega), ed_bi_f z]) (nm_e ?_)⟩⟩⟩
      rw [e3]
      exact h2 post h
    · have e1 : ed_cn mem i ((e - i) + 1) = ed_cn mem (i + 1) (e - i) + 1 := by rw [ed_cn_front, ed_bt z, Nat.add_comm]
      have e2 : ed_nx mem e ((e - i) + 1) = i := by rw [ed_nx_t (by rw [q4]; exact z), q4]
      rw [e1, e2] at IH
      obtain ⟨V', h1, h2⟩ := IH (upd V i (ed_bi (ed_vw mem (fun j => aE (4 * j + 3)) (fun j => aE (4 * j + 1)) kind N e i))) (by omega) (by
        intro j a b
        by_cases e0 : j = i
        · subst e0; rw [pk_us]
        · rw [pk_un e0]; exact hV j (by omega) b)
      have nle := ed_nx_le mem e (e - i)
      refine ⟨V', h1, fun post h => br_f nl ⟨vi, nm_r (e' := upd V i 0) (by rw [ci, ed_n0]) ⟨vi2, br_f (by rw [ci, HM i (by omega) (by omega), ed_bi_t z]; decide) ?_⟩⟩⟩
      have g117 := yb_117 (fT := fT) (fL := fL) (fK := fK) (fW := fW) (fB := fB) (fH := fH) (fO := fO) (aT := aT) (aL := aL) (aQ := aQ) (aG := aG) (aKQ := aKQ) (aKE := aKE) (aKG := aKG) (aW := aW) (aS := aS) (aZ := aZ) (aB := aB) (aV := upd V i 0) (post := post) (J := wY_windowOf_61 post (nI s) (nI e) (nI kind) N (nI f) fT fL fK fW fB fH fO (m + 1)) (s := s) (kind := kind) (N := N) he (show f ≤ i by omega) (by omega) hk z HM (by rw [ed_upd2]; exact h2 post h)
      rcases Classical.em (∀ j, i + 1 ≤ j → j ≤ e → mem j → aE (4 * (ed_nx mem e (e - j)) + 3) - aE (4 * j + 3) < N) with o | o
      · refine br_f (by rw [ed_bi_t o]; decide) (yb_time (by omega) (yb_time (by omega) ?_))
        by_cases t : N ≤ aE (4 * (ed_nx mem e (e - i)) + 3) - aE (4 * i + 3)
        · refine br_t t ?_
          rw [ed_bi_f (fun g => absurd (g i (Nat.le_refl _) (by omega) z) (Int32.not_lt.mpr t))] at g117
          exact g117
        · refine br_f t ?_
          rw [ed_bi_t (fun j a b c => by
            by_cases e0 : j = i
            · subst e0; exact Int32.not_le.mp t
            · exact o j (by omega) b c)] at g117
          exact g117
      · refine br_t (ed_bi_f o) ?_
        rw [ed_bi_f (fun g => o (fun j a b c => g j (by omega) b c))] at g117
        exact g117
theorem yv_w254 {s e f : Nat} {P : Nat → Prop} (he : e < 64) (hf : f ≤ e) : ∀ (m i : Nat) (V : Nat → Int32), i + m = e + 1 → f ≤ i → (∀ j, f ≤ j → j < i → V j = ed_bi (P j ∧ aE (4 * j + 1) = aE (4 * e + 1))) → (∀ j, i ≤ j → j ≤ e → V j = ed_bi (P j)) → ∃ V', (∀ j, f ≤ j → j ≤ e → V' j = ed_bi (P j ∧ aE (4 * j + 1) = aE (4 * e + 1))) ∧ ∀ post : SY → Prop, wY_windowOf_302 post (nI s) (nI e) (nI f) fT fL fK fW fB fH fO aT aL aQ aE aG aKQ aKE aKG aW aS aM V' aZ aB → wY_windowOf_254 post (nI s) (nI e) (nI f) fT fL fK fW fB fH fO (m + 1) (nI i) aT aL aQ aE aG aKQ aKE aKG aW aS aM V aZ aB := by
  intro m
  induction m with
  | zero =>
    intro i V hi hfi h1 h2
    exact ⟨V, fun j a b => h1 j a (by omega), fun post h => br_t (nI_lt (by omega) (by omega)) h⟩
  | succ m ih =>
    intro i V hi hfi h1 h2
    have ci : (nI i).toNatClampNeg = i := nI_clamp (by omega)
    have vi : vp_in (nI i) 64 := vp_in_nI (by omega) (by omega)
    have hV := h2 i (Nat.le_refl _) (by omega)
    obtain ⟨V', a1, a2⟩ := ih (i + 1) (upd V i (ed_bi (P i ∧ aE (4 * i + 1) = aE (4 * e + 1)))) (by omega) (by omega) (by
      intro j a b
      by_cases e0 : j = i
      · subst e0; rw [pk_us]
      · rw [pk_un e0]; exact h1 j a (by omega)) (by
      intro j a b
      rw [pk_un (by omega)]; exact h2 j (by omega) b)
    refine ⟨V', a1, fun post h => br_f (nI_nlt (by omega) (by omega)) ⟨vi, ?_⟩⟩
    have H := a2 post h
    rw [ci, hV]
    rcases Classical.em (P i) with p | p
    · refine br_f (by rw [ed_bi_t p]; decide) (yb_a (by omega) (yb_a (by omega) ?_))
      by_cases za : aE (4 * i + 1) = aE (4 * e + 1)
      · rw [ed_bi_t ⟨p, za⟩] at H
        exact br_t za ⟨vi, nm_r (e' := upd V i 1) (by rw [ed_n1]) (nm_r (nI_1 i) H)⟩
      · rw [ed_bi_f (fun q => za q.2)] at H
        exact br_f za ⟨vi, nm_r (e' := upd V i 0) (by rw [ed_n0]) (nm_r (nI_1 i) H)⟩
    · rw [ed_bi_f (fun q => p q.1)] at H
      exact br_t (ed_bi_f p) ⟨vi, nm_r (e' := upd V i 0) (by rw [ed_n0]) (nm_r (nI_1 i) H)⟩
end
