/-! the relation, slot by slot: lx, ly are the slot's own cells on both sides -/
def ed_ce (x : Nat → Int32) (p : Nat) (y : Nat → Int32) (q : Nat) : Prop :=
  x p = y q ∧ ∀ i, i < 12 → x (p + 1 + i) = y (q + 1 + 2 * i) ∧ x (p + 13 + i) = y (q + 2 + 2 * i)
def ed_cv (x : Nat → Int32) (p : Nat) : Prop := ∃ n, x p = nI n ∧ ed_ok (fun i => x (p + 1 + i)) n
def ed_me (x : Nat → Int32) (p : Nat) (a b ty t : Int32) : Prop :=
  ed_pe (fun i => x (p + 1 + i)) (fun i => x (p + 13 + i)) a b ty t (x p).toNatClampNeg 0 ≠ 0
def ed_M (l ty a b t : Nat → Int32) (w i : Nat) : Prop := ed_me l (24 + 25 * w) (a i) (b i) (ty i) (t i)
def ed_Qe (lx ly : Nat → Int32) : Prop :=
  lx 9 = ly 6 ∧ lx 10 = ly 7 ∧ lx 11 = ly 8 ∧ lx 12 = ly 9 ∧ lx 13 = ly 10 ∧ lx 14 = ly 11 ∧ lx 23 = ly 20 ∧ (∀ w, w < 3 → ed_ce lx (24 + 25 * w) ly (24 + 25 * w))
def ed_Qw (c : Nat) (lx ly : Nat → Int32) : Prop :=
  lx 0 = 1 ∧ c = 1 ∧ ∃ vw to gr : Nat, vw ≤ 5 ∧ to ≤ 5 ∧ gr ≤ 1 ∧ lx 3 = nI vw ∧ ly 1 = nI vw ∧ lx 1 = ly 2 ∧ (vw ≠ 0 → vw ≠ 4 → ∃ n, 1 ≤ n ∧ n ≤ 100 ∧ lx 1 = nI n) ∧ lx 4 = nI to ∧ ly 3 = nI to ∧ lx 5 = nI gr ∧ ly 4 = nI gr
def ed_Qp (c hs f : Nat) (lx ly ty a b t : Nat → Int32) (gb : Nat → Bool) : Prop :=
  lx 0 = 2 ∧ (c = 2 ∨ c = 3) ∧ ∃ eq on : Nat, eq ≤ 1 ∧ on ≤ 1 ∧ lx 1 = ly 1 ∧ lx 6 = ly 2 ∧ lx 7 = nI eq ∧ ly 3 = nI eq ∧ lx 8 = nI on ∧ ly 4 = nI on ∧ ∀ i, f ≤ i → i < hs → (gb i = true ↔ ∃ k, i < k ∧ k < hs ∧ 0 < ed_mt (ed_M lx ty a b t) (c - 1) ty a t (lx 6) (eq = 1) (lx 1) i k)
def ed_Qj (c : Nat) (lx ly : Nat → Int32) : Prop :=
  lx 0 = 3 ∧ c = 2 ∧ ∃ n m : Nat, 1 ≤ n ∧ n ≤ 16 ∧ 1 ≤ m ∧ m ≤ 16 ∧ lx 1 = nI n ∧ ly 1 = nI n ∧ lx 2 = nI m ∧ ly 2 = nI m
def ed_Qs (f g c r hs hi : Nat) (lx ly ty a b t : Nat → Int32) (mb : Nat → Nat → Bool) (gb : Nat → Bool) : Prop :=
  (f ≤ hs ∧ g ≤ hs ∧ 1 ≤ r ∧ r ≤ 8 ∧ c ≤ 3) ∧ (lx 12 = nI f ∧ lx 14 = nI g ∧ lx 23 = nI c ∧ lx 10 = nI r) ∧ ed_Qe lx ly ∧ (∀ j, j < 8 → j < g → lx (15 + j) = ly (12 + j)) ∧ (∀ w, w < c → ed_cv lx (24 + 25 * w)) ∧ (∀ i w, f ≤ i → i < hs → w < c → (mb i w = true ↔ ed_M lx ty a b t w i)) ∧ (∀ i, hs ≤ i → i < hi → (∀ w, w < 3 → mb i w = false) ∧ gb i = false) ∧ (ed_Qw c lx ly ∨ ed_Qp c hs f lx ly ty a b t gb ∨ ed_Qj c lx ly)
def ed_Q (hs hi : Nat) (lx ly ty a b t : Nat → Int32) (mb : Nat → Nat → Bool) (gb : Nat → Bool) : Prop :=
  lx 0 = ly 0 ∧ (lx 0 = 0 ∨ ∃ f g c r : Nat, ed_Qs f g c r hs hi lx ly ty a b t mb gb)
theorem ed_me_cg {x x' : Nat → Int32} {p p' : Nat} {a b ty t : Int32} (v : ed_cv x p) (h : ∀ j, j < 25 → x' (p' + j) = x (p + j)) : ed_me x' p' a b ty t ↔ ed_me x p a b ty t := by
  obtain ⟨n, e, o⟩ := v
  have hn : n ≤ 12 := o.1
  have e' : x' p' = nI n := (h 0 (by omega)).trans e
  unfold ed_me
  rw [e, e', nI_clamp (by omega)]
  have : ed_pe (fun i => x' (p' + 1 + i)) (fun i => x' (p' + 13 + i)) a b ty t n = ed_pe (fun i => x (p + 1 + i)) (fun i => x (p + 13 + i)) a b ty t n := by
    apply ed_pe_cg
    · intro i hi
      have := h (1 + i) (by omega)
      simpa only [Nat.add_assoc] using this
    · intro i hi
      have := h (13 + i) (by omega)
      simpa only [Nat.add_assoc] using this
  rw [this]
theorem ed_cv_cg {x x' : Nat → Int32} {p p' : Nat} (v : ed_cv x p) (h : ∀ j, j < 25 → x' (p' + j) = x (p + j)) : ed_cv x' p' := by
  obtain ⟨n, e, o⟩ := v
  refine ⟨n, (h 0 (by omega)).trans e, ed_ok_cg (fun i hi => ?_) o⟩
  have hn : n ≤ 12 := o.1
  have := h (1 + i) (by omega)
  simp only [Nat.add_assoc] at this ⊢
  exact this.symm
theorem ed_ce_cg {x x' y y' : Nat → Int32} {p p' q q' : Nat} (v : ed_ce x p y q) (h : ∀ j, j < 25 → x' (p' + j) = x (p + j)) (g : ∀ j, j < 25 → y' (q' + j) = y (q + j)) : ed_ce x' p' y' q' := by
  refine ⟨((h 0 (by omega)).trans v.1).trans (g 0 (by omega)).symm, fun i hi => ?_⟩
  obtain ⟨v1, v2⟩ := v.2 i hi
  have a1 := h (1 + i) (by omega)
  have a2 := h (13 + i) (by omega)
  have b1 := g (1 + 2 * i) (by omega)
  have b2 := g (2 + 2 * i) (by omega)
  simp only [Nat.add_assoc] at v1 v2 a1 a2 b1 b2 ⊢
  exact ⟨(a1.trans v1).trans b1.symm, (a2.trans v2).trans b2.symm⟩
theorem ed_mt_cg {M M' : Nat → Nat → Prop} {last : Nat} {Ty Ty' A A' T T' : Nat → Int32} {st N : Int32} {eq : Prop} {f e : Nat} (hfe : f < e) (hl : last ≤ 2) (hl1 : 1 ≤ last) (hM : ∀ w i, w ≤ last → f ≤ i → i ≤ e → (M' w i ↔ M w i)) (h : ∀ i, i ≤ e → Ty' i = Ty i ∧ A' i = A i ∧ T' i = T i) : ed_mt M' last Ty' A' T' st eq N f e = ed_mt M last Ty A T st eq N f e := by
  have nb : ∀ p q, q ≤ e → (ed_nb Ty' st p q ↔ ed_nb Ty st p q) := by
    intro p q hq
    constructor
    · intro z j h1 h2; rw [← (h j (by omega)).1]; exact z j h1 h2
    · intro z j h1 h2; rw [(h j (by omega)).1]; exact z j h1 h2
  have c1 : (M' 0 f ∧ M' last e ∧ ¬ N ≤ T' e - T' f) ↔ (M 0 f ∧ M last e ∧ ¬ N ≤ T e - T f) := by
    rw [hM 0 f (by omega) (by omega) (by omega), hM last e (by omega) (by omega) (by omega), (h e (by omega)).2.2, (h f (by omega)).2.2]
  have c2 : ed_b (ed_nb Ty' st f e ∧ (eq → A' f = A' e)) = ed_b (ed_nb Ty st f e ∧ (eq → A f = A e)) := by
    apply ed_bcg
    rw [nb f e (by omega), (h e (by omega)).2.1, (h f (by omega)).2.1]
  have c3 : ed_cn (ed_md (M' 1) Ty' A' st eq f e) (f + 1) (e - f - 1) = ed_cn (ed_md (M 1) Ty A st eq f e) (f + 1) (e - f - 1) := by
    apply ed_cn_cg
    intro i h1 h2
    unfold ed_md
    rw [hM 1 i (by omega) (by omega) (by omega), nb f i (by omega), nb i e (by omega), (h f (by omega)).2.1, (h i (by omega)).2.1, (h e (by omega)).2.1]
  unfold ed_mt
  rw [c2, c3]
  rcases Classical.em (M 0 f ∧ M last e ∧ ¬ N ≤ T e - T f) with z | z
  · rw [if_pos z, if_pos (c1.mpr z)]
  · rw [if_neg z, if_neg (fun q => z (c1.mp q))]
theorem ed_Qs_upd {f g c r hs hi g' r' : Nat} {lx ly lx' ly' ty a b t ty' a' b' t' : Nat → Int32} {mb mb' : Nat → Nat → Bool} {gb gb' : Nat → Bool} (hl : hs ≤ hi) (e1 : ∀ j, j < 99 → (j ≤ 8 ∨ j = 12 ∨ 23 ≤ j) → lx' j = lx j) (e2 : ∀ j, j < 100 → (j ≤ 5 ∨ j = 9 ∨ 20 ≤ j) → ly' j = ly j) (e3 : ∀ i, i < hs → ty' i = ty i ∧ a' i = a i ∧ b' i = b i ∧ t' i = t i) (e4 : ∀ i, i < hi → (∀ w, w < 3 → mb' i w = mb i w) ∧ gb' i = gb i) (hg' : g' ≤ hs) (hr' : 1 ≤ r' ∧ r' ≤ 8) (n14' : lx' 14 = nI g') (n10' : lx' 10 = nI r') (q9' : lx' 9 = ly' 6) (q10' : lx' 10 = ly' 7) (q11' : lx' 11 = ly' 8) (q13' : lx' 13 = ly' 10) (q14' : lx' 14 = ly' 11) (ho' : ∀ j, j < 8 → j < g' → lx' (15 + j) = ly' (12 + j)) (H : ed_Qs f g c r hs hi lx ly ty a b t mb gb) : ed_Qs f g' c r' hs hi lx' ly' ty' a' b' t' mb' gb' := by
  obtain ⟨⟨hf, hg, hr1, hr8, hc⟩, ⟨n12, n14, n23, n10⟩, ⟨q9, q10, q11, q12, q13, q14, q23, qc⟩, ho, hv, hm, hz, hq⟩ := H
  have g0 : lx' 0 = lx 0 := e1 0 (by omega) (by omega)
  have sx : ∀ w, w < 3 → ∀ j, j < 25 → lx' (24 + 25 * w + j) = lx (24 + 25 * w + j) := fun w hw j hj => e1 _ (by omega) (by omega)
  have sy : ∀ w, w < 3 → ∀ j, j < 25 → ly' (24 + 25 * w + j) = ly (24 + 25 * w + j) := fun w hw j hj => e2 _ (by omega) (by omega)
  have hM : ∀ w i, w < c → i < hs → (ed_M lx' ty' a' b' t' w i ↔ ed_M lx ty a b t w i) := by
    intro w i hw hi
    unfold ed_M
    obtain ⟨x1, x2, x3, x4⟩ := e3 i hi
    rw [x1, x2, x3, x4]
    exact ed_me_cg (hv w hw) (sx w (by omega))
  have k1 : lx' 1 = lx 1 := e1 1 (by omega) (by omega)
  have k6 : lx' 6 = lx 6 := e1 6 (by omega) (by omega)
  have k12 : lx' 12 = lx 12 := e1 12 (by omega) (by omega)
  have k23 : lx' 23 = lx 23 := e1 23 (by omega) (by omega)
  refine ⟨⟨hf, hg', hr'.1, hr'.2, hc⟩, ⟨k12.trans n12, n14', k23.trans n23, n10'⟩, ⟨q9', q10', q11', ?_, q13', q14', ?_, fun w hw => ed_ce_cg (qc w hw) (sx w hw) (sy w hw)⟩, ho', ?_, ?_, ?_, ?_⟩
  · rw [k12, e2 9 (by omega) (by omega)]; exact q12
  · rw [k23, e2 20 (by omega) (by omega)]; exact q23
  · exact fun w hw => ed_cv_cg (hv w hw) (sx w (by omega))
  · intro i w h1 h2 h3
    rw [(e4 i (by omega)).1 w (by omega), hM w i h3 h2]; exact hm i w h1 h2 h3
  · intro i h1 h2
    refine ⟨fun w hw => ?_, ?_⟩
    · rw [(e4 i h2).1 w hw]; exact (hz i h1 h2).1 w hw
    · rw [(e4 i h2).2]; exact (hz i h1 h2).2
  · rcases hq with hq | hq | hq
    · refine Or.inl ?_
      unfold ed_Qw
      rw [g0, k1, e1 3 (by omega) (by omega), e1 4 (by omega) (by omega), e1 5 (by omega) (by omega), e2 1 (by omega) (by omega), e2 2 (by omega) (by omega), e2 3 (by omega) (by omega), e2 4 (by omega) (by omega)]
      exact hq
    · refine Or.inr (Or.inl ?_)
      unfold ed_Qp
      rw [g0, k1, k6, e1 7 (by omega) (by omega), e1 8 (by omega) (by omega), e2 1 (by omega) (by omega), e2 2 (by omega) (by omega), e2 3 (by omega) (by omega), e2 4 (by omega) (by omega)]
      obtain ⟨z0, zc, eq, on, z1, z2, z3, z4, z5, z6, z7, z8, zb⟩ := hq
      refine ⟨z0, zc, eq, on, z1, z2, z3, z4, z5, z6, z7, z8, fun i h1 h2 => ?_⟩
      rw [(e4 i (by omega)).2, zb i h1 h2]
      have mm : ∀ k, i < k → k < hs → ed_mt (ed_M lx' ty' a' b' t') (c - 1) ty' a' t' (lx 6) (eq = 1) (lx 1) i k = ed_mt (ed_M lx ty a b t) (c - 1) ty a t (lx 6) (eq = 1) (lx 1) i k := by
        intro k h3 h4
        exact ed_mt_cg h3 (by omega) (by omega) (fun w j hw _ hj => hM w j (by omega) (by omega)) (fun j hj => ⟨(e3 j (by omega)).1, (e3 j (by omega)).2.1, (e3 j (by omega)).2.2.2⟩)
      constructor
      · rintro ⟨k, h3, h4, h5⟩; exact ⟨k, h3, h4, by rw [mm k h3 h4]; exact h5⟩
      · rintro ⟨k, h3, h4, h5⟩; exact ⟨k, h3, h4, by rw [← mm k h3 h4]; exact h5⟩
    · refine Or.inr (Or.inr ?_)
      unfold ed_Qj
      rw [g0, k1, e1 2 (by omega) (by omega), e2 1 (by omega) (by omega), e2 2 (by omega) (by omega)]
      exact hq
theorem ed_Q_cg {hs hi : Nat} {lx ly lx' ly' ty a b t ty' a' b' t' : Nat → Int32} {mb mb' : Nat → Nat → Bool} {gb gb' : Nat → Bool} (hl : hs ≤ hi) (e1 : ∀ j, j < 99 → lx' j = lx j) (e2 : ∀ j, j < 100 → ly' j = ly j) (e3 : ∀ i, i < hs → ty' i = ty i ∧ a' i = a i ∧ b' i = b i ∧ t' i = t i) (e4 : ∀ i, i < hi → (∀ w, w < 3 → mb' i w = mb i w) ∧ gb' i = gb i) (h : ed_Q hs hi lx ly ty a b t mb gb) : ed_Q hs hi lx' ly' ty' a' b' t' mb' gb' := by
  obtain ⟨h0, h⟩ := h
  have g0 : lx' 0 = lx 0 := e1 0 (by omega)
  refine ⟨(g0.trans h0).trans (e2 0 (by omega)).symm, ?_⟩
  rcases h with h | ⟨f, g, c, r, H⟩
  · exact Or.inl (g0.trans h)
  have H' := H
  obtain ⟨⟨hf, hg, hr1, hr8, hc⟩, ⟨n12, n14, n23, n10⟩, ⟨q9, q10, q11, q12, q13, q14, q23, qc⟩, ho, hv, hm, hz, hq⟩ := H'
  refine Or.inr ⟨f, g, c, r, ed_Qs_upd hl (fun j h1 _ => e1 j h1) (fun j h1 _ => e2 j h1) e3 e4 hg ⟨hr1, hr8⟩ ((e1 14 (by omega)).trans n14) ((e1 10 (by omega)).trans n10) ?_ ?_ ?_ ?_ ?_ ?_ H⟩
  · rw [e1 9 (by omega), e2 6 (by omega)]; exact q9
  · rw [e1 10 (by omega), e2 7 (by omega)]; exact q10
  · rw [e1 11 (by omega), e2 8 (by omega)]; exact q11
  · rw [e1 13 (by omega), e2 10 (by omega)]; exact q13
  · rw [e1 14 (by omega), e2 11 (by omega)]; exact q14
  · intro j h1 h2
    rw [e1 _ (by omega), e2 _ (by omega)]; exact ho j h1 h2
