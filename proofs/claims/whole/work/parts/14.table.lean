/-! Y's table of conditions met -/
def ed_MY (aQ aE : Nat → Int32) (s w i : Nat) : Prop := ed_pe (fun j => aQ (100 * s + 24 + 25 * w + 1 + 2 * j)) (fun j => aQ (100 * s + 24 + 25 * w + 2 + 2 * j)) (aE (4 * i + 1)) (aE (4 * i + 2)) (aE (4 * i)) (aE (4 * i + 3)) (aQ (100 * s + 24 + 25 * w)).toNatClampNeg 0 ≠ 0
theorem ed_MY_ok {x y : Nat → Int32} {p q : Nat} (ce : ed_ce x p y q) (cv : ed_cv x p) : ∃ n, y q = nI n ∧ ed_ok (fun j => y (q + 1 + 2 * j)) n := by
  obtain ⟨n, e, o⟩ := cv
  exact ⟨n, ce.1.symm.trans e, ed_ok_cg (fun i hi => (ce.2 i (by have := o.1; omega)).1) o⟩
theorem ed_MY_iff {x aQ aE ty a b t : Nat → Int32} {s w i : Nat} (ce : ed_ce x (99 * s + 24 + 25 * w) aQ (100 * s + 24 + 25 * w)) (cv : ed_cv x (99 * s + 24 + 25 * w)) (ev : aE (4 * i) = ty i ∧ aE (4 * i + 1) = a i ∧ aE (4 * i + 2) = b i ∧ aE (4 * i + 3) = t i) : ed_MY aQ aE s w i ↔ ed_me x (99 * s + 24 + 25 * w) (a i) (b i) (ty i) (t i) := by
  obtain ⟨n, e, o⟩ := cv
  have hn := o.1
  unfold ed_MY ed_me
  rw [ev.1, ev.2.1, ev.2.2.1, ev.2.2.2, ← ce.1, e, nI_clamp (by omega)]
  rw [ed_pe_cg (n := n) (o := fun j => aQ (100 * s + 24 + 25 * w + 1 + 2 * j)) (v := fun j => aQ (100 * s + 24 + 25 * w + 2 + 2 * j)) (o' := fun i => x (99 * s + 24 + 25 * w + 1 + i)) (v' := fun i => x (99 * s + 24 + 25 * w + 13 + i)) (fun i hi => (ce.2 i (by omega)).1.symm) (fun i hi => (ce.2 i (by omega)).2.symm)]
section
variable {xl xw xk : Int32} {xP xL xF xQ xT xA xB xC xM xG kF kQ kT kA kB kC kM kG xS xZ : Nat → Int32}
variable {fT fL fK fW fB fH fO : Int32} {aT aL aQ aE aG aKQ aKE aKG aW aS aM aV aZ aB : Nat → Int32}
theorem yv_42 {s w e n : Nat} (hs : s < 6) (hw : w < 3) (he : e < 64) (en : aQ (100 * s + 24 + 25 * w) = nI n) (ok : ed_ok (fun i => aQ (100 * s + 24 + 25 * w + 1 + 2 * i)) n) : ∀ (m i : Nat) (S M : Nat → Int32), i + m = e + 1 → ∃ st M', (∀ j, i ≤ j → j ≤ e → M' (64 * w + j) = ed_bi (ed_MY aQ aE s w j)) ∧ (∀ j, (j < 64 * w + i ∨ 64 * w + e < j) → M' j = M j) ∧ ∀ (post : SY → Prop) (J : (Int32 → Int32 → Int32 → Int32 → Int32 → Int32 → Int32 → Int32 → (Nat → Int32) → (Nat → Int32) → (Nat → Int32) → (Nat → Int32) → (Nat → Int32) → (Nat → Int32) → (Nat → Int32) → (Nat → Int32) → (Nat → Int32) → (Nat → Int32) → (Nat → Int32) → (Nat → Int32) → (Nat → Int32) → (Nat → Int32) → Prop)), J (nI (w + 1)) fT fL fK fW fB fH fO aT aL aQ aE aG aKQ aKE aKG aW st M' aV aZ aB → wY_ask_42 post J (nI s) (nI e) (nI w) (m + 1) (nI i) fT fL fK fW fB fH fO aT aL aQ aE aG aKQ aKE aKG aW S M aV aZ aB := by
  intro m
  induction m with
  | zero =>
    intro i S M hi
    exact ⟨S, M, fun j h1 h2 => by omega, fun _ _ => rfl, fun post J h => br_t (nI_lt (by omega) (by omega)) (nm_r (nI_1 w) h)⟩
  | succ m ih =>
    intro i S M hi
    obtain ⟨S1, h1⟩ := yv_meets (fT := fT) (fL := fL) (fK := fK) (fW := fW) (fB := fB) (fH := fH) (fO := fO) (aT := aT) (aL := aL) (aG := aG) (aKQ := aKQ) (aKE := aKE) (aKG := aKG) (aW := aW) (aS := S) (aM := M) (aV := aV) (aZ := aZ) (aB := aB) (aE := aE) (e := i) hs hw (by omega) en ok
    have eM : (ed_pe (fun i => aQ (100 * s + 24 + 25 * w + 1 + 2 * i)) (fun i => aQ (100 * s + 24 + 25 * w + 2 + 2 * i)) (aE (4 * i + 1)) (aE (4 * i + 2)) (aE (4 * i)) (aE (4 * i + 3)) n 0 ≠ 0) = ed_MY aQ aE s w i := by
      unfold ed_MY; rw [en, nI_clamp (by have := ok.1; omega)]
    rw [eM] at h1
    obtain ⟨st, M', a1, a2, a3⟩ := ih (i + 1) S1 (upd M (64 * w + i) (ed_bi (ed_MY aQ aE s w i))) (by omega)
    have e64 : (64 : Int32) * nI w + nI i = nI (64 * w + i) := by rw [show (64 : Int32) * nI w = nI (64 * w) from pk_mul 64 w, nI_add]
    refine ⟨st, M', ?_, ?_, fun post J h => br_f (nI_nlt (by omega) (by omega)) (h1 _ ⟨by rw [e64]; exact vp_in_nI (by omega) (by omega), nm_r (e' := upd M (64 * w + i) (ed_bi (ed_MY aQ aE s w i))) (by rw [e64, ed_nbi, nI_clamp (by omega)]) (nm_r (nI_1 i) (a3 post J h))⟩)⟩
    · intro j h2 h3
      by_cases e0 : j = i
      · subst e0; rw [a2 _ (by omega), pk_us]
      · exact a1 j (by omega) h3
    · intro j h2
      rw [a2 j (by omega), pk_un (by omega)]
theorem yv_12 {s c e f : Nat} (hs : s < 6) (hc : c ≤ 3) (he : e < 64) (hf : f ≤ e) (c20 : aQ (100 * s + 20) = nI c) (c9 : aQ (100 * s + 9) = nI f) (hv : ∀ w, w < c → ∃ n, aQ (100 * s + 24 + 25 * w) = nI n ∧ ed_ok (fun i => aQ (100 * s + 24 + 25 * w + 1 + 2 * i)) n) : ∀ (m w : Nat) (S M : Nat → Int32), w + m = c → ∃ st M', (∀ v j, w ≤ v → v < c → f ≤ j → j ≤ e → M' (64 * v + j) = ed_bi (ed_MY aQ aE s v j)) ∧ (∀ j, j < 64 * w → M' j = M j) ∧ ∀ (post : SY → Prop), wY_ask_12 post (nI s) (nI e) 1 (nI c) fT fL fK fW fB fH fO aT aL aQ aE aG aKQ aKE aKG aW st M' aV aZ aB → wY_ask_12 post (nI s) (nI e) (m + 1) (nI w) fT fL fK fW fB fH fO aT aL aQ aE aG aKQ aKE aKG aW S M aV aZ aB := by
  have w20 := ed_y s 20 hs (by omega)
  have w9 := ed_y s 9 hs (by omega)
  have d20 : (100 * nI s + 20).toNatClampNeg = 100 * s + 20 := w20.2
  have d9 : (100 * nI s + 9).toNatClampNeg = 100 * s + 9 := w9.2
  intro m
  induction m with
  | zero =>
    intro w S M hw
    have e0 : w = c := by omega
    subst e0
    exact ⟨S, M, fun v j h1 h2 => by omega, fun _ _ => rfl, fun post h => h⟩
  | succ m ih =>
    intro w S M hw
    obtain ⟨n, en, ok⟩ := hv w (by omega)
    obtain ⟨S1, M1, a1, a2, a3⟩ := yv_42 (fT := fT) (fL := fL) (fK := fK) (fW := fW) (fB := fB) (fH := fH) (fO := fO) (aT := aT) (aL := aL) (aE := aE) (aG := aG) (aKQ := aKQ) (aKE := aKE) (aKG := aKG) (aW := aW) (aV := aV) (aZ := aZ) (aB := aB) hs (by omega) he en ok (e + 1 - f) f S M (by omega)
    obtain ⟨st, M', b1, b2, b3⟩ := ih (w + 1) S1 M1 (by omega)
    refine ⟨st, M', ?_, ?_, fun post h => ⟨w20.1, br_f (by rw [d20, c20]; exact nI_ge (by omega) (by omega)) ⟨w9.1, nm_r (e' := nI f) (by rw [d9]; exact c9) ⟨e + 1 - f + 1, a3 post _ (b3 post h)⟩⟩⟩⟩
    · intro v j h1 h2 h3 h4
      by_cases e0 : v = w
      · subst e0; rw [b2 _ (by omega)]; exact a1 j h3 h4
      · exact b1 v j (by omega) h2 h3 h4
    · intro j hj
      rw [b2 j (by omega), a2 j (by omega)]
theorem yv_tab {s c e f : Nat} (hs : s < 6) (hc : c ≤ 3) (he : e < 64) (hf : f ≤ e) (c20 : aQ (100 * s + 20) = nI c) (c9 : aQ (100 * s + 9) = nI f) (hv : ∀ w, w < c → ∃ n, aQ (100 * s + 24 + 25 * w) = nI n ∧ ed_ok (fun i => aQ (100 * s + 24 + 25 * w + 1 + 2 * i)) n) : ∃ st M', (∀ v j, v < c → f ≤ j → j ≤ e → M' (64 * v + j) = ed_bi (ed_MY aQ aE s v j)) ∧ ∀ (post : SY → Prop), wY_ask_12 post (nI s) (nI e) 1 (nI c) fT fL fK fW fB 0 0 aT aL aQ aE aG aKQ aKE aKG aW st M' aV aZ aB → wpY_ask post (fT, fL, fK, fW, fB, fH, fO, aT, aL, aQ, aE, aG, aKQ, aKE, aKG, aW, aS, aM, aV, aZ, aB) (nI s) (nI e) := by
  obtain ⟨st, M', a1, _, a3⟩ := yv_12 (fT := fT) (fL := fL) (fK := fK) (fW := fW) (fB := fB) (fH := 0) (fO := 0) (aT := aT) (aL := aL) (aE := aE) (aG := aG) (aKQ := aKQ) (aKE := aKE) (aKG := aKG) (aW := aW) (aV := aV) (aZ := aZ) (aB := aB) hs hc he hf c20 c9 hv c 0 aS aM (by omega)
  exact ⟨st, M', fun v j h1 h2 h3 => a1 v j (Nat.zero_le _) h1 h2 h3, fun post h => ⟨c + 1, a3 post h⟩⟩
end
