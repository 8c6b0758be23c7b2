/-! rows of kit/rows, pasted -/
theorem pk_us {f : Nat → Int32} {k : Nat} {x : Int32} : upd f k x k = x := if_pos rfl
theorem pk_un {f : Nat → Int32} {k j : Nat} {x : Int32} (h : j ≠ k) : upd f k x j = f j := if_neg h
theorem pk_sub {a b : Nat} (h : b ≤ a) : nI a - nI b = nI (a - b) := by
  obtain ⟨c, rfl⟩ : ∃ c, a = c + b := ⟨a - b, by omega⟩
  rw [← nI_add, Int32.add_sub_cancel, Nat.add_sub_cancel]
theorem pk_m1 (n : Nat) : nI (n + 1) + (-1) = nI n := by
  rw [← nI_1, Int32.add_assoc, show (1 : Int32) + (-1) = 0 from rfl, Int32.add_zero]
theorem pk_mul (a b : Nat) : nI a * nI b = nI (a * b) := (Int32.ofNat_mul a b).symm
theorem pk_div {a d : Nat} (ha : a < 2 ^ 31) (h0 : 0 < d) (hd : d < 2 ^ 31) : nI a / nI d = nI (a / d) := by
  apply Int32.toInt_inj.mp
  rw [lg_idiv_nonneg (by rw [nI_toInt ha]; omega) (by rw [nI_toInt hd]; omega), nI_toInt ha, nI_toInt hd, nI_toInt (Nat.lt_of_le_of_lt (Nat.div_le_self a d) ha)]
  first | rfl | exact (Int.natCast_ediv _ _).symm
theorem pk_rem {a d : Nat} (ha : a < 2 ^ 31) (h0 : 0 < d) (hd : d < 2 ^ 31) : nI a - nI a / nI d * nI d = nI (a % d) := by
  rw [pk_div ha h0 hd, pk_mul, pk_sub (Nat.div_mul_le_self a d)]
  exact congrArg nI (by have := Nat.div_add_mod' a d; omega)
theorem pk_sub_toInt {a b : Nat} (ha : a < 2 ^ 30) (hb : b < 2 ^ 30) : (nI a - nI b).toInt = (a : Int) - b := by
  rw [Int32.toInt_sub, nI_toInt (by omega), nI_toInt (by omega)]
  exact Int.bmod_eq_of_le (by omega) (by omega)
theorem pk_sneg {a b : Nat} (hb : b < 2 ^ 30) (h : a < b) : nI a - nI b < 0 := by
  rw [Int32.lt_iff_toInt_lt, pk_sub_toInt (by omega) hb, show (0 : Int32).toInt = 0 from by decide]
  omega
theorem pk_ix (x : Int32) {n : Nat} (hn : n < 2 ^ 31) : x < 0 ∨ nI n ≤ x ∨ ∃ j : Nat, j < n ∧ x = nI j := by
  by_cases h : x < 0
  · exact Or.inl h
  · obtain ⟨j, hj, rfl⟩ := nI_of h
    by_cases h2 : j < n
    · exact Or.inr (Or.inr ⟨j, h2, rfl⟩)
    · exact Or.inr (Or.inl (nI_le (by omega) hj))
theorem pk_le {x y : Int32} {A B : Prop} (a b : Nat) (f : a ≤ b → A) (g : b < a → B) (hx : x = nI a := by rfl) (hy : y = nI b := by rfl) (ha : a < 2 ^ 31 := by omega) (hb : b < 2 ^ 31 := by omega) : (x ≤ y → A) ∧ (¬ x ≤ y → B) := by
  subst hx hy
  rw [nI_leI ha hb]
  exact ⟨f, fun z => g (by omega)⟩
theorem pk_lt {x y : Int32} {A B : Prop} (a b : Nat) (f : a < b → A) (g : b ≤ a → B) (hx : x = nI a := by rfl) (hy : y = nI b := by rfl) (ha : a < 2 ^ 31 := by omega) (hb : b < 2 ^ 31 := by omega) : (x < y → A) ∧ (¬ x < y → B) := by
  subst hx hy
  rw [nI_ltI ha hb]
  exact ⟨f, fun z => g (by omega)⟩
theorem pk_eq {x y : Int32} {A B : Prop} (a b : Nat) (f : a = b → A) (g : a ≠ b → B) (hx : x = nI a := by rfl) (hy : y = nI b := by rfl) (ha : a < 2 ^ 31 := by omega) (hb : b < 2 ^ 31 := by omega) : (x = y → A) ∧ (¬ x = y → B) := by
  subst hx hy
  rw [nI_eq ha hb]
  exact ⟨f, g⟩
theorem pk_in {x : Int32} (n N : Nat) (h : n < N) (hx : x = nI n := by rfl) (hN : N < 2 ^ 31 := by omega) : vp_in x N := by
  subst hx
  exact vp_in_nI h hN
theorem pk_cl {x : Int32} (n : Nat) (hx : x = nI n := by rfl) (h : n < 2 ^ 31 := by omega) : x.toNatClampNeg = n := by
  subst hx
  exact nI_clamp h
theorem pk_tn {n : Nat} (h : n < 2 ^ 32) : (nI n).toBitVec.toNat = n := Nat.mod_eq_of_lt h
theorem pk_and (x : Int32) {m : Int32} (k : Nat) (hm : m.toBitVec.toNat = 2 ^ k - 1) : x &&& m = nI (x.toBitVec.toNat % 2 ^ k) := by
  apply Int32.toBitVec_inj.mp
  apply BitVec.eq_of_toNat_eq
  rw [Int32.toBitVec_and, BitVec.toNat_and, hm, Nat.and_two_pow_sub_one_eq_mod]
  show _ = (BitVec.ofNat 32 _).toNat
  rw [BitVec.toNat_ofNat]
  exact (Nat.mod_eq_of_lt (Nat.lt_of_le_of_lt (Nat.mod_le _ _) x.toBitVec.isLt)).symm
theorem pk_andN {n : Nat} (h : n < 2 ^ 32) {m : Int32} (k : Nat) (hm : m.toBitVec.toNat = 2 ^ k - 1) : nI n &&& m = nI (n % 2 ^ k) := by
  rw [pk_and _ k hm, pk_tn h]
def bt (x : Int32) (i : Nat) : Bool := x.toBitVec.getLsbD i
theorem b_ext {x y : Int32} (h : ∀ i, i < 32 → bt x i = bt y i) : x = y := Int32.toBitVec_inj.mp (BitVec.eq_of_getLsbD_eq (fun i hi => h i hi))
theorem b_or (x y : Int32) (i : Nat) : bt (x ||| y) i = (bt x i || bt y i) := by unfold bt; rw [Int32.toBitVec_or, BitVec.getLsbD_or]
theorem b_and (x y : Int32) (i : Nat) : bt (x &&& y) i = (bt x i && bt y i) := by unfold bt; rw [Int32.toBitVec_and, BitVec.getLsbD_and]
theorem b_0 (i : Nat) : bt 0 i = false := BitVec.getLsbD_zero
theorem b_big {x : Int32} {i : Nat} (h : 32 ≤ i) : bt x i = false := BitVec.getLsbD_of_ge _ _ h
theorem nf_sh : ∀ l, l < 32 → ((1 : Int32) <<< (nI l &&& 31)).toBitVec = BitVec.twoPow 32 l := by decide +kernel
/-! bits -/
theorem ed_tp (l i : Nat) (hl : l < 32) : bt ((1 : Int32) <<< (nI l &&& 31)) i = decide (l = i) := by
  unfold bt
  rw [nf_sh l hl, BitVec.getLsbD_twoPow]
  simp [hl]
theorem ed_bit (m : Int32) (l : Nat) (hl : l < 32) : (m &&& ((1 : Int32) <<< (nI l &&& 31))) = 0 ↔ bt m l = false := by
  constructor
  · intro h
    have e := b_and m ((1 : Int32) <<< (nI l &&& 31)) l
    rw [h, b_0, ed_tp l l hl] at e
    simpa using e.symm
  · intro h
    apply b_ext
    intro i _
    rw [b_and, ed_tp l i hl, b_0]
    by_cases e : l = i
    · subst e; rw [h]; rfl
    · simp [e]
theorem ed_bset (m : Int32) (l i : Nat) (hl : l < 32) : bt (m ||| ((1 : Int32) <<< (nI l &&& 31))) i = (bt m i || decide (l = i)) := by
  rw [b_or, ed_tp l i hl]
/-! counting -/
noncomputable def ed_b (P : Prop) : Nat := @ite Nat P (Classical.propDecidable P) 1 0
theorem ed_bt {P : Prop} (h : P) : ed_b P = 1 := by unfold ed_b; rw [if_pos h]
theorem ed_bf {P : Prop} (h : ¬ P) : ed_b P = 0 := by unfold ed_b; rw [if_neg h]
theorem ed_ble (P : Prop) : ed_b P ≤ 1 := by
  rcases Classical.em P with h | h
  · rw [ed_bt h]; omega
  · rw [ed_bf h]; omega
theorem ed_bcg {P Q : Prop} (h : P ↔ Q) : ed_b P = ed_b Q := by
  rcases Classical.em P with p | p
  · rw [ed_bt p, ed_bt (h.mp p)]
  · rw [ed_bf p, ed_bf (fun q => p (h.mpr q))]
noncomputable def ed_cn (P : Nat → Prop) (f : Nat) : Nat → Nat
  | 0 => 0
  | d + 1 => ed_cn P f d + ed_b (P (f + d))
theorem ed_cn_front (P : Nat → Prop) (f d : Nat) : ed_cn P f (d + 1) = ed_b (P f) + ed_cn P (f + 1) d := by
  induction d with
  | zero => simp [ed_cn]
  | succ d ih =>
    have e : f + (d + 1) = f + 1 + d := by omega
    rw [ed_cn, ih, ed_cn, e]
    omega
theorem ed_cn_le (P : Nat → Prop) (f d : Nat) : ed_cn P f d ≤ d := by
  induction d with
  | zero => simp [ed_cn]
  | succ d ih =>
    have := ed_ble (P (f + d))
    rw [ed_cn]; omega
theorem ed_cn_cg {P Q : Nat → Prop} {f : Nat} : ∀ {d : Nat}, (∀ i, f ≤ i → i < f + d → (P i ↔ Q i)) → ed_cn P f d = ed_cn Q f d
  | 0, _ => rfl
  | d + 1, h => by
    rw [ed_cn, ed_cn, ed_cn_cg (d := d) (fun i a b => h i a (by omega)), ed_bcg (h (f + d) (by omega) (by omega))]
theorem ed_cn_0 {P : Nat → Prop} {f : Nat} : ∀ {d : Nat}, (∀ i, f ≤ i → i < f + d → ¬ P i) → ed_cn P f d = 0
  | 0, _ => rfl
  | d + 1, h => by
    rw [ed_cn, ed_cn_0 (d := d) (fun i a b => h i a (by omega)), ed_bf (h (f + d) (by omega) (by omega))]
theorem ed_cn_pos {P : Nat → Prop} {f : Nat} : ∀ {d : Nat}, 0 < ed_cn P f d → ∃ i, f ≤ i ∧ i < f + d ∧ P i
  | 0, h => by simp [ed_cn] at h
  | d + 1, h => by
    rcases Classical.em (P (f + d)) with p | p
    · exact ⟨f + d, by omega, by omega, p⟩
    · rw [ed_cn, ed_bf p] at h
      obtain ⟨i, a, b, c⟩ := ed_cn_pos (d := d) h
      exact ⟨i, a, by omega, c⟩
theorem ed_cn_ge {P : Nat → Prop} {f i : Nat} (p : P i) (h : f ≤ i) : ∀ {d : Nat}, i < f + d → 0 < ed_cn P f d
  | 0, z => by omega
  | d + 1, z => by
    rw [ed_cn]
    by_cases e : i = f + d
    · subst e; rw [ed_bt p]; omega
    · have := ed_cn_ge p h (d := d) (by omega)
      omega
/-! lists of values, sums, sorted arrays -/
noncomputable def ed_bs (P : Nat → Prop) (B : Nat → Int32) (f : Nat) : Nat → List Int32
  | 0 => []
  | d + 1 => @ite _ (P (f + d)) (Classical.propDecidable _) (B (f + d) :: ed_bs P B f d) (ed_bs P B f d)
theorem ed_bs_t {P : Nat → Prop} {B : Nat → Int32} {f d : Nat} (h : P (f + d)) : ed_bs P B f (d + 1) = B (f + d) :: ed_bs P B f d := by rw [ed_bs, if_pos h]
theorem ed_bs_f {P : Nat → Prop} {B : Nat → Int32} {f d : Nat} (h : ¬ P (f + d)) : ed_bs P B f (d + 1) = ed_bs P B f d := by rw [ed_bs, if_neg h]
theorem ed_bs_ft {P : Nat → Prop} {B : Nat → Int32} {f : Nat} (h : P f) : ∀ d, (ed_bs P B f (d + 1)).Perm (B f :: ed_bs P B (f + 1) d)
  | 0 => by rw [ed_bs_t (d := 0) h]; exact List.Perm.refl _
  | d + 1 => by
    have e : f + (d + 1) = f + 1 + d := by omega
    rcases Classical.em (P (f + (d + 1))) with p | p
    · rw [ed_bs_t (d := d + 1) p]
      rw [e] at p
      rw [ed_bs_t (d := d) p, e]
      exact ((ed_bs_ft h d).cons _).trans (List.Perm.swap _ _ _)
    · rw [ed_bs_f (d := d + 1) p]
      rw [e] at p
      rw [ed_bs_f (d := d) p]
      exact ed_bs_ft h d
theorem ed_bs_ff {P : Nat → Prop} {B : Nat → Int32} {f : Nat} (h : ¬ P f) : ∀ d, ed_bs P B f (d + 1) = ed_bs P B (f + 1) d
  | 0 => by rw [ed_bs_f (d := 0) h]; rfl
  | d + 1 => by
    have e : f + (d + 1) = f + 1 + d := by omega
    rcases Classical.em (P (f + (d + 1))) with p | p
    · rw [ed_bs_t (d := d + 1) p]
      rw [e] at p
      rw [ed_bs_t (d := d) p, e, ed_bs_ff h d]
    · rw [ed_bs_f (d := d + 1) p]
      rw [e] at p
      rw [ed_bs_f (d := d) p, ed_bs_ff h d]
theorem ed_bs_cg {P Q : Nat → Prop} {B C : Nat → Int32} {f : Nat} : ∀ {d : Nat}, (∀ i, f ≤ i → i < f + d → (P i ↔ Q i)) → (∀ i, f ≤ i → i < f + d → B i = C i) → ed_bs P B f d = ed_bs Q C f d
  | 0, _, _ => rfl
  | d + 1, h, g => by
    have ih := ed_bs_cg (d := d) (fun i a b => h i a (by omega)) (fun i a b => g i a (by omega))
    have hp := h (f + d) (by omega) (by omega)
    rcases Classical.em (P (f + d)) with p | p
    · rw [ed_bs_t p, ed_bs_t (hp.mp p), ih, g (f + d) (by omega) (by omega)]
    · rw [ed_bs_f p, ed_bs_f (fun q => p (hp.mpr q)), ih]
theorem ed_bs_skip {P : Nat → Prop} {B : Nat → Int32} {g : Nat} : ∀ {c d : Nat}, (∀ i, g ≤ i → i < g + c → ¬ P i) → ed_bs P B g (c + d) = ed_bs P B (g + c) d
  | 0, d, _ => by rw [Nat.zero_add]; rfl
  | c + 1, d, h => by
    rw [show c + 1 + d = c + (d + 1) by omega, ed_bs_skip (c := c) (d := d + 1) (fun i a b => h i a (by omega)), ed_bs_ff (h (g + c) (by omega) (by omega))]
    rfl
def ed_ls : List Int32 → Int32
  | [] => 0
  | x :: l => x + ed_ls l
theorem ed_ls_perm {l m : List Int32} (p : l.Perm m) : ed_ls l = ed_ls m := by
  induction p with
  | nil => rfl
  | cons x _ ih => simp only [ed_ls, ih]
  | swap x y l => simp only [ed_ls]; rw [← Int32.add_assoc, ← Int32.add_assoc, Int32.add_comm y x]
  | trans _ _ a b => exact a.trans b
def ed_sm (S : Nat → Int32) : Nat → Int32
  | 0 => 0
  | n + 1 => ed_sm S n + S n
theorem ed_ls_app (l : List Int32) (x : Int32) : ed_ls (l ++ [x]) = ed_ls l + x := by
  induction l with
  | nil => simp only [List.nil_append, ed_ls]; rw [Int32.add_zero, Int32.zero_add]
  | cons y l ih => simp only [List.cons_append, ed_ls, ih]; rw [Int32.add_assoc]
theorem ed_sm_ls (S : Nat → Int32) : ∀ n, ed_sm S n = ed_ls ((List.range n).map S)
  | 0 => rfl
  | n + 1 => by
    rw [List.range_succ, List.map_append, ed_sm, ed_sm_ls S n]
    exact (ed_ls_app _ _).symm
def ed_st (S : Nat → Int32) (n : Nat) (L : List Int32) : Prop :=
  (∀ i j, i < j → j < n → S i ≤ S j) ∧ ((List.range n).map S).Perm L
theorem ed_st_0 (S : Nat → Int32) : ed_st S 0 [] := ⟨fun _ _ _ h => absurd h (Nat.not_lt_zero _), List.Perm.refl _⟩
theorem ed_st_p {S : Nat → Int32} {n : Nat} {L M : List Int32} (h : ed_st S n L) (p : L.Perm M) : ed_st S n M := ⟨h.1, h.2.trans p⟩
theorem ed_st_len {S : Nat → Int32} {n : Nat} {L : List Int32} (h : ed_st S n L) : L.length = n := by
  have := h.2.length_eq
  simpa using this.symm
theorem ed_st_sum {S : Nat → Int32} {n : Nat} {L : List Int32} (h : ed_st S n L) : ed_sm S n = ed_ls L := by
  rw [ed_sm_ls]; exact ed_ls_perm h.2
theorem ed_st_pw {S : Nat → Int32} {n : Nat} {L : List Int32} (h : ed_st S n L) : ((List.range n).map S).Pairwise (· ≤ ·) := by
  rw [List.pairwise_iff_getElem]
  intro i j hi hj hij
  simp only [List.length_map, List.length_range] at hi hj
  simp only [List.getElem_map, List.getElem_range]
  exact h.1 i j hij hj
theorem ed_st_eq {S T : Nat → Int32} {n m : Nat} {L M : List Int32} (h : ed_st S n L) (g : ed_st T m M) (p : L.Perm M) : n = m ∧ ∀ j, j < n → S j = T j := by
  have e : (List.range n).map S = (List.range m).map T :=
    List.Perm.eq_of_pairwise (le := fun a b : Int32 => a ≤ b) (fun a b _ _ x y => Int32.le_antisymm x y) (ed_st_pw h) (ed_st_pw g) (h.2.trans (p.trans g.2.symm))
  have en : n = m := by
    have := congrArg List.length e
    simpa using this
  subst en
  refine ⟨rfl, fun j hj => ?_⟩
  have := congrArg (fun l : List Int32 => l[j]?) e
  simpa [hj] using this
theorem ed_st_ins {S T : Nat → Int32} {n p : Nat} {L : List Int32} {v : Int32} (h : ed_st S n L) (hp : p ≤ n) (hlo : ∀ j, j < p → S j ≤ v) (hhi : ∀ j, p ≤ j → j < n → v ≤ S j) (h1 : ∀ j, j < p → T j = S j) (h2 : T p = v) (h3 : ∀ j, p ≤ j → j < n → T (j + 1) = S j) : ed_st T (n + 1) (v :: L) := by
  constructor
  · intro i j hij hj
    rcases Nat.lt_trichotomy j p with c | c | c
    · rw [h1 i (by omega), h1 j c]; exact h.1 i j hij (by omega)
    · subst c; rw [h2, h1 i hij]; exact hlo i hij
    · obtain ⟨j, rfl⟩ : ∃ q, j = q + 1 := ⟨j - 1, by omega⟩
      rw [h3 j (by omega) (by omega)]
      rcases Nat.lt_trichotomy i p with c2 | c2 | c2
      · rw [h1 i c2]; exact h.1 i j (by omega) (by omega)
      · subst c2; rw [h2]; exact hhi j (by omega) (by omega)
      · obtain ⟨i, rfl⟩ : ∃ q, i = q + 1 := ⟨i - 1, by omega⟩
        rw [h3 i (by omega) (by omega)]
        exact h.1 i j (by omega) (by omega)
  · obtain ⟨d, rfl⟩ : ∃ d, n = p + d := ⟨n - p, by omega⟩
    have eS : (List.range (p + d)).map S = (List.range p).map S ++ (List.range d).map (fun j => S (p + j)) := by
      rw [List.range_add, List.map_append, List.map_map]; rfl
    have eT : (List.range (p + d + 1)).map T = (List.range p).map S ++ v :: (List.range d).map (fun j => S (p + j)) := by
      rw [show p + d + 1 = p + (d + 1) by omega, List.range_add, List.map_append, List.map_map, List.range_succ_eq_map, List.map_cons, List.map_map]
      congr 1
      · exact List.map_congr_left (fun j hj => h1 j (List.mem_range.mp hj))
      · congr 1
        exact List.map_congr_left (fun j hj => h3 (p + j) (by omega) (by have := List.mem_range.mp hj; omega))
    rw [eT]
    refine List.perm_middle.trans (List.Perm.cons v ?_)
    rw [← eS]
    exact h.2
