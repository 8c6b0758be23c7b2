section
/-! rows of kit/rows, pasted -/
theorem pk_us {f : Nat → Int32} {k : Nat} {x : Int32} : upd f k x k = x := if_pos rfl
theorem pk_un {f : Nat → Int32} {k j : Nat} {x : Int32} (h : j ≠ k) : upd f k x j = f j := if_neg h
theorem pk_sub {a b : Nat} (h : b ≤ a) : nI a - nI b = nI (a - b) := by
  obtain ⟨c, rfl⟩ : ∃ c, a = c + b := ⟨a - b, by omega⟩
  rw [← nI_add, Int32.add_sub_cancel, Nat.add_sub_cancel]
theorem pk_m1 (n : Nat) : nI (n + 1) + (-1) = nI n := by
  rw [← nI_1, Int32.add_assoc, show (1 : Int32) + (-1) = 0 from rfl, Int32.add_zero]
theorem pk_mul (a b : Nat) : nI a * nI b = nI (a * b) := (Int32.ofNat_mul a b).symm
theorem pk_div {a d : Nat} (ha : a < 2 ^ 31) (h0 : 0 < d) (hd : d < 2 ^ 31) : nI a / nI d = nI (a / d) := by
  apply Int32.toInt_inj.mp
  rw [lg_idiv_nonneg (by rw [nI_toInt ha]; omega) (by rw [nI_toInt hd]; omega), nI_toInt ha, nI_toInt hd, nI_toInt (Nat.lt_of_le_of_lt (Nat.div_le_self a d) ha)]
  first | rfl | exact (Int.natCast_ediv _ _).symm
theorem pk_rem {a d : Nat} (ha : a < 2 ^ 31) (h0 : 0 < d) (hd : d < 2 ^ 31) : nI a - nI a / nI d * nI d = nI (a % d) := by
  rw [pk_div ha h0 hd, pk_mul, pk_sub (Nat.div_mul_le_self a d)]
  exact congrArg nI (by have := Nat.div_add_mod' a d; omega)
theorem pk_sub_toInt {a b : Nat} (ha : a < 2 ^ 30) (hb : b < 2 ^ 30) : (nI a - nI b).toInt = (a : Int) - b := by
  rw [Int32.toInt_sub, nI_toInt (by omega), nI_toInt (by omega)]
  exact Int.bmod_eq_of_le (by omega) (by omega)
theorem pk_sneg {a b : Nat} (hb : b < 2 ^ 30) (h : a < b) : nI a - nI b < 0 := by
  rw [Int32.lt_iff_toInt_lt, pk_sub_toInt (by omega) hb, show (0 : Int32).toInt = 0 from by decide]
  omega
theorem pk_ix (x : Int32) {n : Nat} (hn : n < 2 ^ 31) : x < 0 ∨ nI n ≤ x ∨ ∃ j : Nat, j < n ∧ x = nI j := by
  by_cases h : x < 0
  · exact Or.inl h
  · obtain ⟨j, hj, rfl⟩ := nI_of h
    by_cases h2 : j < n
    · exact Or.inr (Or.inr ⟨j, h2, rfl⟩)
    · exact Or.inr (Or.inl (nI_le (by omega) hj))
theorem pk_le {x y : Int32} {A B : Prop} (a b : Nat) (f : a ≤ b → A) (g : b < a → B) (hx : x = nI a := by rfl) (hy : y = nI b := by rfl) (ha : a < 2 ^ 31 := by omega) (hb : b < 2 ^ 31 := by omega) : (x ≤ y → A) ∧ (¬ x ≤ y → B) := by
  subst hx hy
  rw [nI_leI ha hb]
  exact ⟨f, fun z => g (by omega)⟩
theorem pk_lt {x y : Int32} {A B : Prop} (a b : Nat) (f : a < b → A) (g : b ≤ a → B) (hx : x = nI a := by rfl) (hy : y = nI b := by rfl) (ha : a < 2 ^ 31 := by omega) (hb : b < 2 ^ 31 := by omega) : (x < y → A) ∧ (¬ x < y → B) := by
  subst hx hy
  rw [nI_ltI ha hb]
  exact ⟨f, fun z => g (by omega)⟩
theorem pk_eq {x y : Int32} {A B : Prop} (a b : Nat) (f : a = b → A) (g : a ≠ b → B) (hx : x = nI a := by rfl) (hy : y = nI b := by rfl) (ha : a < 2 ^ 31 := by omega) (hb : b < 2 ^ 31 := by omega) : (x = y → A) ∧ (¬ x = y → B) := by
  subst hx hy
  rw [nI_eq ha hb]
  exact ⟨f, g⟩
theorem pk_in {x : Int32} (n N : Nat) (h : n < N) (hx : x = nI n := by rfl) (hN : N < 2 ^ 31 := by omega) : vp_in x N := by
  subst hx
  exact vp_in_nI h hN
theorem pk_cl {x : Int32} (n : Nat) (hx : x = nI n := by rfl) (h : n < 2 ^ 31 := by omega) : x.toNatClampNeg = n := by
  subst hx
  exact nI_clamp h
theorem pk_tn {n : Nat} (h : n < 2 ^ 32) : (nI n).toBitVec.toNat = n := Nat.mod_eq_of_lt h
theorem pk_and (x : Int32) {m : Int32} (k : Nat) (hm : m.toBitVec.toNat = 2 ^ k - 1) : x &&& m = nI (x.toBitVec.toNat % 2 ^ k) := by
  apply Int32.toBitVec_inj.mp
  apply BitVec.eq_of_toNat_eq
  rw [Int32.toBitVec_and, BitVec.toNat_and, hm, Nat.and_two_pow_sub_one_eq_mod]
  show _ = (BitVec.ofNat 32 _).toNat
  rw [BitVec.toNat_ofNat]
  exact (Nat.mod_eq_of_lt (Nat.lt_of_le_of_lt (Nat.mod_le _ _) x.toBitVec.isLt)).symm
theorem pk_andN {n : Nat} (h : n < 2 ^ 32) {m : Int32} (k : Nat) (hm : m.toBitVec.toNat = 2 ^ k - 1) : nI n &&& m = nI (n % 2 ^ k) := by
  rw [pk_and _ k hm, pk_tn h]
def bt (x : Int32) (i : Nat) : Bool := x.toBitVec.getLsbD i
theorem b_ext {x y : Int32} (h : ∀ i, i < 32 → bt x i = bt y i) : x = y := Int32.toBitVec_inj.mp (BitVec.eq_of_getLsbD_eq (fun i hi => h i hi))
theorem b_or (x y : Int32) (i : Nat) : bt (x ||| y) i = (bt x i || bt y i) := by unfold bt; rw [Int32.toBitVec_or, BitVec.getLsbD_or]
theorem b_and (x y : Int32) (i : Nat) : bt (x &&& y) i = (bt x i && bt y i) := by unfold bt; rw [Int32.toBitVec_and, BitVec.getLsbD_and]
theorem b_0 (i : Nat) : bt 0 i = false := BitVec.getLsbD_zero
theorem b_big {x : Int32} {i : Nat} (h : 32 ≤ i) : bt x i = false := BitVec.getLsbD_of_ge _ _ h
theorem nf_sh : ∀ l, l < 32 → ((1 : Int32) <<< (nI l &&& 31)).toBitVec = BitVec.twoPow 32 l := by decide +kernel
/-! bits -/
theorem ed_tp (l i : Nat) (hl : l < 32) : bt ((1 : Int32) <<< (nI l &&& 31)) i = decide (l = i) := by
  unfold bt
  rw [nf_sh l hl, BitVec.getLsbD_twoPow]
  simp [hl]
theorem ed_bit (m : Int32) (l : Nat) (hl : l < 32) : (m &&& ((1 : Int32) <<< (nI l &&& 31))) = 0 ↔ bt m l = false := by
  constructor
  · intro h
    have e := b_and m ((1 : Int32) <<< (nI l &&& 31)) l
    rw [h, b_0, ed_tp l l hl] at e
    simpa using e.symm
  · intro h
    apply b_ext
    intro i _
    rw [b_and, ed_tp l i hl, b_0]
    by_cases e : l = i
    · subst e; rw [h]; rfl
    · simp [e]
theorem ed_bset (m : Int32) (l i : Nat) (hl : l < 32) : bt (m ||| ((1 : Int32) <<< (nI l &&& 31))) i = (bt m i || decide (l = i)) := by
  rw [b_or, ed_tp l i hl]
/-! counting -/
noncomputable def ed_b (P : Prop) : Nat := @ite Nat P (Classical.propDecidable P) 1 0
theorem ed_bt {P : Prop} (h : P) : ed_b P = 1 := by unfold ed_b; rw [if_pos h]
theorem ed_bf {P : Prop} (h : ¬ P) : ed_b P = 0 := by unfold ed_b; rw [if_neg h]
theorem ed_ble (P : Prop) : ed_b P ≤ 1 := by
  rcases Classical.em P with h | h
  · rw [ed_bt h]; omega
  · rw [ed_bf h]; omega
theorem ed_bcg {P Q : Prop} (h : P ↔ Q) : ed_b P = ed_b Q := by
  rcases Classical.em P with p | p
  · rw [ed_bt p, ed_bt (h.mp p)]
  · rw [ed_bf p, ed_bf (fun q => p (h.mpr q))]
noncomputable def ed_cn (P : Nat → Prop) (f : Nat) : Nat → Nat
  | 0 => 0
  | d + 1 => ed_cn P f d + ed_b (P (f + d))
theorem ed_cn_front (P : Nat → Prop) (f d : Nat) : ed_cn P f (d + 1) = ed_b (P f) + ed_cn P (f + 1) d := by
  induction d with
  | zero => simp [ed_cn]
  | succ d ih =>
    have e : f + (d + 1) = f + 1 + d := by omega
    rw [ed_cn, ih, ed_cn, e]
    omega
theorem ed_cn_le (P : Nat → Prop) (f d : Nat) : ed_cn P f d ≤ d := by
  induction d with
  | zero => simp [ed_cn]
  | succ d ih =>
    have := ed_ble (P (f + d))
    rw [ed_cn]; omega
theorem ed_cn_cg {P Q : Nat → Prop} {f : Nat} : ∀ {d : Nat}, (∀ i, f ≤ i → i < f + d → (P i ↔ Q i)) → ed_cn P f d = ed_cn Q f d
  | 0, _ => rfl
  | d + 1, h => by
    rw [ed_cn, ed_cn, ed_cn_cg (d := d) (fun i a b => h i a (by omega)), ed_bcg (h (f + d) (by omega) (by omega))]
theorem ed_cn_0 {P : Nat → Prop} {f : Nat} : ∀ {d : Nat}, (∀ i, f ≤ i → i < f + d → ¬ P i) → ed_cn P f d = 0
  | 0, _ => rfl
  | d + 1, h => by
    rw [ed_cn, ed_cn_0 (d := d) (fun i a b => h i a (by omega)), ed_bf (h (f + d) (by omega) (by omega))]
theorem ed_cn_pos {P : Nat → Prop} {f : Nat} : ∀ {d : Nat}, 0 < ed_cn P f d → ∃ i, f ≤ i ∧ i < f + d ∧ P i
  | 0, h => by simp [ed_cn] at h
  | d + 1, h => by
    rcases Classical.em (P (f + d)) with p | p
    · exact ⟨f + d, by omega, by omega, p⟩
    · rw [ed_cn, ed_bf p] at h
      obtain ⟨i, a, b, c⟩ := ed_cn_pos (d := d) h
      exact ⟨i, a, by omega, c⟩
theorem ed_cn_ge {P : Nat → Prop} {f i : Nat} (p : P i) (h : f ≤ i) : ∀ {d : Nat}, i < f + d → 0 < ed_cn P f d
  | 0, z => by omega
  | d + 1, z => by
    rw [ed_cn]
    by_cases e : i = f + d
    · subst e; rw [ed_bt p]; omega
    · have := ed_cn_ge p h (d := d) (by omega)
      omega
/-! lists of values, sums, sorted arrays -/
noncomputable def ed_bs (P : Nat → Prop) (B : Nat → Int32) (f : Nat) : Nat → List Int32
  | 0 => []
  | d + 1 => @ite _ (P (f + d)) (Classical.propDecidable _) (B (f + d) :: ed_bs P B f d) (ed_bs P B f d)
theorem ed_bs_t {P : Nat → Prop} {B : Nat → Int32} {f d : Nat} (h : P (f + d)) : ed_bs P B f (d + 1) = B (f + d) :: ed_bs P B f d := by rw [ed_bs, if_pos h]
theorem ed_bs_f {P : Nat → Prop} {B : Nat → Int32} {f d : Nat} (h : ¬ P (f + d)) : ed_bs P B f (d + 1) = ed_bs P B f d := by rw [ed_bs, if_neg h]
theorem ed_bs_ft {P : Nat → Prop} {B : Nat → Int32} {f : Nat} (h : P f) : ∀ d, (ed_bs P B f (d + 1)).Perm (B f :: ed_bs P B (f + 1) d)
  | 0 => by rw [ed_bs_t (d := 0) h]; exact List.Perm.refl _
  | d + 1 => by
    have e : f + (d + 1) = f + 1 + d := by omega
    rcases Classical.em (P (f + (d + 1))) with p | p
    · rw [ed_bs_t (d := d + 1) p]
      rw [e] at p
      rw [ed_bs_t (d := d) p, e]
      exact ((ed_bs_ft h d).cons _).trans (List.Perm.swap _ _ _)
    · rw [ed_bs_f (d := d + 1) p]
      rw [e] at p
      rw [ed_bs_f (d := d) p]
      exact ed_bs_ft h d
theorem ed_bs_ff {P : Nat → Prop} {B : Nat → Int32} {f : Nat} (h : ¬ P f) : ∀ d, ed_bs P B f (d + 1) = ed_bs P B (f + 1) d
  | 0 => by rw [ed_bs_f (d := 0) h]; rfl
  | d + 1 => by
    have e : f + (d + 1) = f + 1 + d := by omega
    rcases Classical.em (P (f + (d + 1))) with p | p
    · rw [ed_bs_t (d := d + 1) p]
      rw [e] at p
      rw [ed_bs_t (d := d) p, e, ed_bs_ff h d]
    · rw [ed_bs_f (d := d + 1) p]
      rw [e] at p
      rw [ed_bs_f (d := d) p, ed_bs_ff h d]
theorem ed_bs_cg {P Q : Nat → Prop} {B C : Nat → Int32} {f : Nat} : ∀ {d : Nat}, (∀ i, f ≤ i → i < f + d → (P i ↔ Q i)) → (∀ i, f ≤ i → i < f + d → B i = C i) → ed_bs P B f d = ed_bs Q C f d
  | 0, _, _ => rfl
  | d + 1, h, g => by
    have ih := ed_bs_cg (d := d) (fun i a b => h i a (by omega)) (fun i a b => g i a (by omega))
    have hp := h (f + d) (by omega) (by omega)
    rcases Classical.em (P (f + d)) with p | p
    · rw [ed_bs_t p, ed_bs_t (hp.mp p), ih, g (f + d) (by omega) (by omega)]
    · rw [ed_bs_f p, ed_bs_f (fun q => p (hp.mpr q)), ih]
theorem ed_bs_skip {P : Nat → Prop} {B : Nat → Int32} {g : Nat} : ∀ {c d : Nat}, (∀ i, g ≤ i → i < g + c → ¬ P i) → ed_bs P B g (c + d) = ed_bs P B (g + c) d
  | 0, d, _ => by rw [Nat.zero_add]; rfl
  | c + 1, d, h => by
    rw [show c + 1 + d = c + (d + 1) by omega, ed_bs_skip (c := c) (d := d + 1) (fun i a b => h i a (by omega)), ed_bs_ff (h (g + c) (by omega) (by omega))]
    rfl
def ed_ls : List Int32 → Int32
  | [] => 0
  | x :: l => x + ed_ls l
theorem ed_ls_perm {l m : List Int32} (p : l.Perm m) : ed_ls l = ed_ls m := by
  induction p with
  | nil => rfl
  | cons x _ ih => simp only [ed_ls, ih]
  | swap x y l => simp only [ed_ls]; rw [← Int32.add_assoc, ← Int32.add_assoc, Int32.add_comm y x]
  | trans _ _ a b => exact a.trans b
def ed_sm (S : Nat → Int32) : Nat → Int32
  | 0 => 0
  | n + 1 => ed_sm S n + S n
theorem ed_ls_app (l : List Int32) (x : Int32) : ed_ls (l ++ [x]) = ed_ls l + x := by
  induction l with
  | nil => simp only [List.nil_append, ed_ls]; rw [Int32.add_zero, Int32.zero_add]
  | cons y l ih => simp only [List.cons_append, ed_ls, ih]; rw [Int32.add_assoc]
theorem ed_sm_ls (S : Nat → Int32) : ∀ n, ed_sm S n = ed_ls ((List.range n).map S)
  | 0 => rfl
  | n + 1 => by
    rw [List.range_succ, List.map_append, ed_sm, ed_sm_ls S n]
    exact (ed_ls_app _ _).symm
def ed_st (S : Nat → Int32) (n : Nat) (L : List Int32) : Prop :=
  (∀ i j, i < j → j < n → S i ≤ S j) ∧ ((List.range n).map S).Perm L
theorem ed_st_0 (S : Nat → Int32) : ed_st S 0 [] := ⟨fun _ _ _ h => absurd h (Nat.not_lt_zero _), List.Perm.refl _⟩
theorem ed_st_p {S : Nat → Int32} {n : Nat} {L M : List Int32} (h : ed_st S n L) (p : L.Perm M) : ed_st S n M := ⟨h.1, h.2.trans p⟩
theorem ed_st_len {S : Nat → Int32} {n : Nat} {L : List Int32} (h : ed_st S n L) : L.length = n := by
  have := h.2.length_eq
  simpa using this.symm
theorem ed_st_sum {S : Nat → Int32} {n : Nat} {L : List Int32} (h : ed_st S n L) : ed_sm S n = ed_ls L := by
  rw [ed_sm_ls]; exact ed_ls_perm h.2
theorem ed_st_pw {S : Nat → Int32} {n : Nat} {L : List Int32} (h : ed_st S n L) : ((List.range n).map S).Pairwise (· ≤ ·) := by
  rw [List.pairwise_iff_getElem]
  intro i j hi hj hij
  simp only [List.length_map, List.length_range] at hi hj
  simp only [List.getElem_map, List.getElem_range]
  exact h.1 i j hij hj
theorem ed_st_eq {S T : Nat → Int32} {n m : Nat} {L M : List Int32} (h : ed_st S n L) (g : ed_st T m M) (p : L.Perm M) : n = m ∧ ∀ j, j < n → S j = T j := by
  have e : (List.range n).map S = (List.range m).map T :=
    List.Perm.eq_of_pairwise (le := fun a b : Int32 => a ≤ b) (fun a b _ _ x y => Int32.le_antisymm x y) (ed_st_pw h) (ed_st_pw g) (h.2.trans (p.trans g.2.symm))
  have en : n = m := by
    have := congrArg List.length e
    simpa using this
  subst en
  refine ⟨rfl, fun j hj => ?_⟩
  have := congrArg (fun l : List Int32 => l[j]?) e
  simpa [hj] using this
theorem ed_st_ins {S T : Nat → Int32} {n p : Nat} {L : List Int32} {v : Int32} (h : ed_st S n L) (hp : p ≤ n) (hlo : ∀ j, j < p → S j ≤ v) (hhi : ∀ j, p ≤ j → j < n → v ≤ S j) (h1 : ∀ j, j < p → T j = S j) (h2 : T p = v) (h3 : ∀ j, p ≤ j → j < n → T (j + 1) = S j) : ed_st T (n + 1) (v :: L) := by
  constructor
  · intro i j hij hj
    rcases Nat.lt_trichotomy j p with c | c | c
    · rw [h1 i (by omega), h1 j c]; exact h.1 i j hij (by omega)
    · subst c; rw [h2, h1 i hij]; exact hlo i hij
    · obtain ⟨j, rfl⟩ : ∃ q, j = q + 1 := ⟨j - 1, by omega⟩
      rw [h3 j (by omega) (by omega)]
      rcases Nat.lt_trichotomy i p with c2 | c2 | c2
      · rw [h1 i c2]; exact h.1 i j (by omega) (by omega)
      · subst c2; rw [h2]; exact hhi j (by omega) (by omega)
      · obtain ⟨i, rfl⟩ : ∃ q, i = q + 1 := ⟨i - 1, by omega⟩
        rw [h3 i (by omega) (by omega)]
        exact h.1 i j (by omega) (by omega)
  · obtain ⟨d, rfl⟩ : ∃ d, n = p + d := ⟨n - p, by omega⟩
    have eS : (List.range (p + d)).map S = (List.range p).map S ++ (List.range d).map (fun j => S (p + j)) := by
      rw [List.range_add, List.map_append, List.map_map]; rfl
    have eT : (List.range (p + d + 1)).map T = (List.range p).map S ++ v :: (List.range d).map (fun j => S (p + j)) := by
      rw [show p + d + 1 = p + (d + 1) by omega, List.range_add, List.map_append, List.map_map, List.range_succ_eq_map, List.map_cons, List.map_map]
      congr 1
      · exact List.map_congr_left (fun j hj => h1 j (List.mem_range.mp hj))
      · congr 1
        exact List.map_congr_left (fun j hj => h3 (p + j) (by omega) (by have := List.mem_range.mp hj; omega))
    rw [eT]
    refine List.perm_middle.trans (List.Perm.cons v ?_)
    rw [← eS]
    exact h.2
end
section
/-! the pure machine of a condition -/
def ed_tk (op : Int32) : Nat := if op ≤ 4 then 0 else if op = 12 then 1 else 2
theorem ed_tk_le (op : Int32) : ed_tk op ≤ 2 := by
  unfold ed_tk
  split
  · omega
  · split <;> omega
def ed_dp (o : Nat → Int32) : Nat → Nat
  | 0 => 0
  | i + 1 => ed_dp o i + 1 - ed_tk (o i)
theorem ed_dp_le (o : Nat → Int32) : ∀ i, ed_dp o i ≤ i
  | 0 => Nat.le_refl _
  | i + 1 => by have := ed_dp_le o i; rw [ed_dp]; omega
theorem ed_dp_cg {o o' : Nat → Int32} : ∀ {n : Nat}, (∀ i, i < n → o i = o' i) → ed_dp o n = ed_dp o' n
  | 0, _ => rfl
  | n + 1, h => by rw [ed_dp, ed_dp, ed_dp_cg (n := n) (fun i hi => h i (by omega)), h n (by omega)]
def ed_cb (op x y : Int32) : Int32 :=
  if op = 5 then x + y else if op = 6 then x - y else if op = 7 then x * y
  else if op = 8 then (if x < y then 1 else 0) else if op = 9 then (if x = y then 1 else 0)
  else if op = 10 then (if x = 0 then 0 else if y = 0 then 0 else 1)
  else if op = 11 then (if x = 0 then (if y = 0 then 0 else 1) else 1)
  else if op = 12 then (if y = 0 then 1 else 0)
  else (if y = 0 then 0 else x - x / y * y)
def ed_rs (op v a b ty t x y : Int32) : Int32 :=
  if op = 0 then v else if op = 1 then a else if op = 2 then b else if op = 3 then ty else if op = 4 then t else ed_cb op x y
def ed_pe (o v : Nat → Int32) (a b ty t : Int32) : Nat → Nat → Int32
  | 0 => fun _ => 0
  | i + 1 => upd (ed_pe o v a b ty t i) (ed_dp o i - ed_tk (o i)) (ed_rs (o i) (v i) a b ty t (ed_pe o v a b ty t i (ed_dp o i - 2)) (ed_pe o v a b ty t i (ed_dp o i - 1)))
theorem ed_pe_cg {o o' v v' : Nat → Int32} {a b ty t : Int32} : ∀ {n : Nat}, (∀ i, i < n → o i = o' i) → (∀ i, i < n → v i = v' i) → ed_pe o v a b ty t n = ed_pe o' v' a b ty t n
  | 0, _, _ => rfl
  | n + 1, h, g => by
    rw [ed_pe, ed_pe, ed_pe_cg (n := n) (fun i hi => h i (by omega)) (fun i hi => g i (by omega)), h n (by omega), g n (by omega), ed_dp_cg (n := n) (fun i hi => h i (by omega))]
/-- so far the program never took off more than there is -/
def ed_go (o : Nat → Int32) (n : Nat) : Prop := ∀ i, i < n → (∃ k, k ≤ 13 ∧ o i = nI k) ∧ ed_tk (o i) ≤ ed_dp o i
def ed_ok (o : Nat → Int32) (n : Nat) : Prop := n ≤ 12 ∧ ed_go o n ∧ ed_dp o n = 1
theorem ed_go_cg {o o' : Nat → Int32} {n : Nat} (h : ∀ i, i < n → o i = o' i) (g : ed_go o n) : ed_go o' n := by
  intro i hi
  rw [← h i hi, ← ed_dp_cg (n := i) (fun j hj => h j (by omega))]
  exact g i hi
theorem ed_ok_cg {o o' : Nat → Int32} {n : Nat} (h : ∀ i, i < n → o i = o' i) (g : ed_ok o n) : ed_ok o' n :=
  ⟨g.1, ed_go_cg h g.2.1, by rw [← ed_dp_cg h]; exact g.2.2⟩
/-- stack arrays that agree below the depth go on to agree -/
theorem ed_pe_s {o v S : Nat → Int32} {a b ty t r : Int32} {i : Nat} (g : ed_tk (o i) ≤ ed_dp o i) (hS : ∀ j, j < ed_dp o i → S j = ed_pe o v a b ty t i j) (hr : r = ed_rs (o i) (v i) a b ty t (ed_pe o v a b ty t i (ed_dp o i - 2)) (ed_pe o v a b ty t i (ed_dp o i - 1))) : ∀ j, j < ed_dp o (i + 1) → upd S (ed_dp o i - ed_tk (o i)) r j = ed_pe o v a b ty t (i + 1) j := by
  intro j hj
  rw [ed_pe]
  by_cases e : j = ed_dp o i - ed_tk (o i)
  · subst e; rw [pk_us, pk_us]; exact hr
  · rw [pk_un e, pk_un e]
    rw [ed_dp] at hj
    exact hS j (by omega)
/-! windows -/
noncomputable def ed_nx (mem : Nat → Prop) (e : Nat) : Nat → Nat
  | 0 => e
  | d + 1 => @ite _ (mem (e - d)) (Classical.propDecidable _) (e - d) (ed_nx mem e d)
theorem ed_nx_t {mem : Nat → Prop} {e d : Nat} (h : mem (e - d)) : ed_nx mem e (d + 1) = e - d := by rw [ed_nx, if_pos h]
theorem ed_nx_f {mem : Nat → Prop} {e d : Nat} (h : ¬ mem (e - d)) : ed_nx mem e (d + 1) = ed_nx mem e d := by rw [ed_nx, if_neg h]
theorem ed_nx_le (mem : Nat → Prop) (e : Nat) : ∀ d, ed_nx mem e d ≤ e
  | 0 => Nat.le_refl _
  | d + 1 => by
    rcases Classical.em (mem (e - d)) with p | p
    · rw [ed_nx_t p]; omega
    · rw [ed_nx_f p]; exact ed_nx_le mem e d
def ed_cd (mem : Nat → Prop) (T : Nat → Int32) (kind : Nat) (N : Int32) (e i : Nat) : Prop :=
  (kind = 1 ∨ kind = 3 → nI (ed_cn mem (i + 1) (e - i)) < N) ∧ (kind = 2 → T e - T i < N) ∧ (kind = 5 → T (ed_nx mem e (e - i)) - T i < N)
def ed_px (mem : Nat → Prop) (T A : Nat → Int32) (kind : Nat) (N : Int32) (gr : Prop) (e i : Nat) : Prop :=
  mem i ∧ (∀ j, i ≤ j → j ≤ e → mem j → ed_cd mem T kind N e j) ∧ (kind = 4 → ∀ j, i < j → j ≤ e → mem j → A j ≠ A i) ∧ (gr → A i = A e)
def ed_vw (mem : Nat → Prop) (T A : Nat → Int32) (kind : Nat) (N : Int32) (e i : Nat) : Prop :=
  mem i ∧ (kind = 0 ∨ (kind = 2 ∧ T e - T i < N) ∨ ((kind = 1 ∨ kind = 3) ∧ nI (ed_cn mem (i + 1) (e - i)) < N) ∨ (kind = 5 ∧ ∀ j, i ≤ j → j ≤ e → mem j → T (ed_nx mem e (e - j)) - T j < N) ∨ (kind = 4 ∧ ∀ j, i < j → j ≤ e → mem j → A j ≠ A i))
theorem ed_cn_mono (P : Nat → Prop) (e : Nat) : ∀ {i j : Nat}, i ≤ j → j ≤ e → ed_cn P (j + 1) (e - j) ≤ ed_cn P (i + 1) (e - i) := by
  intro i j h
  induction h with
  | refl => intro _; exact Nat.le_refl _
  | @step m hm ih =>
    intro hj
    have a := ih (by omega)
    have b := ed_cn_front P (m + 1) (e - m - 1)
    rw [show e - m - 1 + 1 = e - m by omega] at b
    show ed_cn P (m + 1 + 1) (e - (m + 1)) ≤ _
    rw [show e - (m + 1) = e - m - 1 by omega]
    omega
theorem ed_pxy {mem : Nat → Prop} {T A : Nat → Int32} {kind : Nat} {N : Int32} {gr : Prop} {e i : Nat} {t : Nat → Nat} (hk : kind ≤ 5) (hT : ∀ j, j ≤ e → T j = nI (t j)) (hm : ∀ a b, a ≤ b → b ≤ e → t a ≤ t b) (hb : t e < 2 ^ 30) (he : e < 64) (hi : i ≤ e) : ed_px mem T A kind N gr e i ↔ (ed_vw mem T A kind N e i ∧ (gr → A i = A e)) := by
  have q0 : kind = 0 ∨ kind = 1 ∨ kind = 2 ∨ kind = 3 ∨ kind = 4 ∨ kind = 5 := by omega
  have a13 : ∀ j, i ≤ j → j ≤ e → nI (ed_cn mem (i + 1) (e - i)) < N → nI (ed_cn mem (j + 1) (e - j)) < N := by
    intro j h1 h2 h
    have l1 := ed_cn_mono mem e h1 h2
    have l2 := ed_cn_le mem (i + 1) (e - i)
    exact Int32.lt_of_le_of_lt (nI_le l1 (by omega)) h
  have a2 : ∀ j, i ≤ j → j ≤ e → T e - T i < N → T e - T j < N := by
    intro j h1 h2 h
    have l1 := hm i j h1 h2
    have l2 := hm j e h2 (Nat.le_refl _)
    rw [hT e (Nat.le_refl _), hT i hi, pk_sub (by omega)] at h
    rw [hT e (Nat.le_refl _), hT j h2, pk_sub (by omega)]
    exact Int32.lt_of_le_of_lt (nI_le (by omega) (by omega)) h
  unfold ed_px ed_vw ed_cd
  constructor
  · rintro ⟨m, c, l, g⟩
    have ci := c i (Nat.le_refl _) hi m
    refine ⟨⟨m, ?_⟩, g⟩
    rcases q0 with q | q | q | q | q | q
    · exact Or.inl q
    · exact Or.inr (Or.inr (Or.inl ⟨Or.inl q, ci.1 (Or.inl q)⟩))
    · exact Or.inr (Or.inl ⟨q, ci.2.1 q⟩)
    · exact Or.inr (Or.inr (Or.inl ⟨Or.inr q, ci.1 (Or.inr q)⟩))
    · exact Or.inr (Or.inr (Or.inr (Or.inr ⟨q, l q⟩)))
    · exact Or.inr (Or.inr (Or.inr (Or.inl ⟨q, fun j h1 h2 h3 => (c j h1 h2 h3).2.2 q⟩)))
  · rintro ⟨⟨m, c⟩, g⟩
    refine ⟨m, fun j h1 h2 h3 => ⟨fun z => ?_, fun z => ?_, fun z => ?_⟩, fun z => ?_, g⟩
    · rcases c with c | c | c | c | c
      · omega
      · omega
      · exact a13 j h1 h2 c.2
      · omega
      · omega
    · rcases c with c | c | c | c | c
      · omega
      · exact a2 j h1 h2 c.2
      · omega
      · omega
      · omega
    · rcases c with c | c | c | c | c
      · omega
      · omega
      · omega
      · exact c.2 j h1 h2 h3
      · omega
    · rcases c with c | c | c | c | c
      · omega
      · omega
      · omega
      · omega
      · exact c.2
/-! totals over a sorted array -/
noncomputable def ed_df (S : Nat → Int32) : Nat → Nat
  | 0 => 0
  | n + 1 => ed_df S n + ed_b (n = 0 ∨ S n ≠ S (n - 1))
theorem ed_df_cg {S T : Nat → Int32} : ∀ {n : Nat}, (∀ j, j < n → S j = T j) → ed_df S n = ed_df T n
  | 0, _ => rfl
  | n + 1, h => by
    rw [ed_df, ed_df, ed_df_cg (n := n) (fun j hj => h j (by omega)), h n (by omega), h (n - 1) (by omega)]
theorem ed_df_le (S : Nat → Int32) : ∀ n, ed_df S n ≤ n
  | 0 => Nat.le_refl _
  | n + 1 => by have := ed_df_le S n; have := ed_ble (n = 0 ∨ S n ≠ S (n - 1)); rw [ed_df]; omega
theorem ed_sm_cg {S T : Nat → Int32} : ∀ {n : Nat}, (∀ j, j < n → S j = T j) → ed_sm S n = ed_sm T n
  | 0, _ => rfl
  | n + 1, h => by rw [ed_sm, ed_sm, ed_sm_cg (n := n) (fun j hj => h j (by omega)), h n (by omega)]
noncomputable def ed_tt (how : Nat) (S : Nat → Int32) (n : Nat) : Int32 :=
  if how = 0 then nI n else if how = 1 then ed_sm S n else if how = 2 then S 0 else if how = 3 then S (n - 1) else if how = 4 then nI (ed_df S n) else S ((n - 1) / 2)
theorem ed_tt_cg {S T : Nat → Int32} {n how : Nat} (h0 : 0 < n) (h : ∀ j, j < n → S j = T j) : ed_tt how S n = ed_tt how T n := by
  unfold ed_tt
  rw [ed_sm_cg h, ed_df_cg h, h 0 h0, h (n - 1) (by omega), h ((n - 1) / 2) (by omega)]
/-! batches -/
theorem ed_batch {x c n : Nat} (hn : 1 ≤ n) (h1 : 1 ≤ x) (h2 : x ≤ n) (h : x % n = c % n) : x = n ↔ c % n = 0 := by
  constructor
  · intro e; rw [e, Nat.mod_self] at h; exact h.symm
  · intro e
    rw [e] at h
    rcases Nat.lt_or_ge x n with l | l
    · rw [Nat.mod_eq_of_lt l] at h; omega
    · omega
/-! patterns -/
def ed_nb (Ty : Nat → Int32) (st : Int32) (f k : Nat) : Prop := ∀ j, f < j → j < k → Ty j ≠ st
def ed_md (M1 : Nat → Prop) (Ty A : Nat → Int32) (st : Int32) (eq : Prop) (f e m : Nat) : Prop :=
  M1 m ∧ ed_nb Ty st f m ∧ (eq → A f = A m) ∧ ed_nb Ty st m e ∧ (eq → A m = A e)
noncomputable def ed_mt (M : Nat → Nat → Prop) (last : Nat) (Ty A T : Nat → Int32) (st : Int32) (eq : Prop) (N : Int32) (f e : Nat) : Nat :=
  @ite _ (M 0 f ∧ M last e ∧ ¬ N ≤ T e - T f) (Classical.propDecidable _)
    (if last = 1 then ed_b (ed_nb Ty st f e ∧ (eq → A f = A e)) else ed_cn (ed_md (M 1) Ty A st eq f e) (f + 1) (e - f - 1)) 0
theorem ed_mt_le (M : Nat → Nat → Prop) (last : Nat) (Ty A T : Nat → Int32) (st : Int32) (eq : Prop) (N : Int32) (f e : Nat) : ed_mt M last Ty A T st eq N f e ≤ e + 1 := by
  unfold ed_mt
  split
  · split
    · have := ed_ble (ed_nb Ty st f e ∧ (eq → A f = A e)); omega
    · have := ed_cn_le (ed_md (M 1) Ty A st eq f e) (f + 1) (e - f - 1); omega
  · omega
theorem ed_cn_split (P : Nat → Prop) (f a : Nat) : ∀ d, ed_cn P f (a + d) = ed_cn P f a + ed_cn P (f + a) d
  | 0 => rfl
  | d + 1 => by
    have := ed_cn_split P f a d
    rw [← Nat.add_assoc, ed_cn, this, ed_cn, Nat.add_assoc f a d]
    omega
theorem ed_nb_br {Ty : Nat → Int32} {st : Int32} {f0 f k : Nat} (h0 : f0 ≤ f) (hk : f < k) : ed_cn (fun j => Ty j = st) f0 (k - f0) = ed_cn (fun j => Ty j = st) f0 (f + 1 - f0) ↔ ed_nb Ty st f k := by
  have e := ed_cn_split (fun j => Ty j = st) f0 (f + 1 - f0) (k - f - 1)
  rw [show f + 1 - f0 + (k - f - 1) = k - f0 by omega, show f0 + (f + 1 - f0) = f + 1 by omega] at e
  rw [e]
  constructor
  · intro z j h1 h2 h3
    have := ed_cn_ge (P := fun j => Ty j = st) (f := f + 1) (i := j) h3 (by omega) (d := k - f - 1) (by omega)
    omega
  · intro z
    rw [ed_cn_0 (P := fun j => Ty j = st) (f := f + 1) (d := k - f - 1) (fun i h1 h2 => z i (by omega) (by omega))]
    omega
def ed_su (F : Nat → Nat) (f : Nat) : Nat → Nat
  | 0 => 0
  | d + 1 => ed_su F f d + F (f + d)
theorem ed_su_le {F : Nat → Nat} {f b : Nat} : ∀ {d : Nat}, (∀ i, f ≤ i → i < f + d → F i ≤ b) → ed_su F f d ≤ d * b
  | 0, _ => by simp [ed_su]
  | d + 1, h => by
    have a := ed_su_le (d := d) (fun i x y => h i x (by omega))
    have c := h (f + d) (by omega) (by omega)
    rw [ed_su, Nat.succ_mul]; omega
theorem ed_su_cg {F G : Nat → Nat} {f : Nat} : ∀ {d : Nat}, (∀ i, f ≤ i → i < f + d → F i = G i) → ed_su F f d = ed_su G f d
  | 0, _ => rfl
  | d + 1, h => by rw [ed_su, ed_su, ed_su_cg (d := d) (fun i x y => h i x (by omega)), h (f + d) (by omega) (by omega)]
/-- X's rows for a first event that may begin: the number of matches -/
theorem ed_mt_1 {M : Nat → Nat → Prop} {Ty A T : Nat → Int32} {st N : Int32} {eq : Prop} {f e : Nat} (h0 : M 0 f) (h1 : M 1 e) (hT : ¬ N ≤ T e - T f) (ha : eq → A f = A e) : ed_mt M 1 Ty A T st eq N f e = ed_b (ed_nb Ty st f e) := by
  unfold ed_mt
  rw [if_pos ⟨h0, h1, hT⟩, if_pos rfl]
  exact ed_bcg ⟨fun z => z.1, fun z => ⟨z, ha⟩⟩
theorem ed_mt_2 {M : Nat → Nat → Prop} {Ty A T : Nat → Int32} {st N : Int32} {eq : Prop} {f e : Nat} (h0 : M 0 f) (h1 : M 2 e) (hT : ¬ N ≤ T e - T f) : ed_mt M 2 Ty A T st eq N f e = ed_cn (ed_md (M 1) Ty A st eq f e) (f + 1) (e - f - 1) := by
  unfold ed_mt
  rw [if_pos ⟨h0, h1, hT⟩, if_neg (by omega)]
theorem ed_mt_0 {M : Nat → Nat → Prop} {last : Nat} {Ty A T : Nat → Int32} {st N : Int32} {eq : Prop} {f e : Nat} (h : ¬ (M 0 f ∧ M last e ∧ ¬ N ≤ T e - T f)) : ed_mt M last Ty A T st eq N f e = 0 := by
  unfold ed_mt
  rw [if_neg h]
theorem ed_mt_a {M : Nat → Nat → Prop} {last : Nat} {Ty A T : Nat → Int32} {st N : Int32} {eq : Prop} {f e : Nat} (he : eq) (h : A f ≠ A e) : ed_mt M last Ty A T st eq N f e = 0 := by
  unfold ed_mt
  split
  · split
    · exact ed_bf (fun z => h (z.2 he))
    · exact ed_cn_0 (fun i _ _ z => h ((z.2.2.1 he).trans (z.2.2.2.2 he)))
  · rfl
end
section
/-! the relation, slot by slot: lx, ly are the slot's own cells on both sides -/
def ed_ce (x : Nat → Int32) (p : Nat) (y : Nat → Int32) (q : Nat) : Prop :=
  x p = y q ∧ ∀ i, i < 12 → x (p + 1 + i) = y (q + 1 + 2 * i) ∧ x (p + 13 + i) = y (q + 2 + 2 * i)
def ed_cv (x : Nat → Int32) (p : Nat) : Prop := ∃ n, x p = nI n ∧ ed_ok (fun i => x (p + 1 + i)) n
def ed_me (x : Nat → Int32) (p : Nat) (a b ty t : Int32) : Prop :=
  ed_pe (fun i => x (p + 1 + i)) (fun i => x (p + 13 + i)) a b ty t (x p).toNatClampNeg 0 ≠ 0
def ed_M (l ty a b t : Nat → Int32) (w i : Nat) : Prop := ed_me l (24 + 25 * w) (a i) (b i) (ty i) (t i)
def ed_Qe (lx ly : Nat → Int32) : Prop :=
  lx 9 = ly 6 ∧ lx 10 = ly 7 ∧ lx 11 = ly 8 ∧ lx 12 = ly 9 ∧ lx 13 = ly 10 ∧ lx 14 = ly 11 ∧ lx 23 = ly 20 ∧ (∀ w, w < 3 → ed_ce lx (24 + 25 * w) ly (24 + 25 * w))
def ed_Qw (c : Nat) (lx ly : Nat → Int32) : Prop :=
  lx 0 = 1 ∧ c = 1 ∧ ∃ vw to gr : Nat, vw ≤ 5 ∧ to ≤ 5 ∧ gr ≤ 1 ∧ lx 3 = nI vw ∧ ly 1 = nI vw ∧ lx 1 = ly 2 ∧ (vw ≠ 0 → vw ≠ 4 → ∃ n, 1 ≤ n ∧ n ≤ 100 ∧ lx 1 = nI n) ∧ lx 4 = nI to ∧ ly 3 = nI to ∧ lx 5 = nI gr ∧ ly 4 = nI gr
def ed_Qp (c hs f : Nat) (lx ly ty a b t : Nat → Int32) (gb : Nat → Bool) : Prop :=
  lx 0 = 2 ∧ (c = 2 ∨ c = 3) ∧ ∃ eq on : Nat, eq ≤ 1 ∧ on ≤ 1 ∧ lx 1 = ly 1 ∧ lx 6 = ly 2 ∧ lx 7 = nI eq ∧ ly 3 = nI eq ∧ lx 8 = nI on ∧ ly 4 = nI on ∧ ∀ i, f ≤ i → i < hs → (gb i = true ↔ ∃ k, i < k ∧ k < hs ∧ 0 < ed_mt (ed_M lx ty a b t) (c - 1) ty a t (lx 6) (eq = 1) (lx 1) i k)
def ed_Qj (c : Nat) (lx ly : Nat → Int32) : Prop :=
  lx 0 = 3 ∧ c = 2 ∧ ∃ n m : Nat, 1 ≤ n ∧ n ≤ 16 ∧ 1 ≤ m ∧ m ≤ 16 ∧ lx 1 = nI n ∧ ly 1 = nI n ∧ lx 2 = nI m ∧ ly 2 = nI m
def ed_Qs (f g c r hs hi : Nat) (lx ly ty a b t : Nat → Int32) (mb : Nat → Nat → Bool) (gb : Nat → Bool) : Prop :=
  (f ≤ hs ∧ g ≤ hs ∧ 1 ≤ r ∧ r ≤ 8 ∧ c ≤ 3) ∧ (lx 12 = nI f ∧ lx 14 = nI g ∧ lx 23 = nI c ∧ lx 10 = nI r) ∧ ed_Qe lx ly ∧ (∀ j, j < 8 → j < g → lx (15 + j) = ly (12 + j)) ∧ (∀ w, w < c → ed_cv lx (24 + 25 * w)) ∧ (∀ i w, f ≤ i → i < hs → w < c → (mb i w = true ↔ ed_M lx ty a b t w i)) ∧ (∀ i, hs ≤ i → i < hi → (∀ w, w < 3 → mb i w = false) ∧ gb i = false) ∧ (ed_Qw c lx ly ∨ ed_Qp c hs f lx ly ty a b t gb ∨ ed_Qj c lx ly)
def ed_Q (hs hi : Nat) (lx ly ty a b t : Nat → Int32) (mb : Nat → Nat → Bool) (gb : Nat → Bool) : Prop :=
  lx 0 = ly 0 ∧ (lx 0 = 0 ∨ ∃ f g c r : Nat, ed_Qs f g c r hs hi lx ly ty a b t mb gb)
theorem ed_me_cg {x x' : Nat → Int32} {p p' : Nat} {a b ty t : Int32} (v : ed_cv x p) (h : ∀ j, j < 25 → x' (p' + j) = x (p + j)) : ed_me x' p' a b ty t ↔ ed_me x p a b ty t := by
  obtain ⟨n, e, o⟩ := v
  have hn : n ≤ 12 := o.1
  have e' : x' p' = nI n := (h 0 (by omega)).trans e
  unfold ed_me
  rw [e, e', nI_clamp (by omega)]
  have : ed_pe (fun i => x' (p' + 1 + i)) (fun i => x' (p' + 13 + i)) a b ty t n = ed_pe (fun i => x (p + 1 + i)) (fun i => x (p + 13 + i)) a b ty t n := by
    apply ed_pe_cg
    · intro i hi
      have := h (1 + i) (by omega)
      simpa only [Nat.add_assoc] using this
    · intro i hi
      have := h (13 + i) (by omega)
      simpa only [Nat.add_assoc] using this
  rw [this]
theorem ed_cv_cg {x x' : Nat → Int32} {p p' : Nat} (v : ed_cv x p) (h : ∀ j, j < 25 → x' (p' + j) = x (p + j)) : ed_cv x' p' := by
  obtain ⟨n, e, o⟩ := v
  refine ⟨n, (h 0 (by omega)).trans e, ed_ok_cg (fun i hi => ?_) o⟩
  have hn : n ≤ 12 := o.1
  have := h (1 + i) (by omega)
  simp only [Nat.add_assoc] at this ⊢
  exact this.symm
theorem ed_ce_cg {x x' y y' : Nat → Int32} {p p' q q' : Nat} (v : ed_ce x p y q) (h : ∀ j, j < 25 → x' (p' + j) = x (p + j)) (g : ∀ j, j < 25 → y' (q' + j) = y (q + j)) : ed_ce x' p' y' q' := by
  refine ⟨((h 0 (by omega)).trans v.1).trans (g 0 (by omega)).symm, fun i hi => ?_⟩
  obtain ⟨v1, v2⟩ := v.2 i hi
  have a1 := h (1 + i) (by omega)
  have a2 := h (13 + i) (by omega)
  have b1 := g (1 + 2 * i) (by omega)
  have b2 := g (2 + 2 * i) (by omega)
  simp only [Nat.add_assoc] at v1 v2 a1 a2 b1 b2 ⊢
  exact ⟨(a1.trans v1).trans b1.symm, (a2.trans v2).trans b2.symm⟩
theorem ed_mt_cg {M M' : Nat → Nat → Prop} {last : Nat} {Ty Ty' A A' T T' : Nat → Int32} {st N : Int32} {eq : Prop} {f e : Nat} (hfe : f < e) (hl : last ≤ 2) (hl1 : 1 ≤ last) (hM : ∀ w i, w ≤ last → f ≤ i → i ≤ e → (M' w i ↔ M w i)) (h : ∀ i, i ≤ e → Ty' i = Ty i ∧ A' i = A i ∧ T' i = T i) : ed_mt M' last Ty' A' T' st eq N f e = ed_mt M last Ty A T st eq N f e := by
  have nb : ∀ p q, q ≤ e → (ed_nb Ty' st p q ↔ ed_nb Ty st p q) := by
    intro p q hq
    constructor
    · intro z j h1 h2; rw [← (h j (by omega)).1]; exact z j h1 h2
    · intro z j h1 h2; rw [(h j (by omega)).1]; exact z j h1 h2
  have c1 : (M' 0 f ∧ M' last e ∧ ¬ N ≤ T' e - T' f) ↔ (M 0 f ∧ M last e ∧ ¬ N ≤ T e - T f) := by
    rw [hM 0 f (by omega) (by omega) (by omega), hM last e (by omega) (by omega) (by omega), (h e (by omega)).2.2, (h f (by omega)).2.2]
  have c2 : ed_b (ed_nb Ty' st f e ∧ (eq → A' f = A' e)) = ed_b (ed_nb Ty st f e ∧ (eq → A f = A e)) := by
    apply ed_bcg
    rw [nb f e (by omega), (h e (by omega)).2.1, (h f (by omega)).2.1]
  have c3 : ed_cn (ed_md (M' 1) Ty' A' st eq f e) (f + 1) (e - f - 1) = ed_cn (ed_md (M 1) Ty A st eq f e) (f + 1) (e - f - 1) := by
    apply ed_cn_cg
    intro i h1 h2
    unfold ed_md
    rw [hM 1 i (by omega) (by omega) (by omega), nb f i (by omega), nb i e (by omega), (h f (by omega)).2.1, (h i (by omega)).2.1, (h e (by omega)).2.1]
  unfold ed_mt
  rw [c2, c3]
  rcases Classical.em (M 0 f ∧ M last e ∧ ¬ N ≤ T e - T f) with z | z
  · rw [if_pos z, if_pos (c1.mpr z)]
  · rw [if_neg z, if_neg (fun q => z (c1.mp q))]
theorem ed_Qs_upd {f g c r hs hi g' r' : Nat} {lx ly lx' ly' ty a b t ty' a' b' t' : Nat → Int32} {mb mb' : Nat → Nat → Bool} {gb gb' : Nat → Bool} (hl : hs ≤ hi) (e1 : ∀ j, j < 99 → (j ≤ 8 ∨ j = 12 ∨ 23 ≤ j) → lx' j = lx j) (e2 : ∀ j, j < 100 → (j ≤ 5 ∨ j = 9 ∨ 20 ≤ j) → ly' j = ly j) (e3 : ∀ i, i < hs → ty' i = ty i ∧ a' i = a i ∧ b' i = b i ∧ t' i = t i) (e4 : ∀ i, i < hi → (∀ w, w < 3 → mb' i w = mb i w) ∧ gb' i = gb i) (hg' : g' ≤ hs) (hr' : 1 ≤ r' ∧ r' ≤ 8) (n14' : lx' 14 = nI g') (n10' : lx' 10 = nI r') (q9' : lx' 9 = ly' 6) (q10' : lx' 10 = ly' 7) (q11' : lx' 11 = ly' 8) (q13' : lx' 13 = ly' 10) (q14' : lx' 14 = ly' 11) (ho' : ∀ j, j < 8 → j < g' → lx' (15 + j) = ly' (12 + j)) (H : ed_Qs f g c r hs hi lx ly ty a b t mb gb) : ed_Qs f g' c r' hs hi lx' ly' ty' a' b' t' mb' gb' := by
  obtain ⟨⟨hf, hg, hr1, hr8, hc⟩, ⟨n12, n14, n23, n10⟩, ⟨q9, q10, q11, q12, q13, q14, q23, qc⟩, ho, hv, hm, hz, hq⟩ := H
  have g0 : lx' 0 = lx 0 := e1 0 (by omega) (by omega)
  have sx : ∀ w, w < 3 → ∀ j, j < 25 → lx' (24 + 25 * w + j) = lx (24 + 25 * w + j) := fun w hw j hj => e1 _ (by omega) (by omega)
  have sy : ∀ w, w < 3 → ∀ j, j < 25 → ly' (24 + 25 * w + j) = ly (24 + 25 * w + j) := fun w hw j hj => e2 _ (by omega) (by omega)
  have hM : ∀ w i, w < c → i < hs → (ed_M lx' ty' a' b' t' w i ↔ ed_M lx ty a b t w i) := by
    intro w i hw hi
    unfold ed_M
    obtain ⟨x1, x2, x3, x4⟩ := e3 i hi
    rw [x1, x2, x3, x4]
    exact ed_me_cg (hv w hw) (sx w (by omega))
  have k1 : lx' 1 = lx 1 := e1 1 (by omega) (by omega)
  have k6 : lx' 6 = lx 6 := e1 6 (by omega) (by omega)
  have k12 : lx' 12 = lx 12 := e1 12 (by omega) (by omega)
  have k23 : lx' 23 = lx 23 := e1 23 (by omega) (by omega)
  refine ⟨⟨hf, hg', hr'.1, hr'.2, hc⟩, ⟨k12.trans n12, n14', k23.trans n23, n10'⟩, ⟨q9', q10', q11', ?_, q13', q14', ?_, fun w hw => ed_ce_cg (qc w hw) (sx w hw) (sy w hw)⟩, ho', ?_, ?_, ?_, ?_⟩
  · rw [k12, e2 9 (by omega) (by omega)]; exact q12
  · rw [k23, e2 20 (by omega) (by omega)]; exact q23
  · exact fun w hw => ed_cv_cg (hv w hw) (sx w (by omega))
  · intro i w h1 h2 h3
    rw [(e4 i (by omega)).1 w (by omega), hM w i h3 h2]; exact hm i w h1 h2 h3
  · intro i h1 h2
    refine ⟨fun w hw => ?_, ?_⟩
    · rw [(e4 i h2).1 w hw]; exact (hz i h1 h2).1 w hw
    · rw [(e4 i h2).2]; exact (hz i h1 h2).2
  · rcases hq with hq | hq | hq
    · refine Or.inl ?_
      unfold ed_Qw
      rw [g0, k1, e1 3 (by omega) (by omega), e1 4 (by omega) (by omega), e1 5 (by omega) (by omega), e2 1 (by omega) (by omega), e2 2 (by omega) (by omega), e2 3 (by omega) (by omega), e2 4 (by omega) (by omega)]
      exact hq
    · refine Or.inr (Or.inl ?_)
      unfold ed_Qp
      rw [g0, k1, k6, e1 7 (by omega) (by omega), e1 8 (by omega) (by omega), e2 1 (by omega) (by omega), e2 2 (by omega) (by omega), e2 3 (by omega) (by omega), e2 4 (by omega) (by omega)]
      obtain ⟨z0, zc, eq, on, z1, z2, z3, z4, z5, z6, z7, z8, zb⟩ := hq
      refine ⟨z0, zc, eq, on, z1, z2, z3, z4, z5, z6, z7, z8, fun i h1 h2 => ?_⟩
      rw [(e4 i (by omega)).2, zb i h1 h2]
      have mm : ∀ k, i < k → k < hs → ed_mt (ed_M lx' ty' a' b' t') (c - 1) ty' a' t' (lx 6) (eq = 1) (lx 1) i k = ed_mt (ed_M lx ty a b t) (c - 1) ty a t (lx 6) (eq = 1) (lx 1) i k := by
        intro k h3 h4
        exact ed_mt_cg h3 (by omega) (by omega) (fun w j hw _ hj => hM w j (by omega) (by omega)) (fun j hj => ⟨(e3 j (by omega)).1, (e3 j (by omega)).2.1, (e3 j (by omega)).2.2.2⟩)
      constructor
      · rintro ⟨k, h3, h4, h5⟩; exact ⟨k, h3, h4, by rw [mm k h3 h4]; exact h5⟩
      · rintro ⟨k, h3, h4, h5⟩; exact ⟨k, h3, h4, by rw [← mm k h3 h4]; exact h5⟩
    · refine Or.inr (Or.inr ?_)
      unfold ed_Qj
      rw [g0, k1, e1 2 (by omega) (by omega), e2 1 (by omega) (by omega), e2 2 (by omega) (by omega)]
      exact hq
theorem ed_Q_cg {hs hi : Nat} {lx ly lx' ly' ty a b t ty' a' b' t' : Nat → Int32} {mb mb' : Nat → Nat → Bool} {gb gb' : Nat → Bool} (hl : hs ≤ hi) (e1 : ∀ j, j < 99 → lx' j = lx j) (e2 : ∀ j, j < 100 → ly' j = ly j) (e3 : ∀ i, i < hs → ty' i = ty i ∧ a' i = a i ∧ b' i = b i ∧ t' i = t i) (e4 : ∀ i, i < hi → (∀ w, w < 3 → mb' i w = mb i w) ∧ gb' i = gb i) (h : ed_Q hs hi lx ly ty a b t mb gb) : ed_Q hs hi lx' ly' ty' a' b' t' mb' gb' := by
  obtain ⟨h0, h⟩ := h
  have g0 : lx' 0 = lx 0 := e1 0 (by omega)
  refine ⟨(g0.trans h0).trans (e2 0 (by omega)).symm, ?_⟩
  rcases h with h | ⟨f, g, c, r, H⟩
  · exact Or.inl (g0.trans h)
  have H' := H
  obtain ⟨⟨hf, hg, hr1, hr8, hc⟩, ⟨n12, n14, n23, n10⟩, ⟨q9, q10, q11, q12, q13, q14, q23, qc⟩, ho, hv, hm, hz, hq⟩ := H'
  refine Or.inr ⟨f, g, c, r, ed_Qs_upd hl (fun j h1 _ => e1 j h1) (fun j h1 _ => e2 j h1) e3 e4 hg ⟨hr1, hr8⟩ ((e1 14 (by omega)).trans n14) ((e1 10 (by omega)).trans n10) ?_ ?_ ?_ ?_ ?_ ?_ H⟩
  · rw [e1 9 (by omega), e2 6 (by omega)]; exact q9
  · rw [e1 10 (by omega), e2 7 (by omega)]; exact q10
  · rw [e1 11 (by omega), e2 8 (by omega)]; exact q11
  · rw [e1 13 (by omega), e2 10 (by omega)]; exact q13
  · rw [e1 14 (by omega), e2 11 (by omega)]; exact q14
  · intro j h1 h2
    rw [e1 _ (by omega), e2 _ (by omega)]; exact ho j h1 h2
end
section
/-! the core of both states, and the relation -/
def ed_Ct (k hi : Nat) (fg t : Nat → Int32) : Prop :=
  ∃ now : Nat, ∃ tn : Nat → Nat, fg 2 = nI now ∧ now ≤ 17 * k ∧ (∀ i, i < hi → t i = nI (tn i) ∧ tn i ≤ now) ∧ (∀ i j, i ≤ j → j < hi → tn i ≤ tn j)
def ed_Ce (h : Nat) (ty a b t ev : Nat → Int32) : Prop :=
  ∀ i, i < h → ev (4 * i) = ty i ∧ ev (4 * i + 1) = a i ∧ ev (4 * i + 2) = b i ∧ ev (4 * i + 3) = t i
def ed_S (s hs hi : Nat) (x ty a b t tm tg y : Nat → Int32) : Prop :=
  ed_Q hs hi (fun j => x (99 * s + j)) (fun j => y (100 * s + j)) ty a b t (fun i w => bt (tm i) (3 * s + w)) (fun i => bt (tg i) s)
def ed_C (k h hi : Nat) (hs : Nat → Nat) (fg x ty a b t tm tg y ev g : Nat → Int32) : Prop :=
  (fg 0 = nI h ∧ g 0 = nI h ∧ fg 1 = g 1 ∧ fg 2 = g 2 ∧ fg 3 = g 3) ∧ (h ≤ hi ∧ hi ≤ 64) ∧ ed_Ct k hi fg t ∧ ed_Ce h ty a b t ev ∧ ∀ s, s < 6 → hs s ≤ h ∧ ed_S s (hs s) hi x ty a b t tm tg y
def ed_P (xP : Nat → Int32) (fT : Int32) (aT : Nat → Int32) : Prop :=
  ∃ n : Nat, n ≤ 12 ∧ xP 0 = nI n ∧ fT = nI n ∧ (∀ i, i < 12 → xP (1 + i) = aT (2 * i) ∧ xP (13 + i) = aT (2 * i + 1)) ∧ (∀ i, i < n → ∃ k, k ≤ 13 ∧ xP (1 + i) = nI k)
def ed_L (xl fL : Int32) (xL aL : Nat → Int32) : Prop :=
  ∃ l : Nat, l ≤ 3 ∧ xl = nI l ∧ fL = nI l ∧ (∀ w, w < 3 → ed_ce xL (25 * w) aL (25 * w)) ∧ (∀ w, w < l → ed_cv xL (25 * w))
def ed_B (k : Nat) (fg x ty a b t tm tg y ev g : Nat → Int32) : Prop := ∃ h : Nat, ed_C k h h (fun _ => h) fg x ty a b t tm tg y ev g
def ed_K (k : Nat) (xk fK : Int32) (fg x ty a b t tm tg y ev g : Nat → Int32) : Prop :=
  (xk = 0 ∧ fK = 0) ∨ (xk = 1 ∧ fK = 1 ∧ ed_B k fg x ty a b t tm tg y ev g)
/-- the relation at the head of a turn -/
def i_Rel (k : Nat) (u : SX) (v : SY) : Prop :=
  match u, v with
  | (xl, xw, xk, xP, xL, xF, xQ, xT, xA, xB, xC, xM, xG, kF, kQ, kT, kA, kB, kC, kM, kG, xS, xZ), (fT, fL, fK, fW, fB, fH, fO, aT, aL, aQ, aE, aG, aKQ, aKE, aKG, aW, aS, aM, aV, aZ, aB) => ed_P xP fT aT ∧ ed_L xl fL xL aL ∧ xw = 0 ∧ ed_B k xF xQ xT xA xB xC xM xG aQ aE aG ∧ ed_K k xk fK kF kQ kT kA kB kC kM kG aKQ aKE aKG
theorem ed_C_up {k k' h hi : Nat} {hs : Nat → Nat} {fg x ty a b t tm tg y ev g : Nat → Int32} (hk : k ≤ k') (H : ed_C k h hi hs fg x ty a b t tm tg y ev g) : ed_C k' h hi hs fg x ty a b t tm tg y ev g := by
  obtain ⟨h1, h2, ⟨now, tn, a1, a2, a3⟩, h4⟩ := H
  exact ⟨h1, h2, ⟨now, tn, a1, by omega, a3⟩, h4⟩
theorem ed_B_up {k k' : Nat} {fg x ty a b t tm tg y ev g : Nat → Int32} (hk : k ≤ k') (H : ed_B k fg x ty a b t tm tg y ev g) : ed_B k' fg x ty a b t tm tg y ev g := by
  obtain ⟨h, H⟩ := H
  exact ⟨h, ed_C_up hk H⟩
theorem ed_K_up {k k' : Nat} {xk fK : Int32} {fg x ty a b t tm tg y ev g : Nat → Int32} (hk : k ≤ k') (H : ed_K k xk fK fg x ty a b t tm tg y ev g) : ed_K k' xk fK fg x ty a b t tm tg y ev g := by
  rcases H with H | ⟨h1, h2, H⟩
  · exact Or.inl H
  · exact Or.inr ⟨h1, h2, ed_B_up hk H⟩
theorem ed_C_cg {k h hi : Nat} {hs : Nat → Nat} {fg x ty a b t tm tg y ev g fg' x' ty' a' b' t' tm' tg' y' ev' g' : Nat → Int32} (e0 : ∀ j, j < 4 → fg' j = fg j) (e1 : ∀ j, j < 594 → x' j = x j) (e2 : ∀ j, j < 64 → ty' j = ty j) (e3 : ∀ j, j < 64 → a' j = a j) (e4 : ∀ j, j < 64 → b' j = b j) (e5 : ∀ j, j < 64 → t' j = t j) (e6 : ∀ j, j < 64 → tm' j = tm j) (e7 : ∀ j, j < 64 → tg' j = tg j) (e8 : ∀ j, j < 600 → y' j = y j) (e9 : ∀ j, j < 256 → ev' j = ev j) (e10 : ∀ j, j < 4 → g' j = g j) (H : ed_C k h hi hs fg x ty a b t tm tg y ev g) : ed_C k h hi hs fg' x' ty' a' b' t' tm' tg' y' ev' g' := by
  obtain ⟨h1, ⟨h2, h3⟩, ⟨now, tn, a1, a2, a3, a4⟩, h5, h6⟩ := H
  refine ⟨?_, ⟨h2, h3⟩, ⟨now, tn, ?_, a2, ?_, a4⟩, ?_, ?_⟩
  · rw [e0 0 (by omega), e0 1 (by omega), e0 2 (by omega), e0 3 (by omega), e10 0 (by omega), e10 1 (by omega), e10 2 (by omega), e10 3 (by omega)]
    exact h1
  · rw [e0 2 (by omega)]; exact a1
  · intro i hi'
    rw [e5 i (by omega)]; exact a3 i hi'
  · intro i hi'
    rw [e9 _ (by omega), e9 _ (by omega), e9 _ (by omega), e9 _ (by omega), e2 i (by omega), e3 i (by omega), e4 i (by omega), e5 i (by omega)]
    exact h5 i hi'
  · intro s hs6
    obtain ⟨p1, p2⟩ := h6 s hs6
    refine ⟨p1, ?_⟩
    unfold ed_S at p2 ⊢
    refine ed_Q_cg (by omega) ?_ ?_ ?_ ?_ p2
    · intro j hj; exact e1 _ (by omega)
    · intro j hj; exact e8 _ (by omega)
    · intro i hi'; exact ⟨e2 i (by omega), e3 i (by omega), e4 i (by omega), e5 i (by omega)⟩
    · intro i hi'
      rw [e6 i (by omega), e7 i (by omega)]
      exact ⟨fun _ _ => rfl, rfl⟩
/-- one slot changes, the others stand -/
theorem ed_C_slot {k h hi s : Nat} {hs : Nat → Nat} {fg x ty a b t tm tg y ev g x' y' tm' tg' : Nat → Int32} (n : Nat) (hn : n ≤ h) (hs6 : s < 6) (ex : ∀ j, j < 594 → (j < 99 * s ∨ 99 * s + 99 ≤ j) → x' j = x j) (ey : ∀ j, j < 600 → (j < 100 * s ∨ 100 * s + 100 ≤ j) → y' j = y j) (em : ∀ i, i < hi → ∀ l, (l < 3 * s ∨ 3 * s + 3 ≤ l) → bt (tm' i) l = bt (tm i) l) (eg : ∀ i, i < hi → ∀ l, l ≠ s → bt (tg' i) l = bt (tg i) l) (Q : ed_S s n hi x' ty a b t tm' tg' y') (H : ed_C k h hi hs fg x ty a b t tm tg y ev g) : ed_C k h hi (fun j => if j = s then n else hs j) fg x' ty a b t tm' tg' y' ev g := by
  obtain ⟨h1, h2, h3, h4, h5⟩ := H
  refine ⟨h1, h2, h3, h4, fun z hz => ?_⟩
  dsimp only
  by_cases e : z = s
  · subst e
    rw [if_pos rfl]
    exact ⟨hn, Q⟩
  · rw [if_neg e]
    obtain ⟨p1, p2⟩ := h5 z hz
    refine ⟨p1, ?_⟩
    unfold ed_S at p2 ⊢
    refine ed_Q_cg (by omega) ?_ ?_ ?_ ?_ p2
    · intro j hj; exact ex _ (by omega) (by omega)
    · intro j hj; exact ey _ (by omega) (by omega)
    · intro i hi'; exact ⟨rfl, rfl, rfl, rfl⟩
    · intro i hi'
      exact ⟨fun w hw => em i hi' _ (by omega), eg i hi' _ e⟩
theorem ed_hs_eq {h s : Nat} : (fun j => if j = s then h else (fun _ => h) j) = (fun _ : Nat => h) := by
  funext j
  by_cases e : j = s
  · rw [if_pos e]
  · rw [if_neg e]
theorem i_up {k : Nat} {u : SX} {v : SY} (h : i_Rel k u v) : i_Rel (k + 6) u v := by
  obtain ⟨xl, xw, xk, xP, xL, xF, xQ, xT, xA, xB, xC, xM, xG, kF, kQ, kT, kA, kB, kC, kM, kG, xS, xZ⟩ := u
  obtain ⟨fT, fL, fK, fW, fB, fH, fO, aT, aL, aQ, aE, aG, aKQ, aKE, aKG, aW, aS, aM, aV, aZ, aB⟩ := v
  obtain ⟨a, b, c, d, e⟩ := h
  exact ⟨a, b, c, ed_B_up (by omega) d, ed_K_up (by omega) e⟩
end
section
/-! indices -/
theorem ed_xi (s o : Nat) : nI s * 99 + nI o = nI (99 * s + o) := by
  rw [show (99 : Int32) = nI 99 from rfl, pk_mul, nI_add, Nat.mul_comm]
theorem ed_yi (s o : Nat) : 100 * nI s + nI o = nI (100 * s + o) := by
  rw [show (100 : Int32) = nI 100 from rfl, pk_mul, nI_add]
theorem ed_x (s o : Nat) (hs : s < 6) (ho : o < 99) : vp_in (nI s * 99 + nI o) 594 ∧ (nI s * 99 + nI o).toNatClampNeg = 99 * s + o := by
  rw [ed_xi]; exact ⟨vp_in_nI (by omega) (by omega), nI_clamp (by omega)⟩
theorem ed_y (s o : Nat) (hs : s < 6) (ho : o < 100) : vp_in (100 * nI s + nI o) 600 ∧ (100 * nI s + nI o).toNatClampNeg = 100 * s + o := by
  rw [ed_yi]; exact ⟨vp_in_nI (by omega) (by omega), nI_clamp (by omega)⟩
theorem ed_y0 (s : Nat) (hs : s < 6) : vp_in (100 * nI s) 600 ∧ (100 * nI s).toNatClampNeg = 100 * s := by
  rw [show (100 : Int32) = nI 100 from rfl, pk_mul]; exact ⟨vp_in_nI (by omega) (by omega), nI_clamp (by omega)⟩
theorem ed_slot (p : Int32) : (p < 0 ∨ (¬ p < 0 ∧ 6 ≤ p)) ∨ ∃ s : Nat, s < 6 ∧ p = nI s := by
  rcases pk_ix p (n := 6) (by omega) with h | h | h
  · exact Or.inl (Or.inl h)
  · exact Or.inl (Or.inr ⟨fun z => absurd (Int32.lt_of_le_of_lt h z) (by decide), h⟩)
  · exact Or.inr h
theorem ed_nn {s : Nat} (hs : s < 6) : ¬ nI s < 0 := nI_pos (by omega)
theorem ed_n6 {s : Nat} (hs : s < 6) : ¬ (6 : Int32) ≤ nI s := nI_ge (b := 6) hs (by omega)
section
variable {xl xw xk : Int32} {xP xL xF xQ xT xA xB xC xM xG kF kQ kT kA kB kC kM kG xS xZ : Nat → Int32}
variable {fT fL fK fW fB fH fO : Int32} {aT aL aQ aE aG aKQ aKE aKG aW aS aM aV aZ aB : Nat → Int32}
theorem xb_isSlot {post : Int32 → Prop} {s : Nat} (hs : s < 6) (h : post 1) : wpX_isSlot post (nI s) := br_f (ed_nn hs) (br_f (ed_n6 hs) h)
theorem xb_isSlot0 {post : Int32 → Prop} {p : Int32} (hp : p < 0 ∨ (¬ p < 0 ∧ 6 ≤ p)) (h : post 0) : wpX_isSlot post p := by
  rcases hp with hp | hp
  · exact br_t hp h
  · exact br_f hp.1 (br_t hp.2 h)
theorem yb_isSlot {post : Int32 → Prop} {s : Nat} (hs : s < 6) (h : post 1) : wpY_isSlot post (fT, fL, fK, fW, fB, fH, fO, aT, aL, aQ, aE, aG, aKQ, aKE, aKG, aW, aS, aM, aV, aZ, aB) (nI s) := br_f (ed_nn hs) (br_f (ed_n6 hs) h)
theorem yb_isSlot0 {post : Int32 → Prop} {p : Int32} (hp : p < 0 ∨ (¬ p < 0 ∧ 6 ≤ p)) (h : post 0) : wpY_isSlot post (fT, fL, fK, fW, fB, fH, fO, aT, aL, aQ, aE, aG, aKQ, aKE, aKG, aW, aS, aM, aV, aZ, aB) p := by
  rcases hp with hp | hp
  · exact br_t hp h
  · exact br_f hp.1 (br_t hp.2 h)
theorem xb_hasQ {post : Int32 → Prop} {s : Nat} (hs : s < 6) (h0 : xQ (99 * s) = 0 → post 0) (h1 : ¬ xQ (99 * s) = 0 → post 1) : wpX_hasQuestion post (xl, xw, xk, xP, xL, xF, xQ, xT, xA, xB, xC, xM, xG, kF, kQ, kT, kA, kB, kC, kM, kG, xS, xZ) (nI s) := by
  have c := ed_x s 0 hs (by omega)
  unfold wpX_hasQuestion
  dsimp only
  refine xb_isSlot hs (br_f (by decide) ⟨c.1, ?_⟩)
  have c2 : (nI s * 99 + 0).toNatClampNeg = 99 * s := c.2
  rw [c2]
  exact ⟨h0, h1⟩
theorem xb_hasQ0 {post : Int32 → Prop} {p : Int32} (hp : p < 0 ∨ (¬ p < 0 ∧ 6 ≤ p)) (h : post 0) : wpX_hasQuestion post (xl, xw, xk, xP, xL, xF, xQ, xT, xA, xB, xC, xM, xG, kF, kQ, kT, kA, kB, kC, kM, kG, xS, xZ) p := by
  unfold wpX_hasQuestion
  dsimp only
  exact xb_isSlot0 hp (br_t rfl h)
end
/-- one slot changes between calls -/
theorem ed_B_slot {k h s : Nat} {fg x ty a b t tm tg y ev g x' y' : Nat → Int32} (hs6 : s < 6) (ex : ∀ j, j < 594 → (j < 99 * s ∨ 99 * s + 99 ≤ j) → x' j = x j) (ey : ∀ j, j < 600 → (j < 100 * s ∨ 100 * s + 100 ≤ j) → y' j = y j) (Q : ed_S s h h x' ty a b t tm tg y') (H : ed_C k h h (fun _ => h) fg x ty a b t tm tg y ev g) : ed_B k fg x' ty a b t tm tg y' ev g := by
  refine ⟨h, ?_⟩
  have z := ed_C_slot (tm' := tm) (tg' := tg) h (Nat.le_refl h) hs6 ex ey (fun _ _ _ _ => rfl) (fun _ _ _ _ => rfl) Q H
  simpa only [ite_self] using z
theorem ed_C_s {k h hi s : Nat} {hs : Nat → Nat} {fg x ty a b t tm tg y ev g : Nat → Int32} (H : ed_C k h hi hs fg x ty a b t tm tg y ev g) (h6 : s < 6) : ed_S s (hs s) hi x ty a b t tm tg y := (H.2.2.2.2 s h6).2
theorem i_vc0 : wpX_init (fun u => wpY_init (fun v => i_Rel 0 u v)) := by
  refine ⟨⟨0, by omega, rfl, rfl, fun _ _ => ⟨rfl, rfl⟩, fun i hi => absurd hi (Nat.not_lt_zero _)⟩, ⟨0, by omega, rfl, rfl, fun _ _ => ⟨rfl, fun _ _ => ⟨rfl, rfl⟩⟩, fun i hi => absurd hi (Nat.not_lt_zero _)⟩, rfl, ⟨0, ⟨rfl, rfl, rfl, rfl, rfl⟩, ⟨Nat.le_refl _, by omega⟩, ⟨0, fun _ => 0, rfl, by omega, fun i hi => absurd hi (Nat.not_lt_zero _), fun i j _ hj => absurd hj (Nat.not_lt_zero _)⟩, fun i hi => absurd hi (Nat.not_lt_zero _), fun s hs => ⟨Nat.le_refl _, rfl, Or.inl rfl⟩⟩, Or.inl ⟨rfl, rfl⟩⟩
theorem i_vc_drop {k : Nat} {u : SX} {v : SY} (I : i_Rel k u v) (hk : k + 6 ≤ 3072) : wpX_drop (fun r u' => wpY_drop (fun r' v' => r' = r ∧ i_Rel (k + 6) u' v') v) u := by
  obtain ⟨xl, xw, xk, xP, xL, xF, xQ, xT, xA, xB, xC, xM, xG, kF, kQ, kT, kA, kB, kC, kM, kG, xS, xZ⟩ := u
  obtain ⟨fT, fL, fK, fW, fB, fH, fO, aT, aL, aQ, aE, aG, aKQ, aKE, aKG, aW, aS, aM, aV, aZ, aB⟩ := v
  obtain ⟨⟨n, hn, p1, p2, p3, p4⟩, ⟨l, hl, l1, l2, l3, l4⟩, hw, hB, hK⟩ := I
  refine nm_e (nm_e (nm_e ⟨?_, ⟨0, by omega, pk_us, rfl, ?_, fun i hi => absurd hi (Nat.not_lt_zero _)⟩, ⟨0, by omega, rfl, rfl, l3, fun i hi => absurd hi (Nat.not_lt_zero _)⟩, hw, ed_B_up (by omega) hB, ed_K_up (by omega) hK⟩))
  · rw [p1, p2, l1, l2]
  · intro i hi
    rw [pk_un (by omega), pk_un (by omega)]
    exact p3 i hi
theorem i_vc_state {k : Nat} {u : SX} {v : SY} (I : i_Rel k u v) (hk : k + 6 ≤ 3072) (v1 : Int32) : wpX_state (fun r => wpY_state (fun r' => r' = r ∧ i_Rel (k + 6) u v) v v1) u v1 := by
  obtain ⟨xl, xw, xk, xP, xL, xF, xQ, xT, xA, xB, xC, xM, xG, kF, kQ, kT, kA, kB, kC, kM, kG, xS, xZ⟩ := u
  obtain ⟨fT, fL, fK, fW, fB, fH, fO, aT, aL, aQ, aE, aG, aKQ, aKE, aKG, aW, aS, aM, aV, aZ, aB⟩ := v
  have I' := i_up I
  obtain ⟨hP, hL, hw, ⟨h, ⟨g0, g0', g1, g2, g3⟩, hC⟩, hK⟩ := I
  rcases pk_ix v1 (n := 4) (by omega) with z | z | ⟨j, hj, rfl⟩
  · exact br_t z (br_t z ⟨rfl, I'⟩)
  · have z0 : ¬ v1 < 0 := fun q => absurd (Int32.lt_of_le_of_lt z q) (by decide)
    have z3 : ¬ v1 ≤ 3 := fun q => absurd (Int32.le_trans z q) (by decide)
    exact br_f z0 (br_t z (br_f z0 (br_f z3 ⟨rfl, I'⟩)))
  · have z0 : ¬ nI j < 0 := nI_pos (by omega)
    have z4 : ¬ (4 : Int32) ≤ nI j := nI_ge (b := 4) hj (by omega)
    have z3 : nI j ≤ (3 : Int32) := nI_le (b := 3) (by omega) (by omega)
    have zi : vp_in (nI j) 4 := vp_in_nI hj (by omega)
    refine br_f z0 (br_f z4 ⟨zi, br_f z0 (br_t z3 ⟨zi, ?_, I'⟩)⟩)
    rw [nI_clamp (by omega)]
    have : j = 0 ∨ j = 1 ∨ j = 2 ∨ j = 3 := by omega
    rcases this with rfl | rfl | rfl | rfl
    · exact g0'.trans g0.symm
    · exact g1.symm
    · exact g2.symm
    · exact g3.symm
theorem i_vc_advance {k : Nat} {u : SX} {v : SY} (I : i_Rel k u v) (hk : k + 6 ≤ 3072) (v1 : Int32) : wpX_advance (fun r u' => wpY_advance (fun r' v' => r' = r ∧ i_Rel (k + 6) u' v') v v1) u v1 := by
  obtain ⟨xl, xw, xk, xP, xL, xF, xQ, xT, xA, xB, xC, xM, xG, kF, kQ, kT, kA, kB, kC, kM, kG, xS, xZ⟩ := u
  obtain ⟨fT, fL, fK, fW, fB, fH, fO, aT, aL, aQ, aE, aG, aKQ, aKE, aKG, aW, aS, aM, aV, aZ, aB⟩ := v
  have I' := i_up I
  obtain ⟨hP, hL, hw, ⟨h, ⟨g0, g0', g1, g2, g3⟩, h2, ⟨now, tn, a1, a2, a3, a4⟩, h4, h5⟩, hK⟩ := I
  by_cases z0 : v1 < 0
  · exact br_t z0 (br_t z0 ⟨rfl, I'⟩)
  · by_cases z1 : v1 ≤ 100
    · obtain ⟨d, hd, rfl⟩ := nI_of2 (M := 100) (n := 100) (by decide) z0 z1
      refine br_f z0 (br_t z1 (nm_e (br_f z0 (br_t z1 (nm_e ⟨?_, hP, hL, hw, ⟨h, ⟨?_, ?_, ?_, ?_, ?_⟩, h2, ⟨now + d, tn, ?_, by omega, fun i hi => ⟨(a3 i hi).1, by have := (a3 i hi).2; omega⟩, a4⟩, h4, h5⟩, ed_K_up (by omega) hK⟩)))))
      · rw [pk_us, pk_us, g2]
      · rw [pk_un (by omega)]; exact g0
      · rw [pk_un (by omega)]; exact g0'
      · rw [pk_un (by omega), pk_un (by omega)]; exact g1
      · rw [pk_us, pk_us, g2]
      · rw [pk_un (by omega), pk_un (by omega)]; exact g3
      · rw [pk_us, a1, nI_add]
    · exact br_f z0 (br_f z1 (br_f z0 (br_f z1 ⟨rfl, I'⟩)))
theorem i_vc_term {k : Nat} {u : SX} {v : SY} (I : i_Rel k u v) (hk : k + 6 ≤ 3072) (v1 : Int32) (v2 : Int32) : wpX_term (fun r u' => wpY_term (fun r' v' => r' = r ∧ i_Rel (k + 6) u' v') v v1 v2) u v1 v2 := by
  obtain ⟨xl, xw, xk, xP, xL, xF, xQ, xT, xA, xB, xC, xM, xG, kF, kQ, kT, kA, kB, kC, kM, kG, xS, xZ⟩ := u
  obtain ⟨fT, fL, fK, fW, fB, fH, fO, aT, aL, aQ, aE, aG, aKQ, aKE, aKG, aW, aS, aM, aV, aZ, aB⟩ := v
  have I' := i_up I
  obtain ⟨⟨n, hn, p1, p2, p3, p4⟩, hL, hw, hB, hK⟩ := I
  refine nm_r p1 ?_
  by_cases z0 : v1 < 0
  · exact br_t z0 (br_t z0 ⟨rfl, I'⟩)
  by_cases z1 : 13 < v1
  · exact br_f z0 (br_t z1 (br_f z0 (br_t z1 ⟨rfl, I'⟩)))
  refine br_f z0 (br_f z1 ?_)
  subst p2
  by_cases z2 : n < 12
  · have hx : nI n < 12 := nI_lt (b := 12) z2 (by omega)
    have hy : ¬ nI n = 12 := by
      intro q
      have := (nI_eq (a := n) (b := 12) (by omega) (by omega)).mp q
      omega
    have i1 : (1 : Int32) + nI n = nI (1 + n) := nI_add 1 n
    have i13 : (13 : Int32) + nI n = nI (13 + n) := nI_add 13 n
    have j0 : (2 : Int32) * nI n = nI (2 * n) := pk_mul 2 n
    have j1 : nI (2 * n) + 1 = nI (2 * n + 1) := nI_1 _
    obtain ⟨d, hd, rfl⟩ := nI_of2 (M := 13) (n := 13) (by decide) z0 (Int32.not_lt.mp z1)
    refine br_t hx ?_
    rw [i1, i13, nI_clamp (by omega), nI_clamp (by omega)]
    refine ⟨vp_in_nI (by omega) (by omega), nm_e ⟨vp_in_nI (by omega) (by omega), nm_e (nm_e (br_f z0 (br_f z1 (br_f hy ?_))))⟩⟩
    rw [j0, j1, nI_clamp (by omega), nI_clamp (by omega)]
    refine ⟨vp_in_nI (by omega) (by omega), nm_e ⟨vp_in_nI (by omega) (by omega), nm_e (nm_e ⟨rfl, ⟨n + 1, by omega, ?_, nI_1 n, ?_, ?_⟩, hL, hw, ed_B_up (by omega) hB, ed_K_up (by omega) hK⟩)⟩⟩
    · rw [pk_us, nI_1]
    · intro i hi
      by_cases e : i = n
      · subst e; simp (disch := omega) only [pk_us, pk_un]; exact ⟨trivial, trivial⟩
      · simp (disch := omega) only [pk_us, pk_un]; exact p3 i hi
    · intro i hi
      by_cases e : i = n
      · subst e; simp (disch := omega) only [pk_us, pk_un]; exact ⟨d, hd, rfl⟩
      · simp (disch := omega) only [pk_us, pk_un]; exact p4 i (by omega)
  · have e : n = 12 := by omega
    subst e
    exact br_f (by decide) (br_f z0 (br_f z1 (br_t rfl ⟨rfl, I'⟩)))
end
section
/-! remove, giving, given, output -/
theorem i_vc_remove {k : Nat} {u : SX} {v : SY} (I : i_Rel k u v) (hk : k + 6 ≤ 3072) (v1 : Int32) : wpX_remove (fun r u' => wpY_remove (fun r' v' => r' = r ∧ i_Rel (k + 6) u' v') v v1) u v1 := by
  obtain ⟨xl, xw, xk, xP, xL, xF, xQ, xT, xA, xB, xC, xM, xG, kF, kQ, kT, kA, kB, kC, kM, kG, xS, xZ⟩ := u
  obtain ⟨fT, fL, fK, fW, fB, fH, fO, aT, aL, aQ, aE, aG, aKQ, aKE, aKG, aW, aS, aM, aV, aZ, aB⟩ := v
  have I' := i_up I
  obtain ⟨hP, hL, hw, ⟨h, hC⟩, hK⟩ := I
  unfold wpX_remove
  dsimp only
  rcases ed_slot v1 with hb | ⟨s, hs, rfl⟩
  · refine xb_hasQ0 hb (br_t rfl ?_)
    unfold wpY_remove
    dsimp only
    exact yb_isSlot0 hb (br_t rfl ⟨rfl, I'⟩)
  have hS := ed_C_s hC hs
  have e0 : xQ (99 * s) = aQ (100 * s) := hS.1
  have cx : (nI s * 99 + 0).toNatClampNeg = 99 * s := (ed_x s 0 hs (by omega)).2
  have vx : vp_in (nI s * 99 + 0) 594 := (ed_x s 0 hs (by omega)).1
  have cy := ed_y0 s hs
  refine xb_hasQ hs (fun z => br_t rfl ?_) (fun z => br_f (by decide) ⟨vx, nm_e ?_⟩)
  · unfold wpY_remove
    dsimp only
    refine yb_isSlot hs (br_f (by decide) ⟨cy.1, ?_⟩)
    rw [cy.2]
    exact br_t (e0.symm.trans z) ⟨rfl, I'⟩
  · unfold wpY_remove
    dsimp only
    refine yb_isSlot hs (br_f (by decide) ⟨cy.1, ?_⟩)
    rw [cy.2, cx]
    refine br_f (fun q => z (e0.trans q)) ⟨cy.1, nm_e ⟨rfl, hP, hL, hw, ed_B_up (by omega) (ed_B_slot hs ?_ ?_ ?_ hC), ed_K_up (by omega) hK⟩⟩
    · intro j _ hj; exact pk_un (by omega)
    · intro j _ hj; exact pk_un (by omega)
    · refine ⟨?_, Or.inl ?_⟩
      · show upd xQ (99 * s) 0 (99 * s) = upd aQ (100 * s) 0 (100 * s)
        rw [pk_us, pk_us]
      · exact pk_us
theorem i_vc_giving {k : Nat} {u : SX} {v : SY} (I : i_Rel k u v) (hk : k + 6 ≤ 3072) (v1 : Int32) (v2 : Int32) (v3 : Int32) (v4 : Int32) : wpX_giving (fun r u' => wpY_giving (fun r' v' => r' = r ∧ i_Rel (k + 6) u' v') v v1 v2 v3 v4) u v1 v2 v3 v4 := by
  obtain ⟨xl, xw, xk, xP, xL, xF, xQ, xT, xA, xB, xC, xM, xG, kF, kQ, kT, kA, kB, kC, kM, kG, xS, xZ⟩ := u
  obtain ⟨fT, fL, fK, fW, fB, fH, fO, aT, aL, aQ, aE, aG, aKQ, aKE, aKG, aW, aS, aM, aV, aZ, aB⟩ := v
  have I' := i_up I
  obtain ⟨hP, hL, hw, ⟨h, hC⟩, hK⟩ := I
  unfold wpX_giving
  dsimp only
  rcases ed_slot v1 with hb | ⟨s, hs, rfl⟩
  · refine xb_hasQ0 hb (br_t rfl ?_)
    unfold wpY_giving
    dsimp only
    exact yb_isSlot0 hb (br_t rfl ⟨rfl, I'⟩)
  have hS := ed_C_s hC hs
  have e0 : xQ (99 * s) = aQ (100 * s) := hS.1
  have cy := ed_y0 s hs
  refine xb_hasQ hs (fun z => br_t rfl ?_) (fun z => br_f (by decide) ?_)
  · unfold wpY_giving
    dsimp only
    refine yb_isSlot hs (br_f (by decide) ⟨cy.1, ?_⟩)
    rw [cy.2]
    exact br_t (e0.symm.trans z) ⟨rfl, I'⟩
  have zy : ¬ aQ (100 * s) = 0 := fun q => z (e0.trans q)
  have Y : ∀ (A : Int32 → SY → Prop) , ((v3 < 1 → A 0 (fT, fL, fK, fW, fB, fH, fO, aT, aL, aQ, aE, aG, aKQ, aKE, aKG, aW, aS, aM, aV, aZ, aB)) ∧ (¬ v3 < 1 → ((8 < v3 → A 0 (fT, fL, fK, fW, fB, fH, fO, aT, aL, aQ, aE, aG, aKQ, aKE, aKG, aW, aS, aM, aV, aZ, aB)) ∧ (¬ 8 < v3 → ((v4 < 0 → A 0 (fT, fL, fK, fW, fB, fH, fO, aT, aL, aQ, aE, aG, aKQ, aKE, aKG, aW, aS, aM, aV, aZ, aB)) ∧ (¬ v4 < 0 → ((v4 ≤ 4 → A 1 (fT, fL, fK, fW, fB, fH, fO, aT, aL, upd (upd (upd aQ (100 * s + 6) v2) (100 * s + 7) v3) (100 * s + 8) v4, aE, aG, aKQ, aKE, aKG, aW, aS, aM, aV, aZ, aB)) ∧ (¬ v4 ≤ 4 → A 0 (fT, fL, fK, fW, fB, fH, fO, aT, aL, aQ, aE, aG, aKQ, aKE, aKG, aW, aS, aM, aV, aZ, aB))))))))) → wpY_giving A (fT, fL, fK, fW, fB, fH, fO, aT, aL, aQ, aE, aG, aKQ, aKE, aKG, aW, aS, aM, aV, aZ, aB) (nI s) v2 v3 v4 := by
    intro A H
    unfold wpY_giving
    dsimp only
    have w6 := ed_y s 6 hs (by omega)
    have w7 := ed_y s 7 hs (by omega)
    have w8 := ed_y s 8 hs (by omega)
    refine yb_isSlot hs (br_f (by decide) ⟨cy.1, ?_⟩)
    rw [cy.2]
    refine br_f zy ⟨H.1, fun a => ⟨(H.2 a).1, fun b => ⟨((H.2 a).2 b).1, fun c => ⟨fun d => ⟨w6.1, nm_e ⟨w7.1, nm_e ⟨w8.1, nm_e ?_⟩⟩⟩, (((H.2 a).2 b).2 c).2⟩⟩⟩⟩
    have q := (((H.2 a).2 b).2 c).1 d
    have c6 : (100 * nI s + 6).toNatClampNeg = 100 * s + 6 := w6.2
    have c7 : (100 * nI s + 7).toNatClampNeg = 100 * s + 7 := w7.2
    have c8 : (100 * nI s + 8).toNatClampNeg = 100 * s + 8 := w8.2
    rw [c6, c7, c8]
    exact q
  by_cases z1 : v3 < 1
  · exact br_t z1 (Y _ (br_t z1 ⟨rfl, I'⟩))
  by_cases z2 : 8 < v3
  · exact br_f z1 (br_t z2 (Y _ (br_f z1 (br_t z2 ⟨rfl, I'⟩))))
  by_cases z3 : v4 < 0
  · exact br_f z1 (br_f z2 (br_t z3 (Y _ (br_f z1 (br_f z2 (br_t z3 ⟨rfl, I'⟩))))))
  by_cases z4 : v4 ≤ 4
  · have w9 := ed_x s 9 hs (by omega)
    have w10 := ed_x s 10 hs (by omega)
    have w11 := ed_x s 11 hs (by omega)
    have c9 : (nI s * 99 + 9).toNatClampNeg = 99 * s + 9 := w9.2
    have c10 : (nI s * 99 + 10).toNatClampNeg = 99 * s + 10 := w10.2
    have c11 : (nI s * 99 + 11).toNatClampNeg = 99 * s + 11 := w11.2
    refine br_f z1 (br_f z2 (br_f z3 (br_t z4 (nm_e ⟨w9.1, nm_e ⟨w10.1, nm_e ⟨w11.1, nm_e ?_⟩⟩⟩))))
    rw [c9, c10, c11]
    refine Y _ (br_f z1 (br_f z2 (br_f z3 (br_t z4 ⟨rfl, hP, hL, hw, ed_B_up (by omega) (ed_B_slot hs ?_ ?_ ?_ hC), ed_K_up (by omega) hK⟩))))
    · intro j _ hj; rw [pk_un (by omega), pk_un (by omega), pk_un (by omega)]
    · intro j _ hj; rw [pk_un (by omega), pk_un (by omega), pk_un (by omega)]
    · obtain ⟨r', hr', rfl⟩ := nI_of2 (M := 8) (n := 8) (by decide) (fun q => z1 (Int32.lt_trans q (by decide))) (Int32.not_lt.mp z2)
      have r1 : 1 ≤ r' := by
        rcases Nat.eq_zero_or_pos r' with q | q
        · subst q; exact absurd (by decide) z1
        · exact q
      have hS' := hS
      obtain ⟨_, hq | ⟨f, g, c, r, Q⟩⟩ := hS
      · exact absurd hq z
      have Q' := Q
      obtain ⟨⟨hf, hg, hr1, hr8, hc⟩, ⟨n12, n14, n23, n10⟩, ⟨q9, q10, q11, q12, q13, q14, q23, qc⟩, ho, _⟩ := Q'
      refine ⟨?_, Or.inr ⟨f, g, c, r', ed_Qs_upd (Nat.le_refl _) ?_ ?_ (fun i _ => ⟨rfl, rfl, rfl, rfl⟩) (fun i _ => ⟨fun _ _ => rfl, rfl⟩) hg ⟨r1, hr'⟩ ?_ ?_ ?_ ?_ ?_ ?_ ?_ ?_ Q⟩⟩
      · show upd _ _ _ (99 * s) = upd _ _ _ (100 * s)
        rw [pk_un (by omega), pk_un (by omega), pk_un (by omega), pk_un (by omega), pk_un (by omega), pk_un (by omega)]
        exact e0
      · intro j h1 h2; (try dsimp only); simp (disch := omega) only [pk_us, pk_un]
      · intro j h1 h2; (try dsimp only); simp (disch := omega) only [pk_us, pk_un]
      · (try dsimp only); simp (disch := omega) only [pk_us, pk_un]; exact n14
      · (try dsimp only); simp (disch := omega) only [pk_us, pk_un]
      · (try dsimp only); simp (disch := omega) only [pk_us, pk_un]
      · (try dsimp only); simp (disch := omega) only [pk_us, pk_un]
      · (try dsimp only); simp (disch := omega) only [pk_us, pk_un]
      · (try dsimp only); simp (disch := omega) only [pk_us, pk_un]; exact q13
      · (try dsimp only); simp (disch := omega) only [pk_us, pk_un]; exact q14
      · intro j h1 h2; (try dsimp only); simp (disch := omega) only [pk_us, pk_un]; exact ho j h1 h2
  · exact br_f z1 (br_f z2 (br_f z3 (br_f z4 (Y _ (br_f z1 (br_f z2 (br_f z3 (br_f z4 ⟨rfl, I'⟩))))))))
theorem i_vc_given {k : Nat} {u : SX} {v : SY} (I : i_Rel k u v) (hk : k + 6 ≤ 3072) (v1 : Int32) (v2 : Int32) : wpX_given (fun r => wpY_given (fun r' => r' = r ∧ i_Rel (k + 6) u v) v v1 v2) u v1 v2 := by
  obtain ⟨xl, xw, xk, xP, xL, xF, xQ, xT, xA, xB, xC, xM, xG, kF, kQ, kT, kA, kB, kC, kM, kG, xS, xZ⟩ := u
  obtain ⟨fT, fL, fK, fW, fB, fH, fO, aT, aL, aQ, aE, aG, aKQ, aKE, aKG, aW, aS, aM, aV, aZ, aB⟩ := v
  have I' := i_up I
  obtain ⟨hP, hL, hw, ⟨h, hC⟩, hK⟩ := I
  unfold wpX_given
  dsimp only
  rcases ed_slot v1 with hb | ⟨s, hs, rfl⟩
  · refine xb_hasQ0 hb (br_t rfl ?_)
    unfold wpY_given
    dsimp only
    exact yb_isSlot0 hb (br_t rfl ⟨rfl, I'⟩)
  obtain ⟨e0, hq⟩ := ed_C_s hC hs
  dsimp only at e0 hq
  have e0 : xQ (99 * s) = aQ (100 * s) := e0
  have cy := ed_y0 s hs
  refine xb_hasQ hs (fun z => br_t rfl ?_) (fun z => br_f (by decide) ?_)
  · unfold wpY_given
    dsimp only
    refine yb_isSlot hs (br_f (by decide) ⟨cy.1, ?_⟩)
    rw [cy.2]
    exact br_t (e0.symm.trans z) ⟨rfl, I'⟩
  have zy : ¬ aQ (100 * s) = 0 := fun q => z (e0.trans q)
  rcases hq with hq | ⟨f, g, c, r, ⟨hf, hg, hr1, hr8, hc⟩, ⟨n12, n14, n23, n10⟩, ⟨q9, q10, q11, q12, q13, q14, q23, qc⟩, ho, _⟩
  · exact absurd hq z
  have c13 : (nI s * 99 + 13).toNatClampNeg = 99 * s + 13 := (ed_x s 13 hs (by omega)).2
  have c14 : (nI s * 99 + 14).toNatClampNeg = 99 * s + 14 := (ed_x s 14 hs (by omega)).2
  have d10 : (100 * nI s + 10).toNatClampNeg = 100 * s + 10 := (ed_y s 10 hs (by omega)).2
  have d11 : (100 * nI s + 11).toNatClampNeg = 100 * s + 11 := (ed_y s 11 hs (by omega)).2
  rw [c13, c14]
  have Y : ∀ A : Int32 → Prop, ((v2 < 0 → A (-1)) ∧ (¬ v2 < 0 → ((v2 ≤ 1 → ((v2 = 0 → A (aQ (100 * s + 11))) ∧ (¬ v2 = 0 → A (aQ (100 * s + 10))))) ∧ (¬ v2 ≤ 1 → A (-1))))) → wpY_given A (fT, fL, fK, fW, fB, fH, fO, aT, aL, aQ, aE, aG, aKQ, aKE, aKG, aW, aS, aM, aV, aZ, aB) (nI s) v2 := by
    intro A H
    unfold wpY_given
    dsimp only
    refine yb_isSlot hs (br_f (by decide) ⟨cy.1, ?_⟩)
    rw [cy.2, d10, d11]
    exact br_f zy ⟨H.1, fun a => ⟨fun b => ⟨fun c => ⟨(ed_y s 11 hs (by omega)).1, ((H.2 a).1 b).1 c⟩, fun c => ⟨(ed_y s 10 hs (by omega)).1, ((H.2 a).1 b).2 c⟩⟩, (H.2 a).2⟩⟩
  by_cases z0 : v2 = 0
  · refine br_t z0 ⟨(ed_x s 14 hs (by omega)).1, Y _ ?_⟩
    subst z0
    exact br_f (by decide) (br_t (by decide) (br_t rfl ⟨q14.symm, I'⟩))
  · refine br_f z0 ?_
    by_cases z1 : v2 = 1
    · refine br_t z1 ⟨(ed_x s 13 hs (by omega)).1, Y _ ?_⟩
      subst z1
      exact br_f (by decide) (br_t (by decide) (br_f (by decide) ⟨q13.symm, I'⟩))
    · refine br_f z1 (Y _ ⟨fun _ => ⟨rfl, I'⟩, fun a => ⟨fun b => ?_, fun _ => ⟨rfl, I'⟩⟩⟩)
      obtain ⟨d, hd, rfl⟩ := nI_of2 (M := 1) (n := 1) (by decide) a b
      have : d = 0 ∨ d = 1 := by omega
      rcases this with rfl | rfl
      · exact absurd rfl z0
      · exact absurd rfl z1
theorem i_vc_output {k : Nat} {u : SX} {v : SY} (I : i_Rel k u v) (hk : k + 6 ≤ 3072) (v1 : Int32) (v2 : Int32) : wpX_output (fun r => wpY_output (fun r' => r' = r ∧ i_Rel (k + 6) u v) v v1 v2) u v1 v2 := by
  obtain ⟨xl, xw, xk, xP, xL, xF, xQ, xT, xA, xB, xC, xM, xG, kF, kQ, kT, kA, kB, kC, kM, kG, xS, xZ⟩ := u
  obtain ⟨fT, fL, fK, fW, fB, fH, fO, aT, aL, aQ, aE, aG, aKQ, aKE, aKG, aW, aS, aM, aV, aZ, aB⟩ := v
  have I' := i_up I
  obtain ⟨hP, hL, hw, ⟨h, hC⟩, hK⟩ := I
  unfold wpX_output
  dsimp only
  rcases ed_slot v1 with hb | ⟨s, hs, rfl⟩
  · refine xb_hasQ0 hb (br_t rfl ?_)
    unfold wpY_output
    dsimp only
    exact yb_isSlot0 hb (br_t rfl ⟨rfl, I'⟩)
  have h64 := hC.2.1.2
  obtain ⟨e0, hq⟩ := ed_C_s hC hs
  dsimp only at e0 hq
  have e0 : xQ (99 * s) = aQ (100 * s) := e0
  have cy := ed_y0 s hs
  refine xb_hasQ hs (fun z => br_t rfl ?_) (fun z => br_f (by decide) ?_)
  · unfold wpY_output
    dsimp only
    refine yb_isSlot hs (br_f (by decide) ⟨cy.1, ?_⟩)
    rw [cy.2]
    exact br_t (e0.symm.trans z) ⟨rfl, I'⟩
  have zy : ¬ aQ (100 * s) = 0 := fun q => z (e0.trans q)
  rcases hq with hq | ⟨f, g, c, r, ⟨hf, hg, hr1, hr8, hc⟩, ⟨n12, n14, n23, n10⟩, ⟨q9, q10, q11, q12, q13, q14, q23, qc⟩, ho, _⟩
  · exact absurd hq z
  have c14 : (nI s * 99 + 14).toNatClampNeg = 99 * s + 14 := (ed_x s 14 hs (by omega)).2
  have d11 : (100 * nI s + 11).toNatClampNeg = 100 * s + 11 := (ed_y s 11 hs (by omega)).2
  have m14 : aQ (100 * s + 11) = nI g := q14.symm.trans n14
  have Y : ∀ A : Int32 → Prop, ((v2 < 0 → A 0) ∧ (¬ v2 < 0 → ((7 < v2 → A 0) ∧ (¬ 7 < v2 → ((v2 < nI g → (vp_in (((100 * nI s) + 12) + (((nI g - 1) - v2) &&& 7)) 600 ∧ A (aQ (((100 * nI s) + 12) + (((nI g - 1) - v2) &&& 7)).toNatClampNeg))) ∧ (¬ v2 < nI g → A 0)))))) → wpY_output A (fT, fL, fK, fW, fB, fH, fO, aT, aL, aQ, aE, aG, aKQ, aKE, aKG, aW, aS, aM, aV, aZ, aB) (nI s) v2 := by
    intro A H
    unfold wpY_output
    dsimp only
    refine yb_isSlot hs (br_f (by decide) ⟨cy.1, ?_⟩)
    rw [cy.2, d11, m14]
    exact br_f zy ⟨H.1, fun a => ⟨(H.2 a).1, fun b => ⟨(ed_y s 11 hs (by omega)).1, fun c => ⟨(ed_y s 11 hs (by omega)).1, ((H.2 a).2 b).1 c⟩, ((H.2 a).2 b).2⟩⟩⟩
  by_cases z0 : v2 < 0
  · exact br_t z0 (Y _ (br_t z0 ⟨rfl, I'⟩))
  by_cases z1 : v2 < 8
  · obtain ⟨j, hj, rfl⟩ := nI_of z0
    have hj8 : j < 8 := (nI_ltI (b := 8) hj (by omega)).mp z1
    have z7 : ¬ (7 : Int32) < nI j := nI_nlt (a := 7) (by omega) (by omega)
    have n14' : xQ (99 * s + 14) = nI g := n14
    refine br_f z0 (br_t z1 (nm_e ?_))
    rw [c14, n14']
    refine ⟨(ed_x s 14 hs (by omega)).1, ?_⟩
    by_cases z2 : j < g
    · have z2' : nI j < nI g := nI_lt z2 (by omega)
      have e1 : nI g - 1 - nI j = nI (g - 1 - j) := by
        rw [show (1 : Int32) = nI 1 from rfl, pk_sub (by omega), pk_sub (by omega)]
      have e2 : nI (g - 1 - j) - nI (g - 1 - j) / 8 * 8 = nI ((g - 1 - j) % 8) := pk_rem (d := 8) (by omega) (by omega) (by omega)
      have e3 : nI (g - 1 - j) &&& 7 = nI ((g - 1 - j) % 8) := pk_andN (by omega) 3 (by decide)
      have e4 : nI s * 99 + 15 = nI (99 * s + 15) := ed_xi s 15
      have e5 : 100 * nI s + 12 = nI (100 * s + 12) := ed_yi s 12
      have hm : (g - 1 - j) % 8 < 8 := Nat.mod_lt _ (by omega)
      have hm2 : (g - 1 - j) % 8 < g := Nat.lt_of_le_of_lt (Nat.mod_le _ _) (by omega)
      refine br_t z2' ⟨(ed_x s 14 hs (by omega)).1, by decide, ?_⟩
      rw [e1, e2, e4, nI_add, nI_clamp (by omega)]
      refine ⟨vp_in_nI (by omega) (by omega), Y _ (br_f z0 (br_f z7 (br_t z2' ?_)))⟩
      rw [e1, e3, e5, nI_add, nI_clamp (by omega)]
      refine ⟨vp_in_nI (by omega) (by omega), ?_, I'⟩
      have := ho _ hm hm2
      dsimp only at this
      rw [Nat.add_assoc, Nat.add_assoc]
      exact this.symm
    · have z2' : ¬ nI j < nI g := nI_nlt (by omega) (by omega)
      exact br_f z2' (Y _ (br_f z0 (br_f z7 (br_f z2' ⟨rfl, I'⟩))))
  · have z7 : (7 : Int32) < v2 := Int32.lt_of_lt_of_le (by decide) (Int32.not_lt.mp z1)
    exact br_f z0 (br_f z1 (Y _ (br_f z0 (br_t z7 ⟨rfl, I'⟩))))
end
section
/-! copying -/
section
variable {xl xw xk : Int32} {xP xL xF xQ xT xA xB xC xM xG kF kQ kT kA kB kC kM kG xS xZ : Nat → Int32}
theorem xc_program_list {post : SX → Prop} {p q c : Nat} (hp : p + c ≤ 25) (hq : q + c ≤ 75) (h : ∀ d : Nat → Int32, (∀ j, j < c → d (q + j) = xP (p + j)) → (∀ j, j < q ∨ q + c ≤ j → d j = xL j) → post (xl, xw, xk, xP, d, xF, xQ, xT, xA, xB, xC, xM, xG, kF, kQ, kT, kA, kB, kC, kM, kG, xS, xZ)) : wpX_copy__program_list post (xl, xw, xk, xP, xL, xF, xQ, xT, xA, xB, xC, xM, xG, kF, kQ, kT, kA, kB, kC, kM, kG, xS, xZ) (nI p) (nI q) (nI c) := by
  have key : ∀ (m i : Nat) (d : Nat → Int32), i + m = c → (∀ j, j < i → d (q + j) = xP (p + j)) → (∀ j, j < q ∨ q + i ≤ j → d j = xL j) → wX_copy__program_list_3 post (nI p) (nI q) (nI c) xl xw xk (m + 1) (nI i) xP d xF xQ xT xA xB xC xM xG kF kQ kT kA kB kC kM kG xS xZ := by
    intro m
    induction m with
    | zero =>
      intro i d hi h1 h2
      have e : i = c := by omega
      subst e
      exact br_t (nI_le (Nat.le_refl _) (by omega)) (h d h1 h2)
    | succ m ih =>
      intro i d hi h1 h2
      have ep : (nI p + nI i).toNatClampNeg = p + i := by rw [nI_add, nI_clamp (by omega)]
      have eq : (nI q + nI i).toNatClampNeg = q + i := by rw [nI_add, nI_clamp (by omega)]
      refine br_f (nI_ge (by omega) (by omega)) ⟨by rw [nI_add]; exact vp_in_nI (by omega) (by omega), by rw [nI_add]; exact vp_in_nI (by omega) (by omega), nm_r (e' := upd d (q + i) (xP (p + i))) (by rw [ep, eq]) (nm_r (nI_1 i) (ih (i + 1) _ (by omega) ?_ ?_))⟩
      · intro j hj
        by_cases e : j = i
        · subst e; rw [pk_us]
        · rw [pk_un (by omega)]; exact h1 j (by omega)
      · intro j hj
        rw [pk_un (by omega)]; exact h2 j (by omega)
  exact ⟨c + 1, key c 0 xL (by omega) (fun j hj => absurd hj (Nat.not_lt_zero _)) (fun _ _ => rfl)⟩
theorem xc_list_questions {post : SX → Prop} {p q c : Nat} (hp : p + c ≤ 75) (hq : q + c ≤ 594) (h : ∀ d : Nat → Int32, (∀ j, j < c → d (q + j) = xL (p + j)) → (∀ j, j < q ∨ q + c ≤ j → d j = xQ j) → post (xl, xw, xk, xP, xL, xF, d, xT, xA, xB, xC, xM, xG, kF, kQ, kT, kA, kB, kC, kM, kG, xS, xZ)) : wpX_copy__list_questions post (xl, xw, xk, xP, xL, xF, xQ, xT, xA, xB, xC, xM, xG, kF, kQ, kT, kA, kB, kC, kM, kG, xS, xZ) (nI p) (nI q) (nI c) := by
  have key : ∀ (m i : Nat) (d : Nat → Int32), i + m = c → (∀ j, j < i → d (q + j) = xL (p + j)) → (∀ j, j < q ∨ q + i ≤ j → d j = xQ j) → wX_copy__list_questions_3 post (nI p) (nI q) (nI c) xl xw xk (m + 1) (nI i) xP xL xF d xT xA xB xC xM xG kF kQ kT kA kB kC kM kG xS xZ := by
    intro m
    induction m with
    | zero =>
      intro i d hi h1 h2
      have e : i = c := by omega
      subst e
      exact br_t (nI_le (Nat.le_refl _) (by omega)) (h d h1 h2)
    | succ m ih =>
      intro i d hi h1 h2
      have ep : (nI p + nI i).toNatClampNeg = p + i := by rw [nI_add, nI_clamp (by omega)]
      have eq : (nI q + nI i).toNatClampNeg = q + i := by rw [nI_add, nI_clamp (by omega)]
      refine br_f (nI_ge (by omega) (by omega)) ⟨by rw [nI_add]; exact vp_in_nI (by omega) (by omega), by rw [nI_add]; exact vp_in_nI (by omega) (by omega), nm_r (e' := upd d (q + i) (xL (p + i))) (by rw [ep, eq]) (nm_r (nI_1 i) (ih (i + 1) _ (by omega) ?_ ?_))⟩
      · intro j hj
        by_cases e : j = i
        · subst e; rw [pk_us]
        · rw [pk_un (by omega)]; exact h1 j (by omega)
      · intro j hj
        rw [pk_un (by omega)]; exact h2 j (by omega)
  exact ⟨c + 1, key c 0 xQ (by omega) (fun j hj => absurd hj (Nat.not_lt_zero _)) (fun _ _ => rfl)⟩
theorem xc_figures_keptFigures {post : SX → Prop} {p q c : Nat} (hp : p + c ≤ 4) (hq : q + c ≤ 4) (h : ∀ d : Nat → Int32, (∀ j, j < c → d (q + j) = xF (p + j)) → (∀ j, j < q ∨ q + c ≤ j → d j = kF j) → post (xl, xw, xk, xP, xL, xF, xQ, xT, xA, xB, xC, xM, xG, d, kQ, kT, kA, kB, kC, kM, kG, xS, xZ)) : wpX_copy__figures_keptFigures post (xl, xw, xk, xP, xL, xF, xQ, xT, xA, xB, xC, xM, xG, kF, kQ, kT, kA, kB, kC, kM, kG, xS, xZ) (nI p) (nI q) (nI c) := by
  have key : ∀ (m i : Nat) (d : Nat → Int32), i + m = c → (∀ j, j < i → d (q + j) = xF (p + j)) → (∀ j, j < q ∨ q + i ≤ j → d j = kF j) → wX_copy__figures_keptFigures_3 post (nI p) (nI q) (nI c) xl xw xk (m + 1) (nI i) xP xL xF xQ xT xA xB xC xM xG d kQ kT kA kB kC kM kG xS xZ := by
    intro m
    induction m with
    | zero =>
      intro i d hi h1 h2
      have e : i = c := by omega
      subst e
      exact br_t (nI_le (Nat.le_refl _) (by omega)) (h d h1 h2)
    | succ m ih =>
      intro i d hi h1 h2
      have ep : (nI p + nI i).toNatClampNeg = p + i := by rw [nI_add, nI_clamp (by omega)]
      have eq : (nI q + nI i).toNatClampNeg = q + i := by rw [nI_add, nI_clamp (by omega)]
      refine br_f (nI_ge (by omega) (by omega)) ⟨by rw [nI_add]; exact vp_in_nI (by omega) (by omega), by rw [nI_add]; exact vp_in_nI (by omega) (by omega), nm_r (e' := upd d (q + i) (xF (p + i))) (by rw [ep, eq]) (nm_r (nI_1 i) (ih (i + 1) _ (by omega) ?_ ?_))⟩
      · intro j hj
        by_cases e : j = i
        · subst e; rw [pk_us]
        · rw [pk_un (by omega)]; exact h1 j (by omega)
      · intro j hj
        rw [pk_un (by omega)]; exact h2 j (by omega)
  exact ⟨c + 1, key c 0 kF (by omega) (fun j hj => absurd hj (Nat.not_lt_zero _)) (fun _ _ => rfl)⟩
theorem xc_questions_keptQuestions {post : SX → Prop} {p q c : Nat} (hp : p + c ≤ 594) (hq : q + c ≤ 594) (h : ∀ d : Nat → Int32, (∀ j, j < c → d (q + j) = xQ (p + j)) → (∀ j, j < q ∨ q + c ≤ j → d j = kQ j) → post (xl, xw, xk, xP, xL, xF, xQ, xT, xA, xB, xC, xM, xG, kF, d, kT, kA, kB, kC, kM, kG, xS, xZ)) : wpX_copy__questions_keptQuestions post (xl, xw, xk, xP, xL, xF, xQ, xT, xA, xB, xC, xM, xG, kF, kQ, kT, kA, kB, kC, kM, kG, xS, xZ) (nI p) (nI q) (nI c) := by
  have key : ∀ (m i : Nat) (d : Nat → Int32), i + m = c → (∀ j, j < i → d (q + j) = xQ (p + j)) → (∀ j, j < q ∨ q + i ≤ j → d j = kQ j) → wX_copy__questions_keptQuestions_3 post (nI p) (nI q) (nI c) xl xw xk (m + 1) (nI i) xP xL xF xQ xT xA xB xC xM xG kF d kT kA kB kC kM kG xS xZ := by
    intro m
    induction m with
    | zero =>
      intro i d hi h1 h2
      have e : i = c := by omega
      subst e
      exact br_t (nI_le (Nat.le_refl _) (by omega)) (h d h1 h2)
    | succ m ih =>
      intro i d hi h1 h2
      have ep : (nI p + nI i).toNatClampNeg = p + i := by rw [nI_add, nI_clamp (by omega)]
      have eq : (nI q + nI i).toNatClampNeg = q + i := by rw [nI_add, nI_clamp (by omega)]
      refine br_f (nI_ge (by omega) (by omega)) ⟨by rw [nI_add]; exact vp_in_nI (by omega) (by omega), by rw [nI_add]; exact vp_in_nI (by omega) (by omega), nm_r (e' := upd d (q + i) (xQ (p + i))) (by rw [ep, eq]) (nm_r (nI_1 i) (ih (i + 1) _ (by omega) ?_ ?_))⟩
      · intro j hj
        by_cases e : j = i
        · subst e; rw [pk_us]
        · rw [pk_un (by omega)]; exact h1 j (by omega)
      · intro j hj
        rw [pk_un (by omega)]; exact h2 j (by omega)
  exact ⟨c + 1, key c 0 kQ (by omega) (fun j hj => absurd hj (Nat.not_lt_zero _)) (fun _ _ => rfl)⟩
theorem xc_eventType_keptType {post : SX → Prop} {p q c : Nat} (hp : p + c ≤ 64) (hq : q + c ≤ 64) (h : ∀ d : Nat → Int32, (∀ j, j < c → d (q + j) = xT (p + j)) → (∀ j, j < q ∨ q + c ≤ j → d j = kT j) → post (xl, xw, xk, xP, xL, xF, xQ, xT, xA, xB, xC, xM, xG, kF, kQ, d, kA, kB, kC, kM, kG, xS, xZ)) : wpX_copy__eventType_keptType post (xl, xw, xk, xP, xL, xF, xQ, xT, xA, xB, xC, xM, xG, kF, kQ, kT, kA, kB, kC, kM, kG, xS, xZ) (nI p) (nI q) (nI c) := by
  have key : ∀ (m i : Nat) (d : Nat → Int32), i + m = c → (∀ j, j < i → d (q + j) = xT (p + j)) → (∀ j, j < q ∨ q + i ≤ j → d j = kT j) → wX_copy__eventType_keptType_3 post (nI p) (nI q) (nI c) xl xw xk (m + 1) (nI i) xP xL xF xQ xT xA xB xC xM xG kF kQ d kA kB kC kM kG xS xZ := by
    intro m
    induction m with
    | zero =>
      intro i d hi h1 h2
      have e : i = c := by omega
      subst e
      exact br_t (nI_le (Nat.le_refl _) (by omega)) (h d h1 h2)
    | succ m ih =>
      intro i d hi h1 h2
      have ep : (nI p + nI i).toNatClampNeg = p + i := by rw [nI_add, nI_clamp (by omega)]
      have eq : (nI q + nI i).toNatClampNeg = q + i := by rw [nI_add, nI_clamp (by omega)]
      refine br_f (nI_ge (by omega) (by omega)) ⟨by rw [nI_add]; exact vp_in_nI (by omega) (by omega), by rw [nI_add]; exact vp_in_nI (by omega) (by omega), nm_r (e' := upd d (q + i) (xT (p + i))) (by rw [ep, eq]) (nm_r (nI_1 i) (ih (i + 1) _ (by omega) ?_ ?_))⟩
      · intro j hj
        by_cases e : j = i
        · subst e; rw [pk_us]
        · rw [pk_un (by omega)]; exact h1 j (by omega)
      · intro j hj
        rw [pk_un (by omega)]; exact h2 j (by omega)
  exact ⟨c + 1, key c 0 kT (by omega) (fun j hj => absurd hj (Nat.not_lt_zero _)) (fun _ _ => rfl)⟩
theorem xc_eventA_keptA {post : SX → Prop} {p q c : Nat} (hp : p + c ≤ 64) (hq : q + c ≤ 64) (h : ∀ d : Nat → Int32, (∀ j, j < c → d (q + j) = xA (p + j)) → (∀ j, j < q ∨ q + c ≤ j → d j = kA j) → post (xl, xw, xk, xP, xL, xF, xQ, xT, xA, xB, xC, xM, xG, kF, kQ, kT, d, kB, kC, kM, kG, xS, xZ)) : wpX_copy__eventA_keptA post (xl, xw, xk, xP, xL, xF, xQ, xT, xA, xB, xC, xM, xG, kF, kQ, kT, kA, kB, kC, kM, kG, xS, xZ) (nI p) (nI q) (nI c) := by
  have key : ∀ (m i : Nat) (d : Nat → Int32), i + m = c → (∀ j, j < i → d (q + j) = xA (p + j)) → (∀ j, j < q ∨ q + i ≤ j → d j = kA j) → wX_copy__eventA_keptA_3 post (nI p) (nI q) (nI c) xl xw xk (m + 1) (nI i) xP xL xF xQ xT xA xB xC xM xG kF kQ kT d kB kC kM kG xS xZ := by
    intro m
    induction m with
    | zero =>
      intro i d hi h1 h2
      have e : i = c := by omega
      subst e
      exact br_t (nI_le (Nat.le_refl _) (by omega)) (h d h1 h2)
    | succ m ih =>
      intro i d hi h1 h2
      have ep : (nI p + nI i).toNatClampNeg = p + i := by rw [nI_add, nI_clamp (by omega)]
      have eq : (nI q + nI i).toNatClampNeg = q + i := by rw [nI_add, nI_clamp (by omega)]
      refine br_f (nI_ge (by omega) (by omega)) ⟨by rw [nI_add]; exact vp_in_nI (by omega) (by omega), by rw [nI_add]; exact vp_in_nI (by omega) (by omega), nm_r (e' := upd d (q + i) (xA (p + i))) (by rw [ep, eq]) (nm_r (nI_1 i) (ih (i + 1) _ (by omega) ?_ ?_))⟩
      · intro j hj
        by_cases e : j = i
        · subst e; rw [pk_us]
        · rw [pk_un (by omega)]; exact h1 j (by omega)
      · intro j hj
        rw [pk_un (by omega)]; exact h2 j (by omega)
  exact ⟨c + 1, key c 0 kA (by omega) (fun j hj => absurd hj (Nat.not_lt_zero _)) (fun _ _ => rfl)⟩
theorem xc_eventB_keptB {post : SX → Prop} {p q c : Nat} (hp : p + c ≤ 64) (hq : q + c ≤ 64) (h : ∀ d : Nat → Int32, (∀ j, j < c → d (q + j) = xB (p + j)) → (∀ j, j < q ∨ q + c ≤ j → d j = kB j) → post (xl, xw, xk, xP, xL, xF, xQ, xT, xA, xB, xC, xM, xG, kF, kQ, kT, kA, d, kC, kM, kG, xS, xZ)) : wpX_copy__eventB_keptB post (xl, xw, xk, xP, xL, xF, xQ, xT, xA, xB, xC, xM, xG, kF, kQ, kT, kA, kB, kC, kM, kG, xS, xZ) (nI p) (nI q) (nI c) := by
  have key : ∀ (m i : Nat) (d : Nat → Int32), i + m = c → (∀ j, j < i → d (q + j) = xB (p + j)) → (∀ j, j < q ∨ q + i ≤ j → d j = kB j) → wX_copy__eventB_keptB_3 post (nI p) (nI q) (nI c) xl xw xk (m + 1) (nI i) xP xL xF xQ xT xA xB xC xM xG kF kQ kT kA d kC kM kG xS xZ := by
    intro m
    induction m with
    | zero =>
      intro i d hi h1 h2
      have e : i = c := by omega
      subst e
      exact br_t (nI_le (Nat.le_refl _) (by omega)) (h d h1 h2)
    | succ m ih =>
      intro i d hi h1 h2
      have ep : (nI p + nI i).toNatClampNeg = p + i := by rw [nI_add, nI_clamp (by omega)]
      have eq : (nI q + nI i).toNatClampNeg = q + i := by rw [nI_add, nI_clamp (by omega)]
      refine br_f (nI_ge (by omega) (by omega)) ⟨by rw [nI_add]; exact vp_in_nI (by omega) (by omega), by rw [nI_add]; exact vp_in_nI (by omega) (by omega), nm_r (e' := upd d (q + i) (xB (p + i))) (by rw [ep, eq]) (nm_r (nI_1 i) (ih (i + 1) _ (by omega) ?_ ?_))⟩
      · intro j hj
        by_cases e : j = i
        · subst e; rw [pk_us]
        · rw [pk_un (by omega)]; exact h1 j (by omega)
      · intro j hj
        rw [pk_un (by omega)]; exact h2 j (by omega)
  exact ⟨c + 1, key c 0 kB (by omega) (fun j hj => absurd hj (Nat.not_lt_zero _)) (fun _ _ => rfl)⟩
theorem xc_eventTime_keptTime {post : SX → Prop} {p q c : Nat} (hp : p + c ≤ 64) (hq : q + c ≤ 64) (h : ∀ d : Nat → Int32, (∀ j, j < c → d (q + j) = xC (p + j)) → (∀ j, j < q ∨ q + c ≤ j → d j = kC j) → post (xl, xw, xk, xP, xL, xF, xQ, xT, xA, xB, xC, xM, xG, kF, kQ, kT, kA, kB, d, kM, kG, xS, xZ)) : wpX_copy__eventTime_keptTime post (xl, xw, xk, xP, xL, xF, xQ, xT, xA, xB, xC, xM, xG, kF, kQ, kT, kA, kB, kC, kM, kG, xS, xZ) (nI p) (nI q) (nI c) := by
  have key : ∀ (m i : Nat) (d : Nat → Int32), i + m = c → (∀ j, j < i → d (q + j) = xC (p + j)) → (∀ j, j < q ∨ q + i ≤ j → d j = kC j) → wX_copy__eventTime_keptTime_3 post (nI p) (nI q) (nI c) xl xw xk (m + 1) (nI i) xP xL xF xQ xT xA xB xC xM xG kF kQ kT kA kB d kM kG xS xZ := by
    intro m
    induction m with
    | zero =>
      intro i d hi h1 h2
      have e : i = c := by omega
      subst e
      exact br_t (nI_le (Nat.le_refl _) (by omega)) (h d h1 h2)
    | succ m ih =>
      intro i d hi h1 h2
      have ep : (nI p + nI i).toNatClampNeg = p + i := by rw [nI_add, nI_clamp (by omega)]
      have eq : (nI q + nI i).toNatClampNeg = q + i := by rw [nI_add, nI_clamp (by omega)]
      refine br_f (nI_ge (by omega) (by omega)) ⟨by rw [nI_add]; exact vp_in_nI (by omega) (by omega), by rw [nI_add]; exact vp_in_nI (by omega) (by omega), nm_r (e' := upd d (q + i) (xC (p + i))) (by rw [ep, eq]) (nm_r (nI_1 i) (ih (i + 1) _ (by omega) ?_ ?_))⟩
      · intro j hj
        by_cases e : j = i
        · subst e; rw [pk_us]
        · rw [pk_un (by omega)]; exact h1 j (by omega)
      · intro j hj
        rw [pk_un (by omega)]; exact h2 j (by omega)
  exact ⟨c + 1, key c 0 kC (by omega) (fun j hj => absurd hj (Nat.not_lt_zero _)) (fun _ _ => rfl)⟩
theorem xc_eventMet_keptMet {post : SX → Prop} {p q c : Nat} (hp : p + c ≤ 64) (hq : q + c ≤ 64) (h : ∀ d : Nat → Int32, (∀ j, j < c → d (q + j) = xM (p + j)) → (∀ j, j < q ∨ q + c ≤ j → d j = kM j) → post (xl, xw, xk, xP, xL, xF, xQ, xT, xA, xB, xC, xM, xG, kF, kQ, kT, kA, kB, kC, d, kG, xS, xZ)) : wpX_copy__eventMet_keptMet post (xl, xw, xk, xP, xL, xF, xQ, xT, xA, xB, xC, xM, xG, kF, kQ, kT, kA, kB, kC, kM, kG, xS, xZ) (nI p) (nI q) (nI c) := by
  have key : ∀ (m i : Nat) (d : Nat → Int32), i + m = c → (∀ j, j < i → d (q + j) = xM (p + j)) → (∀ j, j < q ∨ q + i ≤ j → d j = kM j) → wX_copy__eventMet_keptMet_3 post (nI p) (nI q) (nI c) xl xw xk (m + 1) (nI i) xP xL xF xQ xT xA xB xC xM xG kF kQ kT kA kB kC d kG xS xZ := by
    intro m
    induction m with
    | zero =>
      intro i d hi h1 h2
      have e : i = c := by omega
      subst e
      exact br_t (nI_le (Nat.le_refl _) (by omega)) (h d h1 h2)
    | succ m ih =>
      intro i d hi h1 h2
      have ep : (nI p + nI i).toNatClampNeg = p + i := by rw [nI_add, nI_clamp (by omega)]
      have eq : (nI q + nI i).toNatClampNeg = q + i := by rw [nI_add, nI_clamp (by omega)]
      refine br_f (nI_ge (by omega) (by omega)) ⟨by rw [nI_add]; exact vp_in_nI (by omega) (by omega), by rw [nI_add]; exact vp_in_nI (by omega) (by omega), nm_r (e' := upd d (q + i) (xM (p + i))) (by rw [ep, eq]) (nm_r (nI_1 i) (ih (i + 1) _ (by omega) ?_ ?_))⟩
      · intro j hj
        by_cases e : j = i
        · subst e; rw [pk_us]
        · rw [pk_un (by omega)]; exact h1 j (by omega)
      · intro j hj
        rw [pk_un (by omega)]; exact h2 j (by omega)
  exact ⟨c + 1, key c 0 kM (by omega) (fun j hj => absurd hj (Nat.not_lt_zero _)) (fun _ _ => rfl)⟩
theorem xc_eventBegan_keptBegan {post : SX → Prop} {p q c : Nat} (hp : p + c ≤ 64) (hq : q + c ≤ 64) (h : ∀ d : Nat → Int32, (∀ j, j < c → d (q + j) = xG (p + j)) → (∀ j, j < q ∨ q + c ≤ j → d j = kG j) → post (xl, xw, xk, xP, xL, xF, xQ, xT, xA, xB, xC, xM, xG, kF, kQ, kT, kA, kB, kC, kM, d, xS, xZ)) : wpX_copy__eventBegan_keptBegan post (xl, xw, xk, xP, xL, xF, xQ, xT, xA, xB, xC, xM, xG, kF, kQ, kT, kA, kB, kC, kM, kG, xS, xZ) (nI p) (nI q) (nI c) := by
  have key : ∀ (m i : Nat) (d : Nat → Int32), i + m = c → (∀ j, j < i → d (q + j) = xG (p + j)) → (∀ j, j < q ∨ q + i ≤ j → d j = kG j) → wX_copy__eventBegan_keptBegan_3 post (nI p) (nI q) (nI c) xl xw xk (m + 1) (nI i) xP xL xF xQ xT xA xB xC xM xG kF kQ kT kA kB kC kM d xS xZ := by
    intro m
    induction m with
    | zero =>
      intro i d hi h1 h2
      have e : i = c := by omega
      subst e
      exact br_t (nI_le (Nat.le_refl _) (by omega)) (h d h1 h2)
    | succ m ih =>
      intro i d hi h1 h2
      have ep : (nI p + nI i).toNatClampNeg = p + i := by rw [nI_add, nI_clamp (by omega)]
      have eq : (nI q + nI i).toNatClampNeg = q + i := by rw [nI_add, nI_clamp (by omega)]
      refine br_f (nI_ge (by omega) (by omega)) ⟨by rw [nI_add]; exact vp_in_nI (by omega) (by omega), by rw [nI_add]; exact vp_in_nI (by omega) (by omega), nm_r (e' := upd d (q + i) (xG (p + i))) (by rw [ep, eq]) (nm_r (nI_1 i) (ih (i + 1) _ (by omega) ?_ ?_))⟩
      · intro j hj
        by_cases e : j = i
        · subst e; rw [pk_us]
        · rw [pk_un (by omega)]; exact h1 j (by omega)
      · intro j hj
        rw [pk_un (by omega)]; exact h2 j (by omega)
  exact ⟨c + 1, key c 0 kG (by omega) (fun j hj => absurd hj (Nat.not_lt_zero _)) (fun _ _ => rfl)⟩
theorem xc_keptFigures_figures {post : SX → Prop} {p q c : Nat} (hp : p + c ≤ 4) (hq : q + c ≤ 4) (h : ∀ d : Nat → Int32, (∀ j, j < c → d (q + j) = kF (p + j)) → (∀ j, j < q ∨ q + c ≤ j → d j = xF j) → post (xl, xw, xk, xP, xL, d, xQ, xT, xA, xB, xC, xM, xG, kF, kQ, kT, kA, kB, kC, kM, kG, xS, xZ)) : wpX_copy__keptFigures_figures post (xl, xw, xk, xP, xL, xF, xQ, xT, xA, xB, xC, xM, xG, kF, kQ, kT, kA, kB, kC, kM, kG, xS, xZ) (nI p) (nI q) (nI c) := by
  have key : ∀ (m i : Nat) (d : Nat → Int32), i + m = c → (∀ j, j < i → d (q + j) = kF (p + j)) → (∀ j, j < q ∨ q + i ≤ j → d j = xF j) → wX_copy__keptFigures_figures_3 post (nI p) (nI q) (nI c) xl xw xk (m + 1) (nI i) xP xL d xQ xT xA xB xC xM xG kF kQ kT kA kB kC kM kG xS xZ := by
    intro m
    induction m with
    | zero =>
      intro i d hi h1 h2
      have e : i = c := by omega
      subst e
      exact br_t (nI_le (Nat.le_refl _) (by omega)) (h d h1 h2)
    | succ m ih =>
      intro i d hi h1 h2
      have ep : (nI p + nI i).toNatClampNeg = p + i := by rw [nI_add, nI_clamp (by omega)]
      have eq : (nI q + nI i).toNatClampNeg = q + i := by rw [nI_add, nI_clamp (by omega)]
      refine br_f (nI_ge (by omega) (by omega)) ⟨by rw [nI_add]; exact vp_in_nI (by omega) (by omega), by rw [nI_add]; exact vp_in_nI (by omega) (by omega), nm_r (e' := upd d (q + i) (kF (p + i))) (by rw [ep, eq]) (nm_r (nI_1 i) (ih (i + 1) _ (by omega) ?_ ?_))⟩
      · intro j hj
        by_cases e : j = i
        · subst e; rw [pk_us]
        · rw [pk_un (by omega)]; exact h1 j (by omega)
      · intro j hj
        rw [pk_un (by omega)]; exact h2 j (by omega)
  exact ⟨c + 1, key c 0 xF (by omega) (fun j hj => absurd hj (Nat.not_lt_zero _)) (fun _ _ => rfl)⟩
theorem xc_keptQuestions_questions {post : SX → Prop} {p q c : Nat} (hp : p + c ≤ 594) (hq : q + c ≤ 594) (h : ∀ d : Nat → Int32, (∀ j, j < c → d (q + j) = kQ (p + j)) → (∀ j, j < q ∨ q + c ≤ j → d j = xQ j) → post (xl, xw, xk, xP, xL, xF, d, xT, xA, xB, xC, xM, xG, kF, kQ, kT, kA, kB, kC, kM, kG, xS, xZ)) : wpX_copy__keptQuestions_questions post (xl, xw, xk, xP, xL, xF, xQ, xT, xA, xB, xC, xM, xG, kF, kQ, kT, kA, kB, kC, kM, kG, xS, xZ) (nI p) (nI q) (nI c) := by
  have key : ∀ (m i : Nat) (d : Nat → Int32), i + m = c → (∀ j, j < i → d (q + j) = kQ (p + j)) → (∀ j, j < q ∨ q + i ≤ j → d j = xQ j) → wX_copy__keptQuestions_questions_3 post (nI p) (nI q) (nI c) xl xw xk (m + 1) (nI i) xP xL xF d xT xA xB xC xM xG kF kQ kT kA kB kC kM kG xS xZ := by
    intro m
    induction m with
    | zero =>
      intro i d hi h1 h2
      have e : i = c := by omega
      subst e
      exact br_t (nI_le (Nat.le_refl _) (by omega)) (h d h1 h2)
    | succ m ih =>
      intro i d hi h1 h2
      have ep : (nI p + nI i).toNatClampNeg = p + i := by rw [nI_add, nI_clamp (by omega)]
      have eq : (nI q + nI i).toNatClampNeg = q + i := by rw [nI_add, nI_clamp (by omega)]
      refine br_f (nI_ge (by omega) (by omega)) ⟨by rw [nI_add]; exact vp_in_nI (by omega) (by omega), by rw [nI_add]; exact vp_in_nI (by omega) (by omega), nm_r (e' := upd d (q + i) (kQ (p + i))) (by rw [ep, eq]) (nm_r (nI_1 i) (ih (i + 1) _ (by omega) ?_ ?_))⟩
      · intro j hj
        by_cases e : j = i
        · subst e; rw [pk_us]
        · rw [pk_un (by omega)]; exact h1 j (by omega)
      · intro j hj
        rw [pk_un (by omega)]; exact h2 j (by omega)
  exact ⟨c + 1, key c 0 xQ (by omega) (fun j hj => absurd hj (Nat.not_lt_zero _)) (fun _ _ => rfl)⟩
theorem xc_keptType_eventType {post : SX → Prop} {p q c : Nat} (hp : p + c ≤ 64) (hq : q + c ≤ 64) (h : ∀ d : Nat → Int32, (∀ j, j < c → d (q + j) = kT (p + j)) → (∀ j, j < q ∨ q + c ≤ j → d j = xT j) → post (xl, xw, xk, xP, xL, xF, xQ, d, xA, xB, xC, xM, xG, kF, kQ, kT, kA, kB, kC, kM, kG, xS, xZ)) : wpX_copy__keptType_eventType post (xl, xw, xk, xP, xL, xF, xQ, xT, xA, xB, xC, xM, xG, kF, kQ, kT, kA, kB, kC, kM, kG, xS, xZ) (nI p) (nI q) (nI c) := by
  have key : ∀ (m i : Nat) (d : Nat → Int32), i + m = c → (∀ j, j < i → d (q + j) = kT (p + j)) → (∀ j, j < q ∨ q + i ≤ j → d j = xT j) → wX_copy__keptType_eventType_3 post (nI p) (nI q) (nI c) xl xw xk (m + 1) (nI i) xP xL xF xQ d xA xB xC xM xG kF kQ kT kA kB kC kM kG xS xZ := by
    intro m
    induction m with
    | zero =>
      intro i d hi h1 h2
      have e : i = c := by omega
      subst e
      exact br_t (nI_le (Nat.le_refl _) (by omega)) (h d h1 h2)
    | succ m ih =>
      intro i d hi h1 h2
      have ep : (nI p + nI i).toNatClampNeg = p + i := by rw [nI_add, nI_clamp (by omega)]
      have eq : (nI q + nI i).toNatClampNeg = q + i := by rw [nI_add, nI_clamp (by omega)]
      refine br_f (nI_ge (by omega) (by omega)) ⟨by rw [nI_add]; exact vp_in_nI (by omega) (by omega), by rw [nI_add]; exact vp_in_nI (by omega) (by omega), nm_r (e' := upd d (q + i) (kT (p + i))) (by rw [ep, eq]) (nm_r (nI_1 i) (ih (i + 1) _ (by omega) ?_ ?_))⟩
      · intro j hj
        by_cases e : j = i
        · subst e; rw [pk_us]
        · rw [pk_un (by omega)]; exact h1 j (by omega)
      · intro j hj
        rw [pk_un (by omega)]; exact h2 j (by omega)
  exact ⟨c + 1, key c 0 xT (by omega) (fun j hj => absurd hj (Nat.not_lt_zero _)) (fun _ _ => rfl)⟩
theorem xc_keptA_eventA {post : SX → Prop} {p q c : Nat} (hp : p + c ≤ 64) (hq : q + c ≤ 64) (h : ∀ d : Nat → Int32, (∀ j, j < c → d (q + j) = kA (p + j)) → (∀ j, j < q ∨ q + c ≤ j → d j = xA j) → post (xl, xw, xk, xP, xL, xF, xQ, xT, d, xB, xC, xM, xG, kF, kQ, kT, kA, kB, kC, kM, kG, xS, xZ)) : wpX_copy__keptA_eventA post (xl, xw, xk, xP, xL, xF, xQ, xT, xA, xB, xC, xM, xG, kF, kQ, kT, kA, kB, kC, kM, kG, xS, xZ) (nI p) (nI q) (nI c) := by
  have key : ∀ (m i : Nat) (d : Nat → Int32), i + m = c → (∀ j, j < i → d (q + j) = kA (p + j)) → (∀ j, j < q ∨ q + i ≤ j → d j = xA j) → wX_copy__keptA_eventA_3 post (nI p) (nI q) (nI c) xl xw xk (m + 1) (nI i) xP xL xF xQ xT d xB xC xM xG kF kQ kT kA kB kC kM kG xS xZ := by
    intro m
    induction m with
    | zero =>
      intro i d hi h1 h2
      have e : i = c := by omega
      subst e
      exact br_t (nI_le (Nat.le_refl _) (by omega)) (h d h1 h2)
    | succ m ih =>
      intro i d hi h1 h2
      have ep : (nI p + nI i).toNatClampNeg = p + i := by rw [nI_add, nI_clamp (by omega)]
      have eq : (nI q + nI i).toNatClampNeg = q + i := by rw [nI_add, nI_clamp (by omega)]
      refine br_f (nI_ge (by omega) (by omega)) ⟨by rw [nI_add]; exact vp_in_nI (by omega) (by omega), by rw [nI_add]; exact vp_in_nI (by omega) (by omega), nm_r (e' := upd d (q + i) (kA (p + i))) (by rw [ep, eq]) (nm_r (nI_1 i) (ih (i + 1) _ (by omega) ?_ ?_))⟩
      · intro j hj
        by_cases e : j = i
        · subst e; rw [pk_us]
        · rw [pk_un (by omega)]; exact h1 j (by omega)
      · intro j hj
        rw [pk_un (by omega)]; exact h2 j (by omega)
  exact ⟨c + 1, key c 0 xA (by omega) (fun j hj => absurd hj (Nat.not_lt_zero _)) (fun _ _ => rfl)⟩
theorem xc_keptB_eventB {post : SX → Prop} {p q c : Nat} (hp : p + c ≤ 64) (hq : q + c ≤ 64) (h : ∀ d : Nat → Int32, (∀ j, j < c → d (q + j) = kB (p + j)) → (∀ j, j < q ∨ q + c ≤ j → d j = xB j) → post (xl, xw, xk, xP, xL, xF, xQ, xT, xA, d, xC, xM, xG, kF, kQ, kT, kA, kB, kC, kM, kG, xS, xZ)) : wpX_copy__keptB_eventB post (xl, xw, xk, xP, xL, xF, xQ, xT, xA, xB, xC, xM, xG, kF, kQ, kT, kA, kB, kC, kM, kG, xS, xZ) (nI p) (nI q) (nI c) := by
  have key : ∀ (m i : Nat) (d : Nat → Int32), i + m = c → (∀ j, j < i → d (q + j) = kB (p + j)) → (∀ j, j < q ∨ q + i ≤ j → d j = xB j) → wX_copy__keptB_eventB_3 post (nI p) (nI q) (nI c) xl xw xk (m + 1) (nI i) xP xL xF xQ xT xA d xC xM xG kF kQ kT kA kB kC kM kG xS xZ := by
    intro m
    induction m with
    | zero =>
      intro i d hi h1 h2
      have e : i = c := by omega
      subst e
      exact br_t (nI_le (Nat.le_refl _) (by omega)) (h d h1 h2)
    | succ m ih =>
      intro i d hi h1 h2
      have ep : (nI p + nI i).toNatClampNeg = p + i := by rw [nI_add, nI_clamp (by omega)]
      have eq : (nI q + nI i).toNatClampNeg = q + i := by rw [nI_add, nI_clamp (by omega)]
      refine br_f (nI_ge (by omega) (by omega)) ⟨by rw [nI_add]; exact vp_in_nI (by omega) (by omega), by rw [nI_add]; exact vp_in_nI (by omega) (by omega), nm_r (e' := upd d (q + i) (kB (p + i))) (by rw [ep, eq]) (nm_r (nI_1 i) (ih (i + 1) _ (by omega) ?_ ?_))⟩
      · intro j hj
        by_cases e : j = i
        · subst e; rw [pk_us]
        · rw [pk_un (by omega)]; exact h1 j (by omega)
      · intro j hj
        rw [pk_un (by omega)]; exact h2 j (by omega)
  exact ⟨c + 1, key c 0 xB (by omega) (fun j hj => absurd hj (Nat.not_lt_zero _)) (fun _ _ => rfl)⟩
theorem xc_keptTime_eventTime {post : SX → Prop} {p q c : Nat} (hp : p + c ≤ 64) (hq : q + c ≤ 64) (h : ∀ d : Nat → Int32, (∀ j, j < c → d (q + j) = kC (p + j)) → (∀ j, j < q ∨ q + c ≤ j → d j = xC j) → post (xl, xw, xk, xP, xL, xF, xQ, xT, xA, xB, d, xM, xG, kF, kQ, kT, kA, kB, kC, kM, kG, xS, xZ)) : wpX_copy__keptTime_eventTime post (xl, xw, xk, xP, xL, xF, xQ, xT, xA, xB, xC, xM, xG, kF, kQ, kT, kA, kB, kC, kM, kG, xS, xZ) (nI p) (nI q) (nI c) := by
  have key : ∀ (m i : Nat) (d : Nat → Int32), i + m = c → (∀ j, j < i → d (q + j) = kC (p + j)) → (∀ j, j < q ∨ q + i ≤ j → d j = xC j) → wX_copy__keptTime_eventTime_3 post (nI p) (nI q) (nI c) xl xw xk (m + 1) (nI i) xP xL xF xQ xT xA xB d xM xG kF kQ kT kA kB kC kM kG xS xZ := by
    intro m
    induction m with
    | zero =>
      intro i d hi h1 h2
      have e : i = c := by omega
      subst e
      exact br_t (nI_le (Nat.le_refl _) (by omega)) (h d h1 h2)
    | succ m ih =>
      intro i d hi h1 h2
      have ep : (nI p + nI i).toNatClampNeg = p + i := by rw [nI_add, nI_clamp (by omega)]
      have eq : (nI q + nI i).toNatClampNeg = q + i := by rw [nI_add, nI_clamp (by omega)]
      refine br_f (nI_ge (by omega) (by omega)) ⟨by rw [nI_add]; exact vp_in_nI (by omega) (by omega), by rw [nI_add]; exact vp_in_nI (by omega) (by omega), nm_r (e' := upd d (q + i) (kC (p + i))) (by rw [ep, eq]) (nm_r (nI_1 i) (ih (i + 1) _ (by omega) ?_ ?_))⟩
      · intro j hj
        by_cases e : j = i
        · subst e; rw [pk_us]
        · rw [pk_un (by omega)]; exact h1 j (by omega)
      · intro j hj
        rw [pk_un (by omega)]; exact h2 j (by omega)
  exact ⟨c + 1, key c 0 xC (by omega) (fun j hj => absurd hj (Nat.not_lt_zero _)) (fun _ _ => rfl)⟩
theorem xc_keptMet_eventMet {post : SX → Prop} {p q c : Nat} (hp : p + c ≤ 64) (hq : q + c ≤ 64) (h : ∀ d : Nat → Int32, (∀ j, j < c → d (q + j) = kM (p + j)) → (∀ j, j < q ∨ q + c ≤ j → d j = xM j) → post (xl, xw, xk, xP, xL, xF, xQ, xT, xA, xB, xC, d, xG, kF, kQ, kT, kA, kB, kC, kM, kG, xS, xZ)) : wpX_copy__keptMet_eventMet post (xl, xw, xk, xP, xL, xF, xQ, xT, xA, xB, xC, xM, xG, kF, kQ, kT, kA, kB, kC, kM, kG, xS, xZ) (nI p) (nI q) (nI c) := by
  have key : ∀ (m i : Nat) (d : Nat → Int32), i + m = c → (∀ j, j < i → d (q + j) = kM (p + j)) → (∀ j, j < q ∨ q + i ≤ j → d j = xM j) → wX_copy__keptMet_eventMet_3 post (nI p) (nI q) (nI c) xl xw xk (m + 1) (nI i) xP xL xF xQ xT xA xB xC d xG kF kQ kT kA kB kC kM kG xS xZ := by
    intro m
    induction m with
    | zero =>
      intro i d hi h1 h2
      have e : i = c := by omega
      subst e
      exact br_t (nI_le (Nat.le_refl _) (by omega)) (h d h1 h2)
    | succ m ih =>
      intro i d hi h1 h2
      have ep : (nI p + nI i).toNatClampNeg = p + i := by rw [nI_add, nI_clamp (by omega)]
      have eq : (nI q + nI i).toNatClampNeg = q + i := by rw [nI_add, nI_clamp (by omega)]
      refine br_f (nI_ge (by omega) (by omega)) ⟨by rw [nI_add]; exact vp_in_nI (by omega) (by omega), by rw [nI_add]; exact vp_in_nI (by omega) (by omega), nm_r (e' := upd d (q + i) (kM (p + i))) (by rw [ep, eq]) (nm_r (nI_1 i) (ih (i + 1) _ (by omega) ?_ ?_))⟩
      · intro j hj
        by_cases e : j = i
        · subst e; rw [pk_us]
        · rw [pk_un (by omega)]; exact h1 j (by omega)
      · intro j hj
        rw [pk_un (by omega)]; exact h2 j (by omega)
  exact ⟨c + 1, key c 0 xM (by omega) (fun j hj => absurd hj (Nat.not_lt_zero _)) (fun _ _ => rfl)⟩
theorem xc_keptBegan_eventBegan {post : SX → Prop} {p q c : Nat} (hp : p + c ≤ 64) (hq : q + c ≤ 64) (h : ∀ d : Nat → Int32, (∀ j, j < c → d (q + j) = kG (p + j)) → (∀ j, j < q ∨ q + c ≤ j → d j = xG j) → post (xl, xw, xk, xP, xL, xF, xQ, xT, xA, xB, xC, xM, d, kF, kQ, kT, kA, kB, kC, kM, kG, xS, xZ)) : wpX_copy__keptBegan_eventBegan post (xl, xw, xk, xP, xL, xF, xQ, xT, xA, xB, xC, xM, xG, kF, kQ, kT, kA, kB, kC, kM, kG, xS, xZ) (nI p) (nI q) (nI c) := by
  have key : ∀ (m i : Nat) (d : Nat → Int32), i + m = c → (∀ j, j < i → d (q + j) = kG (p + j)) → (∀ j, j < q ∨ q + i ≤ j → d j = xG j) → wX_copy__keptBegan_eventBegan_3 post (nI p) (nI q) (nI c) xl xw xk (m + 1) (nI i) xP xL xF xQ xT xA xB xC xM d kF kQ kT kA kB kC kM kG xS xZ := by
    intro m
    induction m with
    | zero =>
      intro i d hi h1 h2
      have e : i = c := by omega
      subst e
      exact br_t (nI_le (Nat.le_refl _) (by omega)) (h d h1 h2)
    | succ m ih =>
      intro i d hi h1 h2
      have ep : (nI p + nI i).toNatClampNeg = p + i := by rw [nI_add, nI_clamp (by omega)]
      have eq : (nI q + nI i).toNatClampNeg = q + i := by rw [nI_add, nI_clamp (by omega)]
      refine br_f (nI_ge (by omega) (by omega)) ⟨by rw [nI_add]; exact vp_in_nI (by omega) (by omega), by rw [nI_add]; exact vp_in_nI (by omega) (by omega), nm_r (e' := upd d (q + i) (kG (p + i))) (by rw [ep, eq]) (nm_r (nI_1 i) (ih (i + 1) _ (by omega) ?_ ?_))⟩
      · intro j hj
        by_cases e : j = i
        · subst e; rw [pk_us]
        · rw [pk_un (by omega)]; exact h1 j (by omega)
      · intro j hj
        rw [pk_un (by omega)]; exact h2 j (by omega)
  exact ⟨c + 1, key c 0 xG (by omega) (fun j hj => absurd hj (Nat.not_lt_zero _)) (fun _ _ => rfl)⟩
end
section
variable {fT fL fK fW fB fH fO : Int32} {aT aL aQ aE aG aKQ aKE aKG aW aS aM aV aZ aB : Nat → Int32}
theorem yc_keep_56 {post : SY → Prop} (h : ∀ d : Nat → Int32, (∀ j, j < 4 → d j = aG j) → post (fT, fL, 1, fW, fB, fH, fO, aT, aL, aQ, aE, aG, aKQ, aKE, d, aW, aS, aM, aV, aZ, aB)) : ∃ n : Nat, wY_keep_56 post fT fL fK fW fB fH fO n 0 aT aL aQ aE aG aKQ aKE aKG aW aS aM aV aZ aB := by
  have key : ∀ (m i : Nat) (d : Nat → Int32), i + m = 4 → (∀ j, j < i → d j = aG j) → wY_keep_56 post fT fL fK fW fB fH fO (m + 1) (nI i) aT aL aQ aE aG aKQ aKE d aW aS aM aV aZ aB := by
    intro m
    induction m with
    | zero =>
      intro i d hi h1
      have e : i = 4 := by omega
      subst e
      exact br_t (nI_le (a := 4) (b := 4) (Nat.le_refl _) (by omega)) (h d h1)
    | succ m ih =>
      intro i d hi h1
      have ei : (nI i).toNatClampNeg = i := nI_clamp (by omega)
      refine br_f (nI_ge (b := 4) (by omega) (by omega)) ⟨vp_in_nI (by omega) (by omega), vp_in_nI (by omega) (by omega), nm_r (e' := upd d i (aG i)) (by rw [ei]) (nm_r (nI_1 i) (ih (i + 1) _ (by omega) ?_))⟩
      intro j hj
      by_cases e : j = i
      · subst e; rw [pk_us]
      · rw [pk_un (by omega)]; exact h1 j (by omega)
  exact ⟨4 + 1, key 4 0 aKG (by omega) (fun j hj => absurd hj (Nat.not_lt_zero _))⟩
theorem yc_keep_29 {post : SY → Prop} (h : ∀ d : Nat → Int32, (∀ j, j < 256 → d j = aE j) → ∃ n : Nat, wY_keep_56 post fT fL fK fW fB fH fO n 0 aT aL aQ aE aG aKQ d aKG aW aS aM aV aZ aB) : ∃ n : Nat, wY_keep_29 post fT fL fK fW fB fH fO n 0 aT aL aQ aE aG aKQ aKE aKG aW aS aM aV aZ aB := by
  have key : ∀ (m i : Nat) (d : Nat → Int32), i + m = 256 → (∀ j, j < i → d j = aE j) → wY_keep_29 post fT fL fK fW fB fH fO (m + 1) (nI i) aT aL aQ aE aG aKQ d aKG aW aS aM aV aZ aB := by
    intro m
    induction m with
    | zero =>
      intro i d hi h1
      have e : i = 256 := by omega
      subst e
      exact br_t (nI_le (a := 256) (b := 256) (Nat.le_refl _) (by omega)) (h d h1)
    | succ m ih =>
      intro i d hi h1
      have ei : (nI i).toNatClampNeg = i := nI_clamp (by omega)
      refine br_f (nI_ge (b := 256) (by omega) (by omega)) ⟨vp_in_nI (by omega) (by omega), vp_in_nI (by omega) (by omega), nm_r (e' := upd d i (aE i)) (by rw [ei]) (nm_r (nI_1 i) (ih (i + 1) _ (by omega) ?_))⟩
      intro j hj
      by_cases e : j = i
      · subst e; rw [pk_us]
      · rw [pk_un (by omega)]; exact h1 j (by omega)
  exact ⟨256 + 1, key 256 0 aKE (by omega) (fun j hj => absurd hj (Nat.not_lt_zero _))⟩
theorem yc_keep_2 {post : SY → Prop} (h : ∀ d : Nat → Int32, (∀ j, j < 600 → d j = aQ j) → ∃ n : Nat, wY_keep_29 post fT fL fK fW fB fH fO n 0 aT aL aQ aE aG d aKE aKG aW aS aM aV aZ aB) : ∃ n : Nat, wY_keep_2 post fT fL fK fW fB fH fO n 0 aT aL aQ aE aG aKQ aKE aKG aW aS aM aV aZ aB := by
  have key : ∀ (m i : Nat) (d : Nat → Int32), i + m = 600 → (∀ j, j < i → d j = aQ j) → wY_keep_2 post fT fL fK fW fB fH fO (m + 1) (nI i) aT aL aQ aE aG d aKE aKG aW aS aM aV aZ aB := by
    intro m
    induction m with
    | zero =>
      intro i d hi h1
      have e : i = 600 := by omega
      subst e
      exact br_t (nI_le (a := 600) (b := 600) (Nat.le_refl _) (by omega)) (h d h1)
    | succ m ih =>
      intro i d hi h1
      have ei : (nI i).toNatClampNeg = i := nI_clamp (by omega)
      refine br_f (nI_ge (b := 600) (by omega) (by omega)) ⟨vp_in_nI (by omega) (by omega), vp_in_nI (by omega) (by omega), nm_r (e' := upd d i (aQ i)) (by rw [ei]) (nm_r (nI_1 i) (ih (i + 1) _ (by omega) ?_))⟩
      intro j hj
      by_cases e : j = i
      · subst e; rw [pk_us]
      · rw [pk_un (by omega)]; exact h1 j (by omega)
  exact ⟨600 + 1, key 600 0 aKQ (by omega) (fun j hj => absurd hj (Nat.not_lt_zero _))⟩
theorem yc_restore_65 {post : Int32 → SY → Prop} (h : ∀ d : Nat → Int32, (∀ j, j < 4 → d j = aKG j) → post 1 (fT, fL, fK, fW, fB, fH, fO, aT, aL, aQ, aE, d, aKQ, aKE, aKG, aW, aS, aM, aV, aZ, aB)) : ∃ n : Nat, wY_restore_65 post fT fL fK fW fB fH fO n 0 aT aL aQ aE aG aKQ aKE aKG aW aS aM aV aZ aB := by
  have key : ∀ (m i : Nat) (d : Nat → Int32), i + m = 4 → (∀ j, j < i → d j = aKG j) → wY_restore_65 post fT fL fK fW fB fH fO (m + 1) (nI i) aT aL aQ aE d aKQ aKE aKG aW aS aM aV aZ aB := by
    intro m
    induction m with
    | zero =>
      intro i d hi h1
      have e : i = 4 := by omega
      subst e
      exact br_t (nI_le (a := 4) (b := 4) (Nat.le_refl _) (by omega)) (h d h1)
    | succ m ih =>
      intro i d hi h1
      have ei : (nI i).toNatClampNeg = i := nI_clamp (by omega)
      refine br_f (nI_ge (b := 4) (by omega) (by omega)) ⟨vp_in_nI (by omega) (by omega), vp_in_nI (by omega) (by omega), nm_r (e' := upd d i (aKG i)) (by rw [ei]) (nm_r (nI_1 i) (ih (i + 1) _ (by omega) ?_))⟩
      intro j hj
      by_cases e : j = i
      · subst e; rw [pk_us]
      · rw [pk_un (by omega)]; exact h1 j (by omega)
  exact ⟨4 + 1, key 4 0 aG (by omega) (fun j hj => absurd hj (Nat.not_lt_zero _))⟩
theorem yc_restore_38 {post : Int32 → SY → Prop} (h : ∀ d : Nat → Int32, (∀ j, j < 256 → d j = aKE j) → ∃ n : Nat, wY_restore_65 post fT fL fK fW fB fH fO n 0 aT aL aQ d aG aKQ aKE aKG aW aS aM aV aZ aB) : ∃ n : Nat, wY_restore_38 post fT fL fK fW fB fH fO n 0 aT aL aQ aE aG aKQ aKE aKG aW aS aM aV aZ aB := by
  have key : ∀ (m i : Nat) (d : Nat → Int32), i + m = 256 → (∀ j, j < i → d j = aKE j) → wY_restore_38 post fT fL fK fW fB fH fO (m + 1) (nI i) aT aL aQ d aG aKQ aKE aKG aW aS aM aV aZ aB := by
    intro m
    induction m with
    | zero =>
      intro i d hi h1
      have e : i = 256 := by omega
      subst e
      exact br_t (nI_le (a := 256) (b := 256) (Nat.le_refl _) (by omega)) (h d h1)
    | succ m ih =>
      intro i d hi h1
      have ei : (nI i).toNatClampNeg = i := nI_clamp (by omega)
      refine br_f (nI_ge (b := 256) (by omega) (by omega)) ⟨vp_in_nI (by omega) (by omega), vp_in_nI (by omega) (by omega), nm_r (e' := upd d i (aKE i)) (by rw [ei]) (nm_r (nI_1 i) (ih (i + 1) _ (by omega) ?_))⟩
      intro j hj
      by_cases e : j = i
      · subst e; rw [pk_us]
      · rw [pk_un (by omega)]; exact h1 j (by omega)
  exact ⟨256 + 1, key 256 0 aE (by omega) (fun j hj => absurd hj (Nat.not_lt_zero _))⟩
theorem yc_restore_11 {post : Int32 → SY → Prop} (h : ∀ d : Nat → Int32, (∀ j, j < 600 → d j = aKQ j) → ∃ n : Nat, wY_restore_38 post fT fL fK fW fB fH fO n 0 aT aL d aE aG aKQ aKE aKG aW aS aM aV aZ aB) : ∃ n : Nat, wY_restore_11 post fT fL fK fW fB fH fO n 0 aT aL aQ aE aG aKQ aKE aKG aW aS aM aV aZ aB := by
  have key : ∀ (m i : Nat) (d : Nat → Int32), i + m = 600 → (∀ j, j < i → d j = aKQ j) → wY_restore_11 post fT fL fK fW fB fH fO (m + 1) (nI i) aT aL d aE aG aKQ aKE aKG aW aS aM aV aZ aB := by
    intro m
    induction m with
    | zero =>
      intro i d hi h1
      have e : i = 600 := by omega
      subst e
      exact br_t (nI_le (a := 600) (b := 600) (Nat.le_refl _) (by omega)) (h d h1)
    | succ m ih =>
      intro i d hi h1
      have ei : (nI i).toNatClampNeg = i := nI_clamp (by omega)
      refine br_f (nI_ge (b := 600) (by omega) (by omega)) ⟨vp_in_nI (by omega) (by omega), vp_in_nI (by omega) (by omega), nm_r (e' := upd d i (aKQ i)) (by rw [ei]) (nm_r (nI_1 i) (ih (i + 1) _ (by omega) ?_))⟩
      intro j hj
      by_cases e : j = i
      · subst e; rw [pk_us]
      · rw [pk_un (by omega)]; exact h1 j (by omega)
  exact ⟨600 + 1, key 600 0 aQ (by omega) (fun j hj => absurd hj (Nat.not_lt_zero _))⟩
end
theorem i_vc_keep {k : Nat} {u : SX} {v : SY} (I : i_Rel k u v) (hk : k + 6 ≤ 3072) : wpX_keep (fun u' => wpY_keep (fun v' => i_Rel (k + 6) u' v') v) u := by
  obtain ⟨xl, xw, xk, xP, xL, xF, xQ, xT, xA, xB, xC, xM, xG, kF, kQ, kT, kA, kB, kC, kM, kG, xS, xZ⟩ := u
  obtain ⟨fT, fL, fK, fW, fB, fH, fO, aT, aL, aQ, aE, aG, aKQ, aKE, aKG, aW, aS, aM, aV, aZ, aB⟩ := v
  obtain ⟨hP, hL, hw, ⟨h, hC⟩, hK⟩ := I
  unfold wpX_keep
  dsimp only
  refine xc_figures_keptFigures (p := 0) (q := 0) (c := 4) (by omega) (by omega) (fun d0 e0 _ => ?_)
  try dsimp only
  refine xc_questions_keptQuestions (p := 0) (q := 0) (c := 594) (by omega) (by omega) (fun d1 e1 _ => ?_)
  try dsimp only
  refine xc_eventType_keptType (p := 0) (q := 0) (c := 64) (by omega) (by omega) (fun d2 e2 _ => ?_)
  try dsimp only
  refine xc_eventA_keptA (p := 0) (q := 0) (c := 64) (by omega) (by omega) (fun d3 e3 _ => ?_)
  try dsimp only
  refine xc_eventB_keptB (p := 0) (q := 0) (c := 64) (by omega) (by omega) (fun d4 e4 _ => ?_)
  try dsimp only
  refine xc_eventTime_keptTime (p := 0) (q := 0) (c := 64) (by omega) (by omega) (fun d5 e5 _ => ?_)
  try dsimp only
  refine xc_eventMet_keptMet (p := 0) (q := 0) (c := 64) (by omega) (by omega) (fun d6 e6 _ => ?_)
  try dsimp only
  refine xc_eventBegan_keptBegan (p := 0) (q := 0) (c := 64) (by omega) (by omega) (fun d7 e7 _ => ?_)
  try dsimp only
  unfold wpY_keep
  dsimp only
  refine yc_keep_2 (fun q1 f1 => yc_keep_29 (fun q2 f2 => yc_keep_56 (fun q3 f3 => ?_)))
  refine ⟨hP, hL, hw, ed_B_up (by omega) ⟨h, hC⟩, Or.inr ⟨rfl, rfl, ed_B_up (by omega) ⟨h, ed_C_cg ?_ ?_ ?_ ?_ ?_ ?_ ?_ ?_ f1 f2 f3 hC⟩⟩⟩
  · intro j hj; simpa only [Nat.zero_add] using e0 j hj
  · intro j hj; simpa only [Nat.zero_add] using e1 j hj
  · intro j hj; simpa only [Nat.zero_add] using e2 j hj
  · intro j hj; simpa only [Nat.zero_add] using e3 j hj
  · intro j hj; simpa only [Nat.zero_add] using e4 j hj
  · intro j hj; simpa only [Nat.zero_add] using e5 j hj
  · intro j hj; simpa only [Nat.zero_add] using e6 j hj
  · intro j hj; simpa only [Nat.zero_add] using e7 j hj
theorem i_vc_restore {k : Nat} {u : SX} {v : SY} (I : i_Rel k u v) (hk : k + 6 ≤ 3072) : wpX_restore (fun r u' => wpY_restore (fun r' v' => r' = r ∧ i_Rel (k + 6) u' v') v) u := by
  obtain ⟨xl, xw, xk, xP, xL, xF, xQ, xT, xA, xB, xC, xM, xG, kF, kQ, kT, kA, kB, kC, kM, kG, xS, xZ⟩ := u
  obtain ⟨fT, fL, fK, fW, fB, fH, fO, aT, aL, aQ, aE, aG, aKQ, aKE, aKG, aW, aS, aM, aV, aZ, aB⟩ := v
  have I' := i_up I
  obtain ⟨hP, hL, hw, hB, hK⟩ := I
  have hK' := hK
  rcases hK with ⟨rfl, rfl⟩ | ⟨rfl, rfl, ⟨h, hC⟩⟩
  · exact br_t rfl (br_t rfl ⟨rfl, I'⟩)
  unfold wpX_restore
  dsimp only
  refine br_f (by decide) ?_
  refine xc_keptFigures_figures (p := 0) (q := 0) (c := 4) (by omega) (by omega) (fun d0 e0 _ => ?_)
  try dsimp only
  refine xc_keptQuestions_questions (p := 0) (q := 0) (c := 594) (by omega) (by omega) (fun d1 e1 _ => ?_)
  try dsimp only
  refine xc_keptType_eventType (p := 0) (q := 0) (c := 64) (by omega) (by omega) (fun d2 e2 _ => ?_)
  try dsimp only
  refine xc_keptA_eventA (p := 0) (q := 0) (c := 64) (by omega) (by omega) (fun d3 e3 _ => ?_)
  try dsimp only
  refine xc_keptB_eventB (p := 0) (q := 0) (c := 64) (by omega) (by omega) (fun d4 e4 _ => ?_)
  try dsimp only
  refine xc_keptTime_eventTime (p := 0) (q := 0) (c := 64) (by omega) (by omega) (fun d5 e5 _ => ?_)
  try dsimp only
  refine xc_keptMet_eventMet (p := 0) (q := 0) (c := 64) (by omega) (by omega) (fun d6 e6 _ => ?_)
  try dsimp only
  refine xc_keptBegan_eventBegan (p := 0) (q := 0) (c := 64) (by omega) (by omega) (fun d7 e7 _ => ?_)
  try dsimp only
  unfold wpY_restore
  dsimp only
  refine br_f (by decide) (yc_restore_11 (fun q1 f1 => yc_restore_38 (fun q2 f2 => yc_restore_65 (fun q3 f3 => ?_))))
  refine ⟨rfl, hP, hL, hw, ed_B_up (by omega) ⟨h, ed_C_cg ?_ ?_ ?_ ?_ ?_ ?_ ?_ ?_ f1 f2 f3 hC⟩, ed_K_up (by omega) hK'⟩
  · intro j hj; simpa only [Nat.zero_add] using e0 j hj
  · intro j hj; simpa only [Nat.zero_add] using e1 j hj
  · intro j hj; simpa only [Nat.zero_add] using e2 j hj
  · intro j hj; simpa only [Nat.zero_add] using e3 j hj
  · intro j hj; simpa only [Nat.zero_add] using e4 j hj
  · intro j hj; simpa only [Nat.zero_add] using e5 j hj
  · intro j hj; simpa only [Nat.zero_add] using e6 j hj
  · intro j hj; simpa only [Nat.zero_add] using e7 j hj
end
section
/-! condition -/
theorem ed_5le (p : Int32) : 5 ≤ p ↔ 4 < p := by
  rw [Int32.le_iff_toInt_le, Int32.lt_iff_toInt_lt, show (5 : Int32).toInt = 5 by decide, show (4 : Int32).toInt = 4 by decide]
  omega
theorem xb_taken {post : Int32 → Prop} {op : Int32} (h : post (nI (ed_tk op))) : wpX_takenBy post op := by
  unfold ed_tk at h
  by_cases z : 4 < op
  · rw [if_neg (Int32.not_le.mpr z)] at h
    by_cases z2 : op = 12
    · rw [if_pos z2] at h; exact br_t z (br_t z2 h)
    · rw [if_neg z2] at h; exact br_t z (br_f z2 h)
  · rw [if_pos (Int32.not_lt.mp z)] at h; exact br_f z h
theorem ed_stp {d t : Nat} (h : t ≤ d + 1) : nI d + (1 - nI t) = nI (d + 1 - t) := by
  have e : nI (d + 1 - t) + nI t = nI d + 1 := by rw [nI_add, nI_1]; congr 1; omega
  grind
section
variable {xl xw xk : Int32} {xP xL xF xQ xT xA xB xC xM xG kF kQ kT kA kB kC kM kG xS xZ : Nat → Int32}
variable {fT fL fK fW fB fH fO : Int32} {aT aL aQ aE aG aKQ aKE aKG aW aS aM aV aZ aB : Nat → Int32}
theorem yb_takes {post : Int32 → Prop} {op : Int32} (h : post (nI (ed_tk op))) : wpY_takes post (fT, fL, fK, fW, fB, fH, fO, aT, aL, aQ, aE, aG, aKQ, aKE, aKG, aW, aS, aM, aV, aZ, aB) op := by
  unfold ed_tk at h
  by_cases z : 4 < op
  · rw [if_neg (Int32.not_le.mpr z)] at h
    have z' := (ed_5le op).mpr z
    by_cases z2 : op = 12
    · rw [if_pos z2] at h; exact br_t z' (br_t z2 h)
    · rw [if_neg z2] at h; exact br_t z' (br_f z2 h)
  · rw [if_pos (Int32.not_lt.mp z)] at h; exact br_f (fun q => z ((ed_5le op).mp q)) h
theorem xv_leaves {post : Int32 → Prop} {n : Nat} (hn : n ≤ 12) (hp : xP 0 = nI n) (ho : ∀ i, i < n → ∃ k, k ≤ 13 ∧ xP (1 + i) = nI k) (h1 : ed_go (fun i => xP (1 + i)) n ∧ ed_dp (fun i => xP (1 + i)) n = 1 → post 1) (h0 : ¬ (ed_go (fun i => xP (1 + i)) n ∧ ed_dp (fun i => xP (1 + i)) n = 1) → post 0) : wpX_leavesOneValue post (xl, xw, xk, xP, xL, xF, xQ, xT, xA, xB, xC, xM, xG, kF, kQ, kT, kA, kB, kC, kM, kG, xS, xZ) := by
  have key : ∀ m i : Nat, i + m = n → ed_go (fun i => xP (1 + i)) i → wX_leavesOneValue_11 post (nI n) xl xw xk xP xL xF xQ xT xA xB xC xM xG kF kQ kT kA kB kC kM kG xS xZ (m + 1) (nI (ed_dp (fun i => xP (1 + i)) i)) (nI i) := by
    intro m
    induction m with
    | zero =>
      intro i hi g
      have e : i = n := by omega
      subst e
      have dl := ed_dp_le (fun i => xP (1 + i)) i
      refine br_t (nI_le (Nat.le_refl _) (by omega)) ?_
      by_cases z : ed_dp (fun i => xP (1 + i)) i = 1
      · exact br_t (by rw [z]; rfl) (h1 ⟨g, z⟩)
      · exact br_f (fun q => z ((nI_eq (b := 1) (by omega) (by omega)).mp q)) (h0 (fun q => z q.2))
    | succ m ih =>
      intro i hi g
      have dl := ed_dp_le (fun i => xP (1 + i)) i
      have tl := ed_tk_le (xP (1 + i))
      have e1 : (1 : Int32) + nI i = nI (1 + i) := nI_add 1 i
      have c1 : ((1 : Int32) + nI i).toNatClampNeg = 1 + i := by rw [e1, nI_clamp (by omega)]
      refine br_f (nI_ge (by omega) (by omega)) ⟨by rw [e1]; exact vp_in_nI (by omega) (by omega), nm_r (e' := xP (1 + i)) (by rw [c1]) (xb_taken ?_)⟩
      by_cases z : ed_tk (xP (1 + i)) ≤ ed_dp (fun i => xP (1 + i)) i
      · refine br_t (nI_le z (by omega)) (xb_taken (nm_r (e' := nI (ed_dp (fun i => xP (1 + i)) (i + 1))) (ed_stp (by omega)) (nm_r (nI_1 i) (ih (i + 1) (by omega) ?_))))
        intro j hj
        by_cases e : j = i
        · subst e; exact ⟨ho j (by omega), z⟩
        · exact g j (by omega)
      · refine br_f (nI_ge (by omega) (by omega)) (h0 (fun q => z (q.1 i (by omega)).2))
  refine nm_r hp ⟨n + 1, ?_⟩
  exact key n 0 (by omega) (fun j hj => absurd hj (Nat.not_lt_zero _))
theorem yc_cond77 {post : Int32 → SY → Prop} {l : Nat} (hl : l < 3) (hfl : fL = nI l) (h : ∀ d : Nat → Int32, (∀ j, j < 24 → d (25 * l + 1 + j) = aT j) → (∀ j, (j < 25 * l + 1 ∨ 25 * l + 25 ≤ j) → d j = aL j) → post 1 (0, nI (l + 1), fK, fW, fB, fH, fO, aT, d, aQ, aE, aG, aKQ, aKE, aKG, aW, aS, aM, aV, aZ, aB)) : ∃ n : Nat, wY_condition_77 post fT fL fK fW fB fH fO n 0 aT aL aQ aE aG aKQ aKE aKG aW aS aM aV aZ aB := by
  subst hfl
  have key : ∀ (m i : Nat) (d : Nat → Int32), i + m = 24 → (∀ j, j < i → d (25 * l + 1 + j) = aT j) → (∀ j, (j < 25 * l + 1 ∨ 25 * l + 1 + i ≤ j) → d j = aL j) → wY_condition_77 post fT (nI l) fK fW fB fH fO (m + 1) (nI i) aT d aQ aE aG aKQ aKE aKG aW aS aM aV aZ aB := by
    intro m
    induction m with
    | zero =>
      intro i d hi h1 h2
      have e : i = 24 := by omega
      subst e
      exact br_t (nI_le (a := 24) (b := 24) (Nat.le_refl _) (by omega)) (nm_r (nI_1 l) (h d h1 (fun j hj => h2 j (by omega))))
    | succ m ih =>
      intro i d hi h1 h2
      have ei : (nI i).toNatClampNeg = i := nI_clamp (by omega)
      have e2 : (25 : Int32) * nI l + 1 + nI i = nI (25 * l + 1 + i) := by
        rw [show (25 : Int32) = nI 25 from rfl, pk_mul, nI_1, nI_add]
      refine br_f (nI_ge (b := 24) (by omega) (by omega)) ⟨vp_in_nI (by omega) (by omega), by rw [e2]; exact vp_in_nI (by omega) (by omega), nm_r (e' := upd d (25 * l + 1 + i) (aT i)) (by rw [e2, ei, nI_clamp (by omega)]) (nm_r (nI_1 i) (ih (i + 1) _ (by omega) ?_ ?_))⟩
      · intro j hj
        by_cases e : j = i
        · subst e; rw [pk_us]
        · rw [pk_un (by omega)]; exact h1 j (by omega)
      · intro j hj
        rw [pk_un (by omega)]; exact h2 j (by omega)
  exact ⟨25, key 24 0 aL (by omega) (fun j hj => absurd hj (Nat.not_lt_zero _)) (fun _ _ => rfl)⟩
theorem yv_cond {post : Int32 → SY → Prop} {n l : Nat} {o : Nat → Int32} (hn : n ≤ 12) (hl : l ≤ 3) (hft : fT = nI n) (hfl : fL = nI l) (ho : ∀ i, i < n → ∃ k, k ≤ 13 ∧ o i = nI k) (hoa : ∀ i, i < 12 → o i = aT (2 * i)) (h1 : ed_go o n ∧ ed_dp o n = 1 → l < 3 → ∀ d : Nat → Int32, d (25 * l) = nI n → (∀ j, j < 24 → d (25 * l + 1 + j) = aT j) → (∀ j, (j < 25 * l ∨ 25 * l + 25 ≤ j) → d j = aL j) → post 1 (0, nI (l + 1), fK, fW, fB, fH, fO, aT, d, aQ, aE, aG, aKQ, aKE, aKG, aW, aS, aM, aV, aZ, aB)) (h0 : ¬ ((ed_go o n ∧ ed_dp o n = 1) ∧ l < 3) → post 0 (fT, fL, fK, fW, fB, fH, fO, aT, aL, aQ, aE, aG, aKQ, aKE, aKG, aW, aS, aM, aV, aZ, aB)) : wpY_condition post (fT, fL, fK, fW, fB, fH, fO, aT, aL, aQ, aE, aG, aKQ, aKE, aKG, aW, aS, aM, aV, aZ, aB) := by
  have key : ∀ m i : Nat, i + m = n → ed_go o i → wY_condition_4 post fT fL fK fW fB fH fO aT aL aQ aE aG aKQ aKE aKG aW aS aM aV aZ aB (m + 1) (nI (ed_dp o i)) (nI i) := by
    intro m
    induction m with
    | zero =>
      intro i hi g
      have e : i = n := by omega
      subst e
      have dl := ed_dp_le o i
      refine br_t (by rw [hft]; exact nI_le (Nat.le_refl _) (by omega)) ?_
      by_cases z : ed_dp o i = 1
      · refine br_t (by rw [z]; rfl) ?_
        by_cases zl : l < 3
        · have e2 : (25 : Int32) * fL = nI (25 * l) := by rw [hfl]; exact pk_mul 25 l
          refine br_f (fun q => by rw [hfl] at q; have := (nI_eq (b := 3) (by omega) (by omega)).mp q; omega) ⟨by rw [e2]; exact vp_in_nI (by omega) (by omega), nm_r (e' := upd aL (25 * l) (nI i)) (by rw [e2, hft, nI_clamp (by omega)]) (yc_cond77 zl hfl (fun d d1 d2 => h1 ⟨g, z⟩ zl d ?_ d1 ?_))⟩
          · rw [d2 (25 * l) (by omega), pk_us]
          · intro j hj
            rw [d2 j (by omega), pk_un (by omega)]
        · have e3 : l = 3 := by omega
          subst e3
          exact br_t hfl (h0 (fun q => zl q.2))
      · exact br_f (fun q => z ((nI_eq (b := 1) (by omega) (by omega)).mp q)) (h0 (fun q => z q.1.2))
    | succ m ih =>
      intro i hi g
      have dl := ed_dp_le o i
      have tl := ed_tk_le (o i)
      have e1 : (2 : Int32) * nI i = nI (2 * i) := pk_mul 2 i
      refine br_f (by rw [hft]; exact nI_ge (by omega) (by omega)) ⟨by rw [e1]; exact vp_in_nI (by omega) (by omega), ?_⟩
      rw [e1, nI_clamp (by omega), ← hoa i (by omega)]
      refine yb_takes ?_
      by_cases z : ed_tk (o i) ≤ ed_dp o i
      · refine br_t (nI_le z (by omega)) (nm_r (e' := nI (ed_dp o (i + 1))) (ed_stp (by omega)) (nm_r (nI_1 i) (ih (i + 1) (by omega) ?_)))
        intro j hj
        by_cases e : j = i
        · subst e; exact ⟨ho j (by omega), z⟩
        · exact g j (by omega)
      · exact br_f (nI_ge (by omega) (by omega)) (h0 (fun q => z (q.1.1 i (by omega)).2))
  exact ⟨n + 1, key n 0 (by omega) (fun j hj => absurd hj (Nat.not_lt_zero _))⟩
end
theorem i_vc_condition {k : Nat} {u : SX} {v : SY} (I : i_Rel k u v) (hk : k + 6 ≤ 3072) : wpX_condition (fun r u' => wpY_condition (fun r' v' => r' = r ∧ i_Rel (k + 6) u' v') v) u := by
  obtain ⟨xl, xw, xk, xP, xL, xF, xQ, xT, xA, xB, xC, xM, xG, kF, kQ, kT, kA, kB, kC, kM, kG, xS, xZ⟩ := u
  obtain ⟨fT, fL, fK, fW, fB, fH, fO, aT, aL, aQ, aE, aG, aKQ, aKE, aKG, aW, aS, aM, aV, aZ, aB⟩ := v
  have I' := i_up I
  obtain ⟨⟨n, hn, p1, p2, p3, p4⟩, ⟨l, hl, l1, l2, l3, l4⟩, hw, hB, hK⟩ := I
  have bad : ¬ ((ed_go (fun i => xP (1 + i)) n ∧ ed_dp (fun i => xP (1 + i)) n = 1) ∧ l < 3) → wpY_condition (fun r' v' => r' = 0 ∧ i_Rel (k + 6) (xl, xw, xk, xP, xL, xF, xQ, xT, xA, xB, xC, xM, xG, kF, kQ, kT, kA, kB, kC, kM, kG, xS, xZ) v') (fT, fL, fK, fW, fB, fH, fO, aT, aL, aQ, aE, aG, aKQ, aKE, aKG, aW, aS, aM, aV, aZ, aB) := fun z =>
    yv_cond hn hl p2 l2 p4 (fun i hi => (p3 i hi).1) (fun a b => absurd ⟨a, b⟩ z) (fun _ => ⟨rfl, I'⟩)
  unfold wpX_condition
  dsimp only
  by_cases zl : l < 3
  · refine br_f (by rw [l1]; exact nI_ge (b := 3) zl (by omega)) (xv_leaves hn p1 p4 (fun z => br_f (by decide) ?_) (fun z => br_t rfl (bad (fun q => z q.1))))
    have e : xl * 25 = nI (l * 25) := by rw [l1]; exact pk_mul l 25
    rw [e]
    refine xc_program_list (p := 0) (q := l * 25) (c := 25) (by omega) (by omega) (fun d d1 d2 => ?_)
    dsimp only
    refine nm_r (e' := nI (l + 1)) (by rw [l1, nI_1]) (nm_e ?_)
    refine yv_cond hn hl p2 l2 p4 (fun i hi => (p3 i hi).1) (fun _ _ c c1 c2 c3 => ?_) (fun q => absurd ⟨z, zl⟩ q)
    have dj : ∀ j, j < 25 → d (25 * l + j) = xP j := by
      intro j hj
      have := d1 j hj
      rw [Nat.mul_comm l 25, Nat.zero_add] at this
      exact this
    refine ⟨rfl, ⟨0, by omega, pk_us, rfl, ?_, fun i hi => absurd hi (Nat.not_lt_zero _)⟩, ⟨l + 1, by omega, rfl, rfl, ?_, ?_⟩, hw, ed_B_up (by omega) hB, ed_K_up (by omega) hK⟩
    · intro i hi
      rw [pk_un (by omega), pk_un (by omega)]
      exact p3 i hi
    · intro w hw3
      by_cases e : w = l
      · subst e
        refine ⟨?_, fun i hi => ⟨?_, ?_⟩⟩
        · rw [c1]; exact (dj 0 (by omega)).trans p1
        · have a := dj (1 + i) (by omega)
          have b := c2 (2 * i) (by omega)
          rw [Nat.add_assoc, a, b]
          exact (p3 i hi).1
        · have a := dj (13 + i) (by omega)
          have b := c2 (2 * i + 1) (by omega)
          rw [Nat.add_assoc, a, show 25 * w + 2 + 2 * i = 25 * w + 1 + (2 * i + 1) by omega, b]
          exact (p3 i hi).2
      · exact ed_ce_cg (l3 w hw3) (fun j hj => d2 _ (by omega)) (fun j hj => c3 _ (by omega))
    · intro w hw3
      by_cases e : w = l
      · subst e
        refine ⟨n, (dj 0 (by omega)).trans p1, ed_ok_cg (o := fun i => xP (1 + i)) (fun i hi => ?_) ⟨hn, z.1, z.2⟩⟩
        have a := dj (1 + i) (by omega)
        rw [Nat.add_assoc]
        exact a.symm
      · exact ed_cv_cg (l4 w (by omega)) (fun j hj => d2 _ (by omega))
  · have e3 : l = 3 := by omega
    subst e3
    exact br_t (by rw [l1]; exact nI_le (a := 3) (b := 3) (Nat.le_refl _) (by omega)) (bad (fun q => zl q.2))
end
section
/-! setting a question -/
def ed_XS (s : Nat) (so nn f0 lc : Int32) (xL q0 q : Nat → Int32) : Prop :=
  q (99 * s) = so ∧ q (99 * s + 1) = nn ∧ q (99 * s + 9) = -2147483648 ∧ q (99 * s + 10) = 1 ∧ q (99 * s + 11) = 4 ∧ q (99 * s + 12) = f0 ∧ q (99 * s + 13) = 0 ∧ q (99 * s + 14) = 0 ∧ q (99 * s + 23) = lc ∧ (∀ j, j < 75 → q (99 * s + 24 + j) = xL j) ∧ (∀ j, j < 99 * s ∨ 99 * s + 99 ≤ j → q j = q0 j)
def ed_YS (s : Nat) (so a b c f0 lc : Int32) (aL q0 q : Nat → Int32) : Prop :=
  (q (100 * s) = so ∧ q (100 * s + 1) = a ∧ q (100 * s + 2) = b ∧ q (100 * s + 3) = c) ∧ q (100 * s + 6) = -2147483648 ∧ q (100 * s + 7) = 1 ∧ q (100 * s + 8) = 4 ∧ q (100 * s + 9) = f0 ∧ q (100 * s + 10) = 0 ∧ q (100 * s + 11) = 0 ∧ q (100 * s + 20) = lc ∧ (∀ j, j < 75 → q (100 * s + 24 + j) = aL j) ∧ (∀ j, j < 100 * s ∨ 100 * s + 100 ≤ j → q j = q0 j)
section
variable {xl xw xk : Int32} {xP xL xF xQ xT xA xB xC xM xG kF kQ kT kA kB kC kM kG xS xZ : Nat → Int32}
variable {fT fL fK fW fB fH fO : Int32} {aT aL aQ aE aG aKQ aKE aKG aW aS aM aV aZ aB : Nat → Int32}
theorem xb_see {post : SX → Prop} {s : Nat} (hs : s < 6) (h : post (xl, xw, xk, xP, xL, xF, upd (upd (upd xQ (99 * s + 12) (xF 0)) (99 * s + 13) 0) (99 * s + 14) 0, xT, xA, xB, xC, xM, xG, kF, kQ, kT, kA, kB, kC, kM, kG, xS, xZ)) : wpX_seeFromNowOn post (xl, xw, xk, xP, xL, xF, xQ, xT, xA, xB, xC, xM, xG, kF, kQ, kT, kA, kB, kC, kM, kG, xS, xZ) (nI s) := by
  have w12 := ed_x s 12 hs (by omega)
  have w13 := ed_x s 13 hs (by omega)
  have w14 := ed_x s 14 hs (by omega)
  have c12 : (nI s * 99 + 12).toNatClampNeg = 99 * s + 12 := w12.2
  have c13 : (nI s * 99 + 13).toNatClampNeg = 99 * s + 13 := w13.2
  have c14 : (nI s * 99 + 14).toNatClampNeg = 99 * s + 14 := w14.2
  refine nm_e ⟨w12.1, nm_e ⟨w13.1, nm_e ⟨w14.1, nm_e ?_⟩⟩⟩
  rw [c12, c13, c14]
  exact h
theorem xs_set {post : SX → Prop} {s : Nat} {so nn : Int32} (hs : s < 6) (h : ∀ q, ed_XS s so nn (xF 0) xl xL xQ q → post (0, xw, xk, xP, xL, xF, q, xT, xA, xB, xC, xM, xG, kF, kQ, kT, kA, kB, kC, kM, kG, xS, xZ)) : wpX_setQuestion post (xl, xw, xk, xP, xL, xF, xQ, xT, xA, xB, xC, xM, xG, kF, kQ, kT, kA, kB, kC, kM, kG, xS, xZ) (nI s) so nn := by
  have w0 := ed_x s 0 hs (by omega)
  have w1 := ed_x s 1 hs (by omega)
  have w9 := ed_x s 9 hs (by omega)
  have w10 := ed_x s 10 hs (by omega)
  have w11 := ed_x s 11 hs (by omega)
  have w23 := ed_x s 23 hs (by omega)
  have c0 : (nI s * 99 + 0).toNatClampNeg = 99 * s + 0 := w0.2
  have c1 : (nI s * 99 + 1).toNatClampNeg = 99 * s + 1 := w1.2
  have c9 : (nI s * 99 + 9).toNatClampNeg = 99 * s + 9 := w9.2
  have c10 : (nI s * 99 + 10).toNatClampNeg = 99 * s + 10 := w10.2
  have c11 : (nI s * 99 + 11).toNatClampNeg = 99 * s + 11 := w11.2
  have c23 : (nI s * 99 + 23).toNatClampNeg = 99 * s + 23 := w23.2
  have e24 : nI s * 99 + 24 = nI (99 * s + 24) := ed_xi s 24
  unfold wpX_setQuestion
  dsimp only
  refine nm_e ⟨w0.1, nm_e ⟨w1.1, nm_e ⟨w9.1, nm_e ⟨w10.1, nm_e ⟨w11.1, nm_e ⟨w23.1, nm_e ?_⟩⟩⟩⟩⟩⟩
  rw [c0, c1, c9, c10, c11, c23, e24]
  refine xc_list_questions (p := 0) (q := 99 * s + 24) (c := 75) (by omega) (by omega) (fun d d1 d2 => xb_see hs (h _ ?_))
  refine ⟨?_, ?_, ?_, ?_, ?_, ?_, ?_, ?_, ?_, ?_, ?_⟩
  · simp (disch := omega) only [pk_us, pk_un]; rw [d2 _ (by omega)]; simp (disch := omega) only [pk_us, pk_un]; exact pk_us
  · simp (disch := omega) only [pk_us, pk_un]; rw [d2 _ (by omega)]; simp (disch := omega) only [pk_us, pk_un]
  · simp (disch := omega) only [pk_us, pk_un]; rw [d2 _ (by omega)]; simp (disch := omega) only [pk_us, pk_un]
  · simp (disch := omega) only [pk_us, pk_un]; rw [d2 _ (by omega)]; simp (disch := omega) only [pk_us, pk_un]
  · simp (disch := omega) only [pk_us, pk_un]; rw [d2 _ (by omega)]; simp (disch := omega) only [pk_us, pk_un]
  · simp (disch := omega) only [pk_us, pk_un]
  · simp (disch := omega) only [pk_us, pk_un]
  · simp (disch := omega) only [pk_us, pk_un]
  · simp (disch := omega) only [pk_us, pk_un]; rw [d2 _ (by omega)]; simp (disch := omega) only [pk_us, pk_un]
  · intro j hj; simp (disch := omega) only [pk_us, pk_un]; rw [d1 j hj, Nat.zero_add]
  · intro j hj; simp (disch := omega) only [pk_us, pk_un]; rw [d2 _ (by omega)]; simp (disch := omega) only [pk_us, pk_un]
theorem yc_set154 {post : SY → Prop} {s : Nat} (hs : s < 6) (h : ∀ d : Nat → Int32, (∀ j, j < 75 → d (100 * s + 24 + j) = aL j) → (∀ j, (j < 100 * s + 24 ∨ 100 * s + 99 ≤ j) → d j = aQ j) → post (fT, 0, fK, fW, fB, fH, fO, aT, aL, d, aE, aG, aKQ, aKE, aKG, aW, aS, aM, aV, aZ, aB)) : ∃ n : Nat, wY_set_154 post (nI s) fT fL fK fW fB fH fO n 0 aT aL aQ aE aG aKQ aKE aKG aW aS aM aV aZ aB := by
  have key : ∀ (m i : Nat) (d : Nat → Int32), i + m = 75 → (∀ j, j < i → d (100 * s + 24 + j) = aL j) → (∀ j, (j < 100 * s + 24 ∨ 100 * s + 24 + i ≤ j) → d j = aQ j) → wY_set_154 post (nI s) fT fL fK fW fB fH fO (m + 1) (nI i) aT aL d aE aG aKQ aKE aKG aW aS aM aV aZ aB := by
    intro m
    induction m with
    | zero =>
      intro i d hi h1 h2
      have e : i = 75 := by omega
      subst e
      exact br_t (nI_le (a := 75) (b := 75) (Nat.le_refl _) (by omega)) (h d h1 (fun j hj => h2 j (by omega)))
    | succ m ih =>
      intro i d hi h1 h2
      have ei : (nI i).toNatClampNeg = i := nI_clamp (by omega)
      have e2 : (100 : Int32) * nI s + 24 + nI i = nI (100 * s + 24 + i) := by
        rw [show (100 : Int32) * nI s + 24 = nI (100 * s + 24) from ed_yi s 24, nI_add]
      refine br_f (nI_ge (b := 75) (by omega) (by omega)) ⟨vp_in_nI (by omega) (by omega), by rw [e2]; exact vp_in_nI (by omega) (by omega), nm_r (e' := upd d (100 * s + 24 + i) (aL i)) (by rw [e2, ei, nI_clamp (by omega)]) (nm_r (nI_1 i) (ih (i + 1) _ (by omega) ?_ ?_))⟩
      · intro j hj
        by_cases e : j = i
        · subst e; rw [pk_us]
        · rw [pk_un (by omega)]; exact h1 j (by omega)
      · intro j hj
        rw [pk_un (by omega)]; exact h2 j (by omega)
  exact ⟨76, key 75 0 aQ (by omega) (fun j hj => absurd hj (Nat.not_lt_zero _)) (fun _ _ => rfl)⟩
theorem ys_set {post : SY → Prop} {s : Nat} {so a b c : Int32} (hs : s < 6) (h : ∀ q, ed_YS s so a b c (aG 0) fL aL aQ q → post (fT, 0, fK, fW, fB, fH, fO, aT, aL, q, aE, aG, aKQ, aKE, aKG, aW, aS, aM, aV, aZ, aB)) : wpY_set post (fT, fL, fK, fW, fB, fH, fO, aT, aL, aQ, aE, aG, aKQ, aKE, aKG, aW, aS, aM, aV, aZ, aB) (nI s) so a b c := by
  have w0 := ed_y0 s hs
  have w1 := ed_y s 1 hs (by omega)
  have w2 := ed_y s 2 hs (by omega)
  have w3 := ed_y s 3 hs (by omega)
  have w6 := ed_y s 6 hs (by omega)
  have w7 := ed_y s 7 hs (by omega)
  have w8 := ed_y s 8 hs (by omega)
  have w9 := ed_y s 9 hs (by omega)
  have w20 := ed_y s 20 hs (by omega)
  have c1 : (100 * nI s + 1).toNatClampNeg = 100 * s + 1 := w1.2
  have c2 : (100 * nI s + 2).toNatClampNeg = 100 * s + 2 := w2.2
  have c3 : (100 * nI s + 3).toNatClampNeg = 100 * s + 3 := w3.2
  have c6 : (100 * nI s + 6).toNatClampNeg = 100 * s + 6 := w6.2
  have c7 : (100 * nI s + 7).toNatClampNeg = 100 * s + 7 := w7.2
  have c8 : (100 * nI s + 8).toNatClampNeg = 100 * s + 8 := w8.2
  have c9 : (100 * nI s + 9).toNatClampNeg = 100 * s + 9 := w9.2
  have c20 : (100 * nI s + 20).toNatClampNeg = 100 * s + 20 := w20.2
  have fin : ∀ d : Nat → Int32, (∀ j, j < 100 → d (100 * s + j) = 0) → (∀ j, (j < 100 * s ∨ 100 * s + 100 ≤ j) → d j = aQ j) → ∃ n : Nat, wY_set_154 post (nI s) fT fL fK fW fB fH fO n 0 aT aL (upd (upd (upd (upd (upd (upd (upd (upd (upd d (100 * s) so) (100 * s + 1) a) (100 * s + 2) b) (100 * s + 3) c) (100 * s + 6) (-2147483648)) (100 * s + 7) 1) (100 * s + 8) 4) (100 * s + 9) (aG 0)) (100 * s + 20) fL) aE aG aKQ aKE aKG aW aS aM aV aZ aB := by
    intro d d1 d2
    refine yc_set154 hs (fun q q1 q2 => h q ?_)
    refine ⟨⟨?_, ?_, ?_, ?_⟩, ?_, ?_, ?_, ?_, ?_, ?_, ?_, q1, ?_⟩
    · rw [q2 _ (by omega)]; simp (disch := omega) only [pk_us, pk_un]
    · rw [q2 _ (by omega)]; simp (disch := omega) only [pk_us, pk_un]
    · rw [q2 _ (by omega)]; simp (disch := omega) only [pk_us, pk_un]
    · rw [q2 _ (by omega)]; simp (disch := omega) only [pk_us, pk_un]
    · rw [q2 _ (by omega)]; simp (disch := omega) only [pk_us, pk_un]
    · rw [q2 _ (by omega)]; simp (disch := omega) only [pk_us, pk_un]
    · rw [q2 _ (by omega)]; simp (disch := omega) only [pk_us, pk_un]
    · rw [q2 _ (by omega)]; simp (disch := omega) only [pk_us, pk_un]
    · rw [q2 _ (by omega)]; simp (disch := omega) only [pk_us, pk_un]; exact d1 10 (by omega)
    · rw [q2 _ (by omega)]; simp (disch := omega) only [pk_us, pk_un]; exact d1 11 (by omega)
    · rw [q2 _ (by omega)]; simp (disch := omega) only [pk_us, pk_un]
    · intro j hj; rw [q2 _ (by omega)]; simp (disch := omega) only [pk_us, pk_un]; exact d2 j hj
  have key : ∀ (m i : Nat) (d : Nat → Int32), i + m = 100 → (∀ j, j < i → d (100 * s + j) = 0) → (∀ j, (j < 100 * s ∨ 100 * s + i ≤ j) → d j = aQ j) → wY_set_3 post (nI s) so a b c fT fL fK fW fB fH fO (m + 1) (nI i) aT aL d aE aG aKQ aKE aKG aW aS aM aV aZ aB := by
    intro m
    induction m with
    | zero =>
      intro i d hi h1 h2
      have e : i = 100 := by omega
      subst e
      refine br_t (nI_le (a := 100) (b := 100) (Nat.le_refl _) (by omega)) ⟨w0.1, nm_e ⟨w1.1, nm_e ⟨w2.1, nm_e ⟨w3.1, nm_e ⟨w6.1, nm_e ⟨w7.1, nm_e ⟨w8.1, nm_e ⟨w9.1, nm_e ⟨w20.1, nm_e ?_⟩⟩⟩⟩⟩⟩⟩⟩⟩
      rw [w0.2, c1, c2, c3, c6, c7, c8, c9, c20]
      exact fin d h1 h2
    | succ m ih =>
      intro i d hi h1 h2
      have e2 : (100 : Int32) * nI s + nI i = nI (100 * s + i) := ed_yi s i
      refine br_f (nI_ge (b := 100) (by omega) (by omega)) ⟨by rw [e2]; exact vp_in_nI (by omega) (by omega), nm_r (e' := upd d (100 * s + i) 0) (by rw [e2, nI_clamp (by omega)]) (nm_r (nI_1 i) (ih (i + 1) _ (by omega) ?_ ?_))⟩
      · intro j hj
        by_cases e : j = i
        · subst e; rw [pk_us]
        · rw [pk_un (by omega)]; exact h1 j (by omega)
      · intro j hj
        rw [pk_un (by omega)]; exact h2 j (by omega)
  exact ⟨101, key 100 0 aQ (by omega) (fun j hj => absurd hj (Nat.not_lt_zero _)) (fun _ _ => rfl)⟩
end
theorem ed_Q_new {h l : Nat} {lx ly xL aL ty a b t : Nat → Int32} {mb : Nat → Nat → Bool} {gb : Nat → Bool} (hl3 : l ≤ 3) (a9 : lx 9 = -2147483648) (a10 : lx 10 = 1) (a11 : lx 11 = 4) (a12 : lx 12 = nI h) (a13 : lx 13 = 0) (a14 : lx 14 = 0) (a23 : lx 23 = nI l) (ac : ∀ j, j < 75 → lx (24 + j) = xL j) (b6 : ly 6 = -2147483648) (b7 : ly 7 = 1) (b8 : ly 8 = 4) (b9 : ly 9 = nI h) (b10 : ly 10 = 0) (b11 : ly 11 = 0) (b20 : ly 20 = nI l) (bc : ∀ j, j < 75 → ly (24 + j) = aL j) (lc : ∀ w, w < 3 → ed_ce xL (25 * w) aL (25 * w)) (lv : ∀ w, w < l → ed_cv xL (25 * w)) (e0 : lx 0 = ly 0) (hq : ed_Qw l lx ly ∨ ed_Qp l h h lx ly ty a b t gb ∨ ed_Qj l lx ly) : ed_Q h h lx ly ty a b t mb gb := by
  have sx : ∀ w, w < 3 → ∀ j, j < 25 → lx (24 + 25 * w + j) = xL (25 * w + j) := fun w hw j hj => by rw [Nat.add_assoc]; exact ac _ (by omega)
  have sy : ∀ w, w < 3 → ∀ j, j < 25 → ly (24 + 25 * w + j) = aL (25 * w + j) := fun w hw j hj => by rw [Nat.add_assoc]; exact bc _ (by omega)
  refine ⟨e0, Or.inr ⟨h, 0, l, 1, ⟨Nat.le_refl _, Nat.zero_le _, by omega, by omega, hl3⟩, ⟨a12, a14, a23, a10⟩, ⟨a9.trans b6.symm, a10.trans b7.symm, a11.trans b8.symm, a12.trans b9.symm, a13.trans b10.symm, a14.trans b11.symm, a23.trans b20.symm, fun w hw => ed_ce_cg (lc w hw) (sx w hw) (sy w hw)⟩, fun j _ hj => absurd hj (Nat.not_lt_zero _), fun w hw => ed_cv_cg (lv w hw) (sx w (by omega)), fun i w h1 h2 _ => by omega, fun i h1 h2 => by omega, hq⟩⟩
def ed_win (p n : Int32) : Prop := (p = 0 ∨ p = 4) ∨ ((p = 1 ∨ p = 3) ∧ ¬ n < 1 ∧ ¬ 16 < n) ∨ ((p = 2 ∨ p = 5) ∧ ¬ n < 1 ∧ ¬ 100 < n)
theorem ed_win_r {p n : Int32} (h : ed_win p n) : ¬ p < 0 ∧ ¬ 5 < p := by
  rcases h with (h | h) | ⟨h | h, _⟩ | ⟨h | h, _⟩ <;> subst h <;> decide
theorem ed_win_c {p : Int32} (h0 : ¬ p < 0) (h5 : ¬ 5 < p) : p = 0 ∨ p = 1 ∨ p = 2 ∨ p = 3 ∨ p = 4 ∨ p = 5 := by
  obtain ⟨j, hj, rfl⟩ := nI_of2 (M := 5) (n := 5) (by decide) h0 (Int32.not_lt.mp h5)
  have : j = 0 ∨ j = 1 ∨ j = 2 ∨ j = 3 ∨ j = 4 ∨ j = 5 := by omega
  rcases this with rfl | rfl | rfl | rfl | rfl | rfl <;> simp [nI]
theorem xb_wsize {post : Int32 → Prop} {p n : Int32} (h1 : ed_win p n → post 1) (h0 : ¬ ed_win p n → post 0) : wpX_isWindowSize post p n := by
  by_cases a : p < 0
  · exact br_t a (h0 (fun q => (ed_win_r q).1 a))
  by_cases b : 5 < p
  · exact br_f a (br_t b (h0 (fun q => (ed_win_r q).2 b)))
  refine br_f a (br_f b ?_)
  have n42 : (p = 1 ∨ p = 3) → wX_isWindowSize_42 post n := by
    intro hp
    by_cases c : n < 1
    · refine br_t c (h0 ?_)
      rintro ((h | h) | ⟨_, h, _⟩ | ⟨_, h, _⟩)
      · rcases hp with rfl | rfl <;> exact absurd h (by decide)
      · rcases hp with rfl | rfl <;> exact absurd h (by decide)
      · exact h c
      · exact h c
    by_cases d : 16 < n
    · refine br_f c (br_t d (h0 ?_))
      rintro ((h | h) | ⟨_, _, h⟩ | ⟨h | h, _⟩)
      · rcases hp with rfl | rfl <;> exact absurd h (by decide)
      · rcases hp with rfl | rfl <;> exact absurd h (by decide)
      · exact h d
      · rcases hp with rfl | rfl <;> exact absurd h (by decide)
      · rcases hp with rfl | rfl <;> exact absurd h (by decide)
    exact br_f c (br_f d (h1 (Or.inr (Or.inl ⟨hp, c, d⟩))))
  have n59 : (p = 2 ∨ p = 5) → wX_isWindowSize_59 post n := by
    intro hp
    by_cases c : n < 1
    · refine br_t c (h0 ?_)
      rintro ((h | h) | ⟨_, h, _⟩ | ⟨_, h, _⟩)
      · rcases hp with rfl | rfl <;> exact absurd h (by decide)
      · rcases hp with rfl | rfl <;> exact absurd h (by decide)
      · exact h c
      · exact h c
    by_cases d : 100 < n
    · refine br_f c (br_t d (h0 ?_))
      rintro ((h | h) | ⟨h | h, _⟩ | ⟨_, _, h⟩)
      · rcases hp with rfl | rfl <;> exact absurd h (by decide)
      · rcases hp with rfl | rfl <;> exact absurd h (by decide)
      · rcases hp with rfl | rfl <;> exact absurd h (by decide)
      · rcases hp with rfl | rfl <;> exact absurd h (by decide)
      · exact h d
    exact br_f c (br_f d (h1 (Or.inr (Or.inr ⟨hp, c, d⟩))))
  rcases ed_win_c a b with rfl | rfl | rfl | rfl | rfl | rfl
  · exact br_t rfl (h1 (Or.inl (Or.inl rfl)))
  · exact br_f (by decide) (br_t rfl (n42 (Or.inl rfl)))
  · exact br_f (by decide) (br_f (by decide) (br_t rfl (n59 (Or.inl rfl))))
  · exact br_f (by decide) (br_f (by decide) (br_f (by decide) (br_t rfl (n42 (Or.inr rfl)))))
  · exact br_f (by decide) (br_f (by decide) (br_f (by decide) (br_f (by decide) (br_t rfl (h1 (Or.inl (Or.inr rfl)))))))
  · exact br_f (by decide) (br_f (by decide) (br_f (by decide) (br_f (by decide) (br_f (by decide) (br_t rfl (n59 (Or.inr rfl)))))))
section
variable {fT fL fK fW fB fH fO : Int32} {aT aL aQ aE aG aKQ aKE aKG aW aS aM aV aZ aB : Nat → Int32}
theorem yb_window {post : Int32 → SY → Prop} {s : Nat} {p1 p2 p3 p4 : Int32} (hs : s < 6) (hl : fL = 1) (good : ed_win p1 p2 → ¬ p3 < 0 → p3 ≤ 5 → wY_window_75 post (nI s) p1 p2 p3 p4 fT fL fK fW fB fH fO aT aL aQ aE aG aKQ aKE aKG aW aS aM aV aZ aB) (bad : ¬ (ed_win p1 p2 ∧ ¬ p3 < 0 ∧ p3 ≤ 5) → post 0 (fT, fL, fK, fW, fB, fH, fO, aT, aL, aQ, aE, aG, aKQ, aKE, aKG, aW, aS, aM, aV, aZ, aB)) : wpY_window post (fT, fL, fK, fW, fB, fH, fO, aT, aL, aQ, aE, aG, aKQ, aKE, aKG, aW, aS, aM, aV, aZ, aB) (nI s) p1 p2 p3 p4 := by
  unfold wpY_window
  dsimp only
  refine yb_isSlot hs (br_f (by decide) (br_t hl ?_))
  by_cases a : p1 < 0
  · exact br_t a (bad (fun q => (ed_win_r q.1).1 a))
  by_cases b : 5 < p1
  · exact br_f a (br_t b (bad (fun q => (ed_win_r q.1).2 b)))
  by_cases c : p3 < 0
  · exact br_f a (br_f b (br_t c (bad (fun q => q.2.1 c))))
  by_cases d : p3 ≤ 5
  · refine br_f a (br_f b (br_f c (br_t d ?_)))
    by_cases e : p2 < 1
    · have B : ¬ (p1 = 0 ∨ p1 = 4) → post 0 (fT, fL, fK, fW, fB, fH, fO, aT, aL, aQ, aE, aG, aKQ, aKE, aKG, aW, aS, aM, aV, aZ, aB) := by
        intro z
        refine bad ?_
        rintro ⟨h | ⟨_, h, _⟩ | ⟨_, h, _⟩, _⟩
        · exact z h
        · exact h e
        · exact h e
      by_cases f0 : p1 = 0
      · exact br_t f0 (good (Or.inl (Or.inl f0)) c d)
      by_cases f4 : p1 = 4
      · exact br_f f0 (br_t f4 (good (Or.inl (Or.inr f4)) c d))
      exact br_f f0 (br_f f4 (br_t e (B (fun q => q.elim f0 f4))))
    · have n16 : (p1 = 1 ∨ p1 = 3) → wY_window_70 post (nI s) p1 p2 p3 p4 16 p2 fT fL fK fW fB fH fO aT aL aQ aE aG aKQ aKE aKG aW aS aM aV aZ aB := by
        intro hp
        by_cases g : p2 ≤ 16
        · exact br_t g (good (Or.inr (Or.inl ⟨hp, e, Int32.not_lt.mpr g⟩)) c d)
        · refine br_f g (bad ?_)
          rintro ⟨(h | h) | ⟨_, _, h⟩ | ⟨h | h, _⟩, _⟩
          · rcases hp with rfl | rfl <;> exact absurd h (by decide)
          · rcases hp with rfl | rfl <;> exact absurd h (by decide)
          · exact g (Int32.not_lt.mp h)
          · rcases hp with rfl | rfl <;> exact absurd h (by decide)
          · rcases hp with rfl | rfl <;> exact absurd h (by decide)
      have n100 : (p1 = 2 ∨ p1 = 5) → wY_window_63 post (nI s) p1 p2 p3 p4 p2 fT fL fK fW fB fH fO aT aL aQ aE aG aKQ aKE aKG aW aS aM aV aZ aB := by
        intro hp
        by_cases g : p2 ≤ 100
        · exact br_t g (good (Or.inr (Or.inr ⟨hp, e, Int32.not_lt.mpr g⟩)) c d)
        · refine br_f g (bad ?_)
          rintro ⟨(h | h) | ⟨h | h, _⟩ | ⟨_, _, h⟩, _⟩
          · rcases hp with rfl | rfl <;> exact absurd h (by decide)
          · rcases hp with rfl | rfl <;> exact absurd h (by decide)
          · rcases hp with rfl | rfl <;> exact absurd h (by decide)
          · rcases hp with rfl | rfl <;> exact absurd h (by decide)
          · exact g (Int32.not_lt.mp h)
      rcases ed_win_c a b with rfl | rfl | rfl | rfl | rfl | rfl
      · exact br_t rfl (good (Or.inl (Or.inl rfl)) c d)
      · exact br_f (by decide) (br_f (by decide) (br_f e (br_f (by decide) (br_f (by decide) (n16 (Or.inl rfl))))))
      · exact br_f (by decide) (br_f (by decide) (br_f e (br_t rfl (n100 (Or.inl rfl)))))
      · exact br_f (by decide) (br_f (by decide) (br_f e (br_f (by decide) (br_f (by decide) (n16 (Or.inr rfl))))))
      · exact br_f (by decide) (br_t rfl (good (Or.inl (Or.inr rfl)) c d))
      · exact br_f (by decide) (br_f (by decide) (br_f e (br_f (by decide) (br_t rfl (n100 (Or.inr rfl))))))
  · exact br_f a (br_f b (br_f c (br_f d (bad (fun q => d q.2.2)))))
end
end
section
/-! window, pattern, join -/
theorem ed_nI5 {p : Int32} (h0 : ¬ p < 0) (h5 : p ≤ 5) : ∃ j : Nat, j ≤ 5 ∧ p = nI j := nI_of2 (M := 5) (n := 5) (by decide) h0 h5
theorem ed_win_n {v n : Nat} {p : Int32} (h : ed_win (nI v) p) (hv : v ≤ 5) (h0 : v ≠ 0) (h4 : v ≠ 4) : ∃ n : Nat, 1 ≤ n ∧ n ≤ 100 ∧ p = nI n := by
  have k : ∀ M : Int32, M ≤ 100 → ¬ p < 1 → ¬ M < p → ∃ n : Nat, 1 ≤ n ∧ n ≤ 100 ∧ p = nI n := by
    intro M hM a b
    obtain ⟨j, hj, e⟩ := nI_of2 (x := p) (M := 100) (n := 100) (by decide) (fun q => a (Int32.lt_trans q (by decide))) (Int32.le_trans (Int32.not_lt.mp b) hM)
    refine ⟨j, ?_, hj, e⟩
    rcases Nat.eq_zero_or_pos j with q | q
    · subst q; rw [e] at a; exact absurd (by decide) a
    · exact q
  rcases h with (h | h) | ⟨_, a, b⟩ | ⟨_, a, b⟩
  · exact absurd ((nI_eq (b := 0) (by omega) (by omega)).mp h) h0
  · exact absurd ((nI_eq (b := 4) (by omega) (by omega)).mp h) h4
  · exact k 16 (by decide) a b
  · exact k 100 (by decide) a b
theorem i_vc_window {k : Nat} {u : SX} {v : SY} (I : i_Rel k u v) (hk : k + 6 ≤ 3072) (v1 : Int32) (v2 : Int32) (v3 : Int32) (v4 : Int32) (v5 : Int32) : wpX_window (fun r u' => wpY_window (fun r' v' => r' = r ∧ i_Rel (k + 6) u' v') v v1 v2 v3 v4 (lw_bz v5)) u v1 v2 v3 v4 (lw_bz v5) := by
  obtain ⟨xl, xw, xk, xP, xL, xF, xQ, xT, xA, xB, xC, xM, xG, kF, kQ, kT, kA, kB, kC, kM, kG, xS, xZ⟩ := u
  obtain ⟨fT, fL, fK, fW, fB, fH, fO, aT, aL, aQ, aE, aG, aKQ, aKE, aKG, aW, aS, aM, aV, aZ, aB⟩ := v
  have I' := i_up I
  obtain ⟨hP, ⟨l, hl, l1, l2, l3, l4⟩, hw, ⟨h, hC⟩, hK⟩ := I
  generalize lw_bz v5 = p4
  unfold wpX_window
  dsimp only
  rcases ed_slot v1 with hb | ⟨s, hs, rfl⟩
  · refine xb_isSlot0 hb (br_t rfl ?_)
    unfold wpY_window
    dsimp only
    exact yb_isSlot0 hb (br_t rfl ⟨rfl, I'⟩)
  refine xb_isSlot hs (br_f (by decide) ?_)
  by_cases z : l = 1
  rotate_left
  · have zx : ¬ xl = 1 := fun q => z (by rw [l1] at q; exact (nI_eq (b := 1) (by omega) (by omega)).mp q)
    have zy : ¬ fL = 1 := fun q => z (by rw [l2] at q; exact (nI_eq (b := 1) (by omega) (by omega)).mp q)
    refine br_f zx ?_
    unfold wpY_window
    dsimp only
    exact yb_isSlot hs (br_f (by decide) (br_f zy ⟨rfl, I'⟩))
  subst z
  have bad : ¬ (ed_win v2 v3 ∧ ¬ v4 < 0 ∧ v4 ≤ 5) → wpY_window (fun r' v' => r' = 0 ∧ i_Rel (k + 6) (xl, xw, xk, xP, xL, xF, xQ, xT, xA, xB, xC, xM, xG, kF, kQ, kT, kA, kB, kC, kM, kG, xS, xZ) v') (fT, fL, fK, fW, fB, fH, fO, aT, aL, aQ, aE, aG, aKQ, aKE, aKG, aW, aS, aM, aV, aZ, aB) (nI s) v2 v3 v4 p4 := fun q =>
    yb_window hs l2 (fun a b c => absurd ⟨a, b, c⟩ q) (fun _ => ⟨rfl, I'⟩)
  refine br_t l1 (xb_wsize (fun zw => br_f (by decide) ?_) (fun zw => br_t rfl (bad (fun q => zw q.1))))
  by_cases z0 : v4 < 0
  · exact br_t z0 (bad (fun q => q.2.1 z0))
  by_cases z5 : v4 ≤ 5
  rotate_left
  · exact br_f z0 (br_f z5 (bad (fun q => z5 q.2.2)))
  refine br_f z0 (br_t z5 (xs_set hs (fun q hq => nm_e ?_)))
  have w3 := ed_x s 3 hs (by omega)
  have w4 := ed_x s 4 hs (by omega)
  have w5 := ed_x s 5 hs (by omega)
  have c3 : (nI s * 99 + 3).toNatClampNeg = 99 * s + 3 := w3.2
  have c4 : (nI s * 99 + 4).toNatClampNeg = 99 * s + 4 := w4.2
  have c5 : (nI s * 99 + 5).toNatClampNeg = 99 * s + 5 := w5.2
  have y4 := ed_y s 4 hs (by omega)
  have d4 : (100 * nI s + 4).toNatClampNeg = 100 * s + 4 := y4.2
  obtain ⟨vw, hvw, rfl⟩ := ed_nI5 (ed_win_r zw).1 (Int32.not_lt.mp (ed_win_r zw).2)
  obtain ⟨to, hto, rfl⟩ := ed_nI5 z0 z5
  obtain ⟨x0, x1, x9, x10, x11, x12, x13, x14, x23, xc, xo⟩ := hq
  have f0 : xF 0 = nI h := hC.1.1
  have g0 : aG 0 = nI h := hC.1.2.1
  have fin : ∀ (gr : Nat) (r : Nat → Int32), gr ≤ 1 → ed_YS s 1 (nI vw) v3 (nI to) (aG 0) fL aL aQ r → i_Rel (k + 6) (0, xw, xk, xP, xL, xF, upd (upd (upd q (99 * s + 3) (nI vw)) (99 * s + 4) (nI to)) (99 * s + 5) (nI gr), xT, xA, xB, xC, xM, xG, kF, kQ, kT, kA, kB, kC, kM, kG, xS, xZ) (fT, 0, fK, fW, fB, fH, fO, aT, aL, upd r (100 * s + 4) (nI gr), aE, aG, aKQ, aKE, aKG, aW, aS, aM, aV, aZ, aB) := by
    intro gr r hgr hr
    obtain ⟨⟨y0, y1, y2, y3⟩, y6, y7, y8, y9, y10, y11, y20, yc, yo⟩ := hr
    refine ⟨hP, ⟨0, by omega, rfl, rfl, l3, fun w hw => absurd hw (Nat.not_lt_zero _)⟩, hw, ed_B_up (by omega) (ed_B_slot hs ?_ ?_ ?_ hC), ed_K_up (by omega) hK⟩
    · intro j _ hj; simp (disch := omega) only [pk_us, pk_un]; exact xo j hj
    · intro j _ hj; simp (disch := omega) only [pk_us, pk_un]; exact yo j hj
    · refine ed_Q_new (l := 1) (xL := xL) (aL := aL) (by omega) ?_ ?_ ?_ ?_ ?_ ?_ ?_ ?_ ?_ ?_ ?_ ?_ ?_ ?_ ?_ ?_ l3 l4 ?_ (Or.inl ⟨?_, rfl, vw, to, gr, hvw, hto, hgr, ?_, ?_, ?_, ?_, ?_, ?_, ?_, ?_⟩)
      · (try dsimp only); simp (disch := omega) only [pk_us, pk_un]; exact x9
      · (try dsimp only); simp (disch := omega) only [pk_us, pk_un]; exact x10
      · (try dsimp only); simp (disch := omega) only [pk_us, pk_un]; exact x11
      · (try dsimp only); simp (disch := omega) only [pk_us, pk_un]; exact x12.trans f0
      · (try dsimp only); simp (disch := omega) only [pk_us, pk_un]; exact x13
      · (try dsimp only); simp (disch := omega) only [pk_us, pk_un]; exact x14
      · (try dsimp only); simp (disch := omega) only [pk_us, pk_un]; exact x23.trans l1
      · intro j hj; (try dsimp only); simp (disch := omega) only [pk_us, pk_un]; rw [← Nat.add_assoc]; exact xc j hj
      · (try dsimp only); simp (disch := omega) only [pk_us, pk_un]; exact y6
      · (try dsimp only); simp (disch := omega) only [pk_us, pk_un]; exact y7
      · (try dsimp only); simp (disch := omega) only [pk_us, pk_un]; exact y8
      · (try dsimp only); simp (disch := omega) only [pk_us, pk_un]; exact y9.trans g0
      · (try dsimp only); simp (disch := omega) only [pk_us, pk_un]; exact y10
      · (try dsimp only); simp (disch := omega) only [pk_us, pk_un]; exact y11
      · (try dsimp only); simp (disch := omega) only [pk_us, pk_un]; exact y20.trans l2
      · intro j hj; (try dsimp only); simp (disch := omega) only [pk_us, pk_un]; rw [← Nat.add_assoc]; exact yc j hj
      · (try dsimp only); simp (disch := omega) only [pk_us, pk_un]; exact x0.trans y0.symm
      · (try dsimp only); simp (disch := omega) only [pk_us, pk_un]; exact x0
      · (try dsimp only); simp (disch := omega) only [pk_us, pk_un]
      · (try dsimp only); simp (disch := omega) only [pk_us, pk_un]; exact y1
      · (try dsimp only); simp (disch := omega) only [pk_us, pk_un]; exact x1.trans y2.symm
      · intro h1 h2; (try dsimp only); simp (disch := omega) only [pk_us, pk_un]; rw [x1]; exact ed_win_n (n := 0) zw hvw h1 h2
      · (try dsimp only); simp (disch := omega) only [pk_us, pk_un]
      · (try dsimp only); simp (disch := omega) only [pk_us, pk_un]; exact y3
      · (try dsimp only); simp (disch := omega) only [pk_us, pk_un]
      · (try dsimp only); simp (disch := omega) only [pk_us, pk_un]
  refine ⟨w3.1, nm_e ⟨w4.1, nm_e ?_⟩⟩
  rw [c3, c4, c5]
  by_cases z4 : p4 = 0
  · refine br_t z4 ⟨w5.1, nm_e (yb_window hs l2 (fun _ _ _ => ys_set hs (fun r hr => br_t z4 ⟨y4.1, nm_e ⟨rfl, ?_⟩⟩)) (fun q => absurd ⟨zw, z0, z5⟩ q))⟩
    rw [d4]
    exact fin 0 r (by omega) hr
  · refine br_f z4 ⟨w5.1, nm_e (yb_window hs l2 (fun _ _ _ => ys_set hs (fun r hr => br_f z4 ⟨y4.1, nm_e ⟨rfl, ?_⟩⟩)) (fun q => absurd ⟨zw, z0, z5⟩ q))⟩
    rw [d4]
    exact fin 1 r (by omega) hr
theorem i_vc_pattern {k : Nat} {u : SX} {v : SY} (I : i_Rel k u v) (hk : k + 6 ≤ 3072) (v1 : Int32) (v2 : Int32) (v3 : Int32) (v4 : Int32) (v5 : Int32) : wpX_pattern (fun r u' => wpY_pattern (fun r' v' => r' = r ∧ i_Rel (k + 6) u' v') v v1 v2 v3 (lw_bz v4) (lw_bz v5)) u v1 v2 v3 (lw_bz v4) (lw_bz v5) := by
  obtain ⟨xl, xw, xk, xP, xL, xF, xQ, xT, xA, xB, xC, xM, xG, kF, kQ, kT, kA, kB, kC, kM, kG, xS, xZ⟩ := u
  obtain ⟨fT, fL, fK, fW, fB, fH, fO, aT, aL, aQ, aE, aG, aKQ, aKE, aKG, aW, aS, aM, aV, aZ, aB⟩ := v
  have I' := i_up I
  obtain ⟨hP, ⟨l, hl, l1, l2, l3, l4⟩, hw, ⟨h, hC⟩, hK⟩ := I
  generalize lw_bz v4 = p3
  generalize lw_bz v5 = p4
  unfold wpX_pattern
  dsimp only
  rcases ed_slot v1 with hb | ⟨s, hs, rfl⟩
  · refine xb_isSlot0 hb (br_t rfl ?_)
    unfold wpY_pattern
    dsimp only
    exact yb_isSlot0 hb (br_t rfl ⟨rfl, I'⟩)
  refine xb_isSlot hs (br_f (by decide) ?_)
  have Y : ∀ A : Int32 → SY → Prop, ((fL < 2 → A 0 (fT, fL, fK, fW, fB, fH, fO, aT, aL, aQ, aE, aG, aKQ, aKE, aKG, aW, aS, aM, aV, aZ, aB)) ∧ (¬ fL < 2 → ((v2 < 1 → A 0 (fT, fL, fK, fW, fB, fH, fO, aT, aL, aQ, aE, aG, aKQ, aKE, aKG, aW, aS, aM, aV, aZ, aB)) ∧ (¬ v2 < 1 → ((1000 < v2 → A 0 (fT, fL, fK, fW, fB, fH, fO, aT, aL, aQ, aE, aG, aKQ, aKE, aKG, aW, aS, aM, aV, aZ, aB)) ∧ (¬ 1000 < v2 → ((v3 < 0 → A 0 (fT, fL, fK, fW, fB, fH, fO, aT, aL, aQ, aE, aG, aKQ, aKE, aKG, aW, aS, aM, aV, aZ, aB)) ∧ (¬ v3 < 0 → ((v3 ≤ 4 → ((p3 = 0 → wY_pattern_54 A (nI s) p4 0 v3 v2 2 (nI s) fT fL fK fW fB fH fO aT aL aQ aE aG aKQ aKE aKG aW aS aM aV aZ aB) ∧ (¬ p3 = 0 → wY_pattern_54 A (nI s) p4 1 v3 v2 2 (nI s) fT fL fK fW fB fH fO aT aL aQ aE aG aKQ aKE aKG aW aS aM aV aZ aB))) ∧ (¬ v3 ≤ 4 → A 0 (fT, fL, fK, fW, fB, fH, fO, aT, aL, aQ, aE, aG, aKQ, aKE, aKG, aW, aS, aM, aV, aZ, aB))))))))))) → wpY_pattern A (fT, fL, fK, fW, fB, fH, fO, aT, aL, aQ, aE, aG, aKQ, aKE, aKG, aW, aS, aM, aV, aZ, aB) (nI s) v2 v3 p3 p4 := by
    intro A H
    unfold wpY_pattern
    dsimp only
    exact yb_isSlot hs (br_f (by decide) H)
  by_cases z : l < 2
  · have zx : xl < 2 := by rw [l1]; exact nI_lt (b := 2) z (by omega)
    have zy : fL < 2 := by rw [l2]; exact nI_lt (b := 2) z (by omega)
    exact br_t zx (Y _ (br_t zy ⟨rfl, I'⟩))
  have zx : ¬ xl < 2 := by rw [l1]; exact nI_nlt (b := 2) (by omega) (by omega)
  have zy : ¬ fL < 2 := by rw [l2]; exact nI_nlt (b := 2) (by omega) (by omega)
  refine br_f zx ?_
  by_cases z1 : v2 < 1
  · exact br_t z1 (Y _ (br_f zy (br_t z1 ⟨rfl, I'⟩)))
  by_cases z2 : 1000 < v2
  · exact br_f z1 (br_t z2 (Y _ (br_f zy (br_f z1 (br_t z2 ⟨rfl, I'⟩)))))
  by_cases z3 : v3 < 0
  · exact br_f z1 (br_f z2 (br_t z3 (Y _ (br_f zy (br_f z1 (br_f z2 (br_t z3 ⟨rfl, I'⟩)))))))
  by_cases z4 : v3 ≤ 4
  rotate_left
  · exact br_f z1 (br_f z2 (br_f z3 (br_f z4 (Y _ (br_f zy (br_f z1 (br_f z2 (br_f z3 (br_f z4 ⟨rfl, I'⟩)))))))))
  refine br_f z1 (br_f z2 (br_f z3 (br_t z4 (xs_set hs (fun q hq => nm_e ?_)))))
  have w6 := ed_x s 6 hs (by omega)
  have w7 := ed_x s 7 hs (by omega)
  have w8 := ed_x s 8 hs (by omega)
  have c6 : (nI s * 99 + 6).toNatClampNeg = 99 * s + 6 := w6.2
  have c7 : (nI s * 99 + 7).toNatClampNeg = 99 * s + 7 := w7.2
  have c8 : (nI s * 99 + 8).toNatClampNeg = 99 * s + 8 := w8.2
  have y4 := ed_y s 4 hs (by omega)
  have d4 : (100 * nI s + 4).toNatClampNeg = 100 * s + 4 := y4.2
  obtain ⟨x0, x1, x9, x10, x11, x12, x13, x14, x23, xc, xo⟩ := hq
  have f0 : xF 0 = nI h := hC.1.1
  have g0 : aG 0 = nI h := hC.1.2.1
  have fin : ∀ (eq on : Nat) (r : Nat → Int32), eq ≤ 1 → on ≤ 1 → ed_YS s 2 v2 v3 (nI eq) (aG 0) fL aL aQ r → i_Rel (k + 6) (0, xw, xk, xP, xL, xF, upd (upd (upd q (99 * s + 6) v3) (99 * s + 7) (nI eq)) (99 * s + 8) (nI on), xT, xA, xB, xC, xM, xG, kF, kQ, kT, kA, kB, kC, kM, kG, xS, xZ) (fT, 0, fK, fW, fB, fH, fO, aT, aL, upd r (100 * s + 4) (nI on), aE, aG, aKQ, aKE, aKG, aW, aS, aM, aV, aZ, aB) := by
    intro eq on r heq hon hr
    obtain ⟨⟨y0, y1, y2, y3⟩, y6, y7, y8, y9, y10, y11, y20, yc, yo⟩ := hr
    refine ⟨hP, ⟨0, by omega, rfl, rfl, l3, fun w hw => absurd hw (Nat.not_lt_zero _)⟩, hw, ed_B_up (by omega) (ed_B_slot hs ?_ ?_ ?_ hC), ed_K_up (by omega) hK⟩
    · intro j _ hj; simp (disch := omega) only [pk_us, pk_un]; exact xo j hj
    · intro j _ hj; simp (disch := omega) only [pk_us, pk_un]; exact yo j hj
    · refine ed_Q_new (l := l) (xL := xL) (aL := aL) hl ?_ ?_ ?_ ?_ ?_ ?_ ?_ ?_ ?_ ?_ ?_ ?_ ?_ ?_ ?_ ?_ l3 l4 ?_ (Or.inr (Or.inl ⟨?_, by omega, eq, on, heq, hon, ?_, ?_, ?_, ?_, ?_, ?_, fun i h1 h2 => by omega⟩))
      · (try dsimp only); simp (disch := omega) only [pk_us, pk_un]; exact x9
      · (try dsimp only); simp (disch := omega) only [pk_us, pk_un]; exact x10
      · (try dsimp only); simp (disch := omega) only [pk_us, pk_un]; exact x11
      · (try dsimp only); simp (disch := omega) only [pk_us, pk_un]; exact x12.trans f0
      · (try dsimp only); simp (disch := omega) only [pk_us, pk_un]; exact x13
      · (try dsimp only); simp (disch := omega) only [pk_us, pk_un]; exact x14
      · (try dsimp only); simp (disch := omega) only [pk_us, pk_un]; exact x23.trans l1
      · intro j hj; (try dsimp only); simp (disch := omega) only [pk_us, pk_un]; rw [← Nat.add_assoc]; exact xc j hj
      · (try dsimp only); simp (disch := omega) only [pk_us, pk_un]; exact y6
      · (try dsimp only); simp (disch := omega) only [pk_us, pk_un]; exact y7
      · (try dsimp only); simp (disch := omega) only [pk_us, pk_un]; exact y8
      · (try dsimp only); simp (disch := omega) only [pk_us, pk_un]; exact y9.trans g0
      · (try dsimp only); simp (disch := omega) only [pk_us, pk_un]; exact y10
      · (try dsimp only); simp (disch := omega) only [pk_us, pk_un]; exact y11
      · (try dsimp only); simp (disch := omega) only [pk_us, pk_un]; exact y20.trans l2
      · intro j hj; (try dsimp only); simp (disch := omega) only [pk_us, pk_un]; rw [← Nat.add_assoc]; exact yc j hj
      · (try dsimp only); simp (disch := omega) only [pk_us, pk_un]; exact x0.trans y0.symm
      · (try dsimp only); simp (disch := omega) only [pk_us, pk_un]; exact x0
      · (try dsimp only); simp (disch := omega) only [pk_us, pk_un]; exact x1.trans y1.symm
      · (try dsimp only); simp (disch := omega) only [pk_us, pk_un]; exact y2.symm
      · (try dsimp only); simp (disch := omega) only [pk_us, pk_un]
      · (try dsimp only); simp (disch := omega) only [pk_us, pk_un]; exact y3
      · (try dsimp only); simp (disch := omega) only [pk_us, pk_un]
      · (try dsimp only); simp (disch := omega) only [pk_us, pk_un]
  have X81 : ∀ (eq : Nat) (A : Int32 → SX → Prop), ((p4 = 0 → A 1 (0, xw, xk, xP, xL, xF, upd (upd (upd q (99 * s + 6) v3) (99 * s + 7) (nI eq)) (99 * s + 8) 0, xT, xA, xB, xC, xM, xG, kF, kQ, kT, kA, kB, kC, kM, kG, xS, xZ)) ∧ (¬ p4 = 0 → A 1 (0, xw, xk, xP, xL, xF, upd (upd (upd q (99 * s + 6) v3) (99 * s + 7) (nI eq)) (99 * s + 8) 1, xT, xA, xB, xC, xM, xG, kF, kQ, kT, kA, kB, kC, kM, kG, xS, xZ))) → wX_pattern_81 A p4 (nI s * 99) (nI eq) (nI s * 99 + 7) 0 xw xk xP xL xF (upd q (99 * s + 6) v3) xT xA xB xC xM xG kF kQ kT kA kB kC kM kG xS xZ := by
    intro eq A H
    unfold wX_pattern_81
    rw [c7, c8]
    exact ⟨w7.1, nm_e ⟨fun a => ⟨w8.1, nm_e (H.1 a)⟩, fun a => ⟨w8.1, nm_e (H.2 a)⟩⟩⟩
  have Y54 : ∀ (eq : Nat) (A : Int32 → SY → Prop), (∀ r, ed_YS s 2 v2 v3 (nI eq) (aG 0) fL aL aQ r → ((p4 = 0 → A 1 (fT, 0, fK, fW, fB, fH, fO, aT, aL, upd r (100 * s + 4) 0, aE, aG, aKQ, aKE, aKG, aW, aS, aM, aV, aZ, aB)) ∧ (¬ p4 = 0 → A 1 (fT, 0, fK, fW, fB, fH, fO, aT, aL, upd r (100 * s + 4) 1, aE, aG, aKQ, aKE, aKG, aW, aS, aM, aV, aZ, aB)))) → wY_pattern_54 A (nI s) p4 (nI eq) v3 v2 2 (nI s) fT fL fK fW fB fH fO aT aL aQ aE aG aKQ aKE aKG aW aS aM aV aZ aB := by
    intro eq A H
    unfold wY_pattern_54
    refine ys_set hs (fun r hr => ?_)
    rw [d4]
    exact ⟨fun a => ⟨y4.1, nm_e ((H r hr).1 a)⟩, fun a => ⟨y4.1, nm_e ((H r hr).2 a)⟩⟩
  have YY : ∀ A : Int32 → SY → Prop, ((p3 = 0 → wY_pattern_54 A (nI s) p4 0 v3 v2 2 (nI s) fT fL fK fW fB fH fO aT aL aQ aE aG aKQ aKE aKG aW aS aM aV aZ aB) ∧ (¬ p3 = 0 → wY_pattern_54 A (nI s) p4 1 v3 v2 2 (nI s) fT fL fK fW fB fH fO aT aL aQ aE aG aKQ aKE aKG aW aS aM aV aZ aB)) → wpY_pattern A (fT, fL, fK, fW, fB, fH, fO, aT, aL, aQ, aE, aG, aKQ, aKE, aKG, aW, aS, aM, aV, aZ, aB) (nI s) v2 v3 p3 p4 := fun A H => Y A (br_f zy (br_f z1 (br_f z2 (br_f z3 (br_t z4 H)))))
  refine ⟨w6.1, nm_e ?_⟩
  rw [c6]
  by_cases a : p3 = 0
  · refine br_t a (X81 0 _ ⟨fun b => YY _ (br_t a (Y54 0 _ (fun r hr => br_t b ⟨rfl, fin 0 0 r (by omega) (by omega) hr⟩))), fun b => YY _ (br_t a (Y54 0 _ (fun r hr => br_f b ⟨rfl, fin 0 1 r (by omega) (by omega) hr⟩)))⟩)
  · refine br_f a (X81 1 _ ⟨fun b => YY _ (br_f a (Y54 1 _ (fun r hr => br_t b ⟨rfl, fin 1 0 r (by omega) (by omega) hr⟩))), fun b => YY _ (br_f a (Y54 1 _ (fun r hr => br_f b ⟨rfl, fin 1 1 r (by omega) (by omega) hr⟩)))⟩)
theorem ed_16 {p : Int32} (h1 : ¬ p < 1) (h : p ≤ 16) : ∃ j : Nat, 1 ≤ j ∧ j ≤ 16 ∧ p = nI j := by
  obtain ⟨j, hj, e⟩ := nI_of2 (x := p) (M := 16) (n := 16) (by decide) (fun q => h1 (Int32.lt_trans q (by decide))) h
  refine ⟨j, ?_, hj, e⟩
  rcases Nat.eq_zero_or_pos j with q | q
  · subst q; rw [e] at h1; exact absurd (by decide) h1
  · exact q
theorem i_vc_join {k : Nat} {u : SX} {v : SY} (I : i_Rel k u v) (hk : k + 6 ≤ 3072) (v1 : Int32) (v2 : Int32) (v3 : Int32) : wpX_join (fun r u' => wpY_join (fun r' v' => r' = r ∧ i_Rel (k + 6) u' v') v v1 v2 v3) u v1 v2 v3 := by
  obtain ⟨xl, xw, xk, xP, xL, xF, xQ, xT, xA, xB, xC, xM, xG, kF, kQ, kT, kA, kB, kC, kM, kG, xS, xZ⟩ := u
  obtain ⟨fT, fL, fK, fW, fB, fH, fO, aT, aL, aQ, aE, aG, aKQ, aKE, aKG, aW, aS, aM, aV, aZ, aB⟩ := v
  have I' := i_up I
  obtain ⟨hP, ⟨l, hl, l1, l2, l3, l4⟩, hw, ⟨h, hC⟩, hK⟩ := I
  unfold wpX_join
  dsimp only
  rcases ed_slot v1 with hb | ⟨s, hs, rfl⟩
  · refine xb_isSlot0 hb (br_t rfl ?_)
    unfold wpY_join
    dsimp only
    exact yb_isSlot0 hb (br_t rfl ⟨rfl, I'⟩)
  refine xb_isSlot hs (br_f (by decide) ?_)
  have Y : ∀ A : Int32 → SY → Prop, ((fL = 2 → ((v2 < 1 → A 0 (fT, fL, fK, fW, fB, fH, fO, aT, aL, aQ, aE, aG, aKQ, aKE, aKG, aW, aS, aM, aV, aZ, aB)) ∧ (¬ v2 < 1 → ((16 < v2 → A 0 (fT, fL, fK, fW, fB, fH, fO, aT, aL, aQ, aE, aG, aKQ, aKE, aKG, aW, aS, aM, aV, aZ, aB)) ∧ (¬ 16 < v2 → ((v3 < 1 → A 0 (fT, fL, fK, fW, fB, fH, fO, aT, aL, aQ, aE, aG, aKQ, aKE, aKG, aW, aS, aM, aV, aZ, aB)) ∧ (¬ v3 < 1 → ((v3 ≤ 16 → ∀ r, ed_YS s 3 v2 v3 0 (aG 0) fL aL aQ r → A 1 (fT, 0, fK, fW, fB, fH, fO, aT, aL, r, aE, aG, aKQ, aKE, aKG, aW, aS, aM, aV, aZ, aB)) ∧ (¬ v3 ≤ 16 → A 0 (fT, fL, fK, fW, fB, fH, fO, aT, aL, aQ, aE, aG, aKQ, aKE, aKG, aW, aS, aM, aV, aZ, aB)))))))))) ∧ (¬ fL = 2 → A 0 (fT, fL, fK, fW, fB, fH, fO, aT, aL, aQ, aE, aG, aKQ, aKE, aKG, aW, aS, aM, aV, aZ, aB))) → wpY_join A (fT, fL, fK, fW, fB, fH, fO, aT, aL, aQ, aE, aG, aKQ, aKE, aKG, aW, aS, aM, aV, aZ, aB) (nI s) v2 v3 := by
    intro A H
    unfold wpY_join
    dsimp only
    exact yb_isSlot hs (br_f (by decide) ⟨fun a => ⟨(H.1 a).1, fun b => ⟨((H.1 a).2 b).1, fun c => ⟨(((H.1 a).2 b).2 c).1, fun d => ⟨fun e => ys_set hs (((((H.1 a).2 b).2 c).2 d).1 e), ((((H.1 a).2 b).2 c).2 d).2⟩⟩⟩⟩, H.2⟩)
  by_cases z : l = 2
  rotate_left
  · have zx : ¬ xl = 2 := fun q => z (by rw [l1] at q; exact (nI_eq (b := 2) (by omega) (by omega)).mp q)
    have zy : ¬ fL = 2 := fun q => z (by rw [l2] at q; exact (nI_eq (b := 2) (by omega) (by omega)).mp q)
    exact br_f zx (Y _ (br_f zy ⟨rfl, I'⟩))
  subst z
  refine br_t l1 ?_
  by_cases z1 : v2 < 1
  · exact br_t z1 (Y _ (br_t l2 (br_t z1 ⟨rfl, I'⟩)))
  by_cases z2 : 16 < v2
  · exact br_f z1 (br_t z2 (Y _ (br_t l2 (br_f z1 (br_t z2 ⟨rfl, I'⟩)))))
  by_cases z3 : v3 < 1
  · exact br_f z1 (br_f z2 (br_t z3 (Y _ (br_t l2 (br_f z1 (br_f z2 (br_t z3 ⟨rfl, I'⟩)))))))
  by_cases z4 : v3 ≤ 16
  rotate_left
  · exact br_f z1 (br_f z2 (br_f z3 (br_f z4 (Y _ (br_t l2 (br_f z1 (br_f z2 (br_f z3 (br_f z4 ⟨rfl, I'⟩)))))))))
  have w2 := ed_x s 2 hs (by omega)
  have c2 : (nI s * 99 + 2).toNatClampNeg = 99 * s + 2 := w2.2
  have f0 : xF 0 = nI h := hC.1.1
  have g0 : aG 0 = nI h := hC.1.2.1
  have fin : ∀ q r : Nat → Int32, ed_XS s 3 v2 (xF 0) xl xL xQ q → ed_YS s 3 v2 v3 0 (aG 0) fL aL aQ r → i_Rel (k + 6) (0, xw, xk, xP, xL, xF, upd q (99 * s + 2) v3, xT, xA, xB, xC, xM, xG, kF, kQ, kT, kA, kB, kC, kM, kG, xS, xZ) (fT, 0, fK, fW, fB, fH, fO, aT, aL, r, aE, aG, aKQ, aKE, aKG, aW, aS, aM, aV, aZ, aB) := by
    intro q r hq hr
    obtain ⟨x0, x1, x9, x10, x11, x12, x13, x14, x23, xc, xo⟩ := hq
    obtain ⟨⟨y0, y1, y2, y3⟩, y6, y7, y8, y9, y10, y11, y20, yc, yo⟩ := hr
    refine ⟨hP, ⟨0, by omega, rfl, rfl, l3, fun w hw => absurd hw (Nat.not_lt_zero _)⟩, hw, ed_B_up (by omega) (ed_B_slot hs ?_ ?_ ?_ hC), ed_K_up (by omega) hK⟩
    · intro j _ hj; simp (disch := omega) only [pk_us, pk_un]; exact xo j hj
    · intro j _ hj; exact yo j hj
    · obtain ⟨n, n1, n16, rfl⟩ := ed_16 z1 (Int32.not_lt.mp z2)
      obtain ⟨m, m1, m16, rfl⟩ := ed_16 z3 z4
      refine ed_Q_new (l := 2) (xL := xL) (aL := aL) (by omega) ?_ ?_ ?_ ?_ ?_ ?_ ?_ ?_ y6 y7 y8 (y9.trans g0) y10 y11 (y20.trans l2) ?_ l3 l4 ?_ (Or.inr (Or.inr ⟨?_, rfl, n, m, n1, n16, m1, m16, ?_, y1, ?_, y2⟩))
      · (try dsimp only); simp (disch := omega) only [pk_us, pk_un]; exact x9
      · (try dsimp only); simp (disch := omega) only [pk_us, pk_un]; exact x10
      · (try dsimp only); simp (disch := omega) only [pk_us, pk_un]; exact x11
      · (try dsimp only); simp (disch := omega) only [pk_us, pk_un]; exact x12.trans f0
      · (try dsimp only); simp (disch := omega) only [pk_us, pk_un]; exact x13
      · (try dsimp only); simp (disch := omega) only [pk_us, pk_un]; exact x14
      · (try dsimp only); simp (disch := omega) only [pk_us, pk_un]; exact x23.trans l1
      · intro j hj; (try dsimp only); simp (disch := omega) only [pk_us, pk_un]; rw [← Nat.add_assoc]; exact xc j hj
      · intro j hj; (try dsimp only); rw [← Nat.add_assoc]; exact yc j hj
      · (try dsimp only); simp (disch := omega) only [pk_us, pk_un]; exact x0.trans y0.symm
      · (try dsimp only); simp (disch := omega) only [pk_us, pk_un]; exact x0
      · (try dsimp only); simp (disch := omega) only [pk_us, pk_un]; exact x1
      · (try dsimp only); simp (disch := omega) only [pk_us, pk_un]
  refine br_f z1 (br_f z2 (br_f z3 (br_t z4 (xs_set hs (fun q hq => ⟨w2.1, nm_e ?_⟩)))))
  rw [c2]
  exact Y _ (br_t l2 (br_f z1 (br_f z2 (br_f z3 (br_t z4 (fun r hr => ⟨rfl, fin q r hq hr⟩))))))
end
section
/-! clear -/
theorem ed_Q_clear {hs hi : Nat} {lx ly lx' ly' ty a b t ty' a' b' t' : Nat → Int32} {mb mb' : Nat → Nat → Bool} {gb gb' : Nat → Bool} (e1 : ∀ j, j < 99 → (j ≤ 11 ∨ 15 ≤ j) → lx' j = lx j) (x12 : lx' 12 = 0) (x13 : lx' 13 = 0) (x14 : lx' 14 = 0) (e2 : ∀ j, j < 100 → (j ≤ 8 ∨ 20 ≤ j) → ly' j = ly j) (y9 : ly' 9 = 0) (y10 : ly' 10 = 0) (y11 : ly' 11 = 0) (h : ed_Q hs hi lx ly ty a b t mb gb) : ed_Q 0 0 lx' ly' ty' a' b' t' mb' gb' := by
  obtain ⟨h0, h⟩ := h
  have g0 : lx' 0 = lx 0 := e1 0 (by omega) (by omega)
  refine ⟨(g0.trans h0).trans (e2 0 (by omega) (by omega)).symm, ?_⟩
  rcases h with h | ⟨f, g, c, r, ⟨hf, hg, hr1, hr8, hc⟩, ⟨n12, n14, n23, n10⟩, ⟨q9, q10, q11, q12, q13, q14, q23, qc⟩, ho, hv, hm, hz, hq⟩
  · exact Or.inl (g0.trans h)
  have sx : ∀ w, w < 3 → ∀ j, j < 25 → lx' (24 + 25 * w + j) = lx (24 + 25 * w + j) := fun w hw j hj => e1 _ (by omega) (by omega)
  have sy : ∀ w, w < 3 → ∀ j, j < 25 → ly' (24 + 25 * w + j) = ly (24 + 25 * w + j) := fun w hw j hj => e2 _ (by omega) (by omega)
  refine Or.inr ⟨0, 0, c, r, ⟨Nat.le_refl _, Nat.le_refl _, hr1, hr8, hc⟩, ⟨x12, x14, (e1 23 (by omega) (by omega)).trans n23, (e1 10 (by omega) (by omega)).trans n10⟩, ⟨?_, ?_, ?_, x12.trans y9.symm, x13.trans y10.symm, x14.trans y11.symm, ?_, fun w hw => ed_ce_cg (qc w hw) (sx w hw) (sy w hw)⟩, fun j _ hj => absurd hj (Nat.not_lt_zero _), fun w hw => ed_cv_cg (hv w hw) (sx w (by omega)), fun i w _ h2 _ => absurd h2 (Nat.not_lt_zero _), fun i _ h2 => absurd h2 (Nat.not_lt_zero _), ?_⟩
  · rw [e1 9 (by omega) (by omega), e2 6 (by omega) (by omega)]; exact q9
  · rw [e1 10 (by omega) (by omega), e2 7 (by omega) (by omega)]; exact q10
  · rw [e1 11 (by omega) (by omega), e2 8 (by omega) (by omega)]; exact q11
  · rw [e1 23 (by omega) (by omega), e2 20 (by omega) (by omega)]; exact q23
  · rcases hq with hq | hq | hq
    · refine Or.inl ?_
      unfold ed_Qw
      rw [g0, e1 1 (by omega) (by omega), e1 3 (by omega) (by omega), e1 4 (by omega) (by omega), e1 5 (by omega) (by omega), e2 1 (by omega) (by omega), e2 2 (by omega) (by omega), e2 3 (by omega) (by omega), e2 4 (by omega) (by omega)]
      exact hq
    · refine Or.inr (Or.inl ?_)
      unfold ed_Qp
      rw [g0, e1 1 (by omega) (by omega), e1 6 (by omega) (by omega), e1 7 (by omega) (by omega), e1 8 (by omega) (by omega), e2 1 (by omega) (by omega), e2 2 (by omega) (by omega), e2 3 (by omega) (by omega), e2 4 (by omega) (by omega)]
      obtain ⟨z0, zc, eq, on, z1, z2, z3, z4, z5, z6, z7, z8, zb⟩ := hq
      exact ⟨z0, zc, eq, on, z1, z2, z3, z4, z5, z6, z7, z8, fun i _ h2 => absurd h2 (Nat.not_lt_zero _)⟩
    · refine Or.inr (Or.inr ?_)
      unfold ed_Qj
      rw [g0, e1 1 (by omega) (by omega), e1 2 (by omega) (by omega), e2 1 (by omega) (by omega), e2 2 (by omega) (by omega)]
      exact hq
def ed_XZ (n : Nat) (q0 q : Nat → Int32) : Prop :=
  (∀ s, s < n → q (99 * s + 12) = 0 ∧ q (99 * s + 13) = 0 ∧ q (99 * s + 14) = 0) ∧ (∀ s j, s < 6 → j < 99 → (n ≤ s ∨ j ≤ 11 ∨ 15 ≤ j) → q (99 * s + j) = q0 (99 * s + j))
def ed_YZ (n d : Nat) (q0 q : Nat → Int32) : Prop :=
  (∀ s j, s < 6 → 9 ≤ j → j < 20 → (s < n ∨ (s = n ∧ j < d)) → q (100 * s + j) = 0) ∧ (∀ s j, s < 6 → j < 100 → (j ≤ 8 ∨ 20 ≤ j) → q (100 * s + j) = q0 (100 * s + j))
section
variable {xl xw xk : Int32} {xP xL xF xQ xT xA xB xC xM xG kF kQ kT kA kB kC kM kG xS xZ : Nat → Int32}
variable {fT fL fK fW fB fH fO : Int32} {aT aL aQ aE aG aKQ aKE aKG aW aS aM aV aZ aB : Nat → Int32}
theorem xv_clear {post : Int32 → SX → Prop} (h : ∀ f q : Nat → Int32, (∀ j, j < 4 → f j = 0) → ed_XZ 6 xQ q → post (xF 0) (xl, xw, xk, xP, xL, f, q, xT, xA, xB, xC, xM, xG, kF, kQ, kT, kA, kB, kC, kM, kG, xS, xZ)) : wpX_clear post (xl, xw, xk, xP, xL, xF, xQ, xT, xA, xB, xC, xM, xG, kF, kQ, kT, kA, kB, kC, kM, kG, xS, xZ) := by
  have k29 : ∀ (f : Nat → Int32), (∀ j, j < 4 → f j = 0) → ∀ (m i : Nat) (q : Nat → Int32), i + m = 6 → ed_XZ i xQ q → wX_clear_29 post (xF 0) (m + 1) (nI i) xl xw xk xP xL f q xT xA xB xC xM xG kF kQ kT kA kB kC kM kG xS xZ := by
    intro f hf m
    induction m with
    | zero =>
      intro i q hi hq
      have e : i = 6 := by omega
      subst e
      exact br_t (nI_le (a := 6) (b := 6) (Nat.le_refl _) (by omega)) (h f q hf hq)
    | succ m ih =>
      intro i q hi hq
      refine br_f (nI_ge (b := 6) (by omega) (by omega)) (xb_see (by omega) (nm_r (nI_1 i) (ih (i + 1) _ (by omega) ⟨?_, ?_⟩)))
      · intro s hs
        rw [hf 0 (by omega)]
        by_cases e : s = i
        · subst e; simp (disch := omega) only [pk_us, pk_un]; exact ⟨trivial, trivial, trivial⟩
        · simp (disch := omega) only [pk_us, pk_un]; exact hq.1 s (by omega)
      · intro s j hs hj hc
        by_cases e : s = i
        · subst e; simp (disch := omega) only [pk_us, pk_un]; exact hq.2 s j hs hj (by omega)
        · simp (disch := omega) only [pk_us, pk_un]; exact hq.2 s j hs hj (by omega)
  have k9 : ∀ (m i : Nat) (f : Nat → Int32), i + m = 4 → (∀ j, j < i → f j = 0) → wX_clear_9 post (xF 0) xl xw xk (m + 1) (nI i) xP xL f xQ xT xA xB xC xM xG kF kQ kT kA kB kC kM kG xS xZ := by
    intro m
    induction m with
    | zero =>
      intro i f hi hf
      have e : i = 4 := by omega
      subst e
      exact br_t (nI_le (a := 4) (b := 4) (Nat.le_refl _) (by omega)) ⟨7, k29 f hf 6 0 xQ (by omega) ⟨fun s hs => absurd hs (Nat.not_lt_zero _), fun _ _ _ _ _ => rfl⟩⟩
    | succ m ih =>
      intro i f hi hf
      refine br_f (nI_ge (b := 4) (by omega) (by omega)) ⟨vp_in_nI (by omega) (by omega), nm_r (e' := upd f i 0) (by rw [nI_clamp (by omega)]) (nm_r (nI_1 i) (ih (i + 1) _ (by omega) ?_))⟩
      intro j hj
      by_cases e : j = i
      · subst e; rw [pk_us]
      · rw [pk_un (by omega)]; exact hf j (by omega)
  exact nm_e ⟨5, k9 4 0 xF (by omega) (fun j hj => absurd hj (Nat.not_lt_zero _))⟩
theorem yv_clear {post : Int32 → SY → Prop} (h : ∀ g q : Nat → Int32, (∀ j, j < 4 → g j = 0) → ed_YZ 6 9 aQ q → post (aG 0) (fT, fL, fK, fW, fB, fH, fO, aT, aL, q, aE, g, aKQ, aKE, aKG, aW, aS, aM, aV, aZ, aB)) : wpY_clear post (fT, fL, fK, fW, fB, fH, fO, aT, aL, aQ, aE, aG, aKQ, aKE, aKG, aW, aS, aM, aV, aZ, aB) := by
  have k29 : ∀ (g : Nat → Int32), (∀ j, j < 4 → g j = 0) → ∀ (m i : Nat) (q : Nat → Int32), i + m = 6 → ed_YZ i 9 aQ q → wY_clear_29 post (aG 0) fT fL fK fW fB fH fO (m + 1) (nI i) aT aL q aE g aKQ aKE aKG aW aS aM aV aZ aB := by
    intro g hg m
    induction m with
    | zero =>
      intro i q hi hq
      have e : i = 6 := by omega
      subst e
      exact br_t (nI_le (a := 6) (b := 6) (Nat.le_refl _) (by omega)) (h g q hg hq)
    | succ m ih =>
      intro i q hi hq
      refine br_f (nI_ge (b := 6) (by omega) (by omega)) ⟨12, ?_⟩
      have k38 : ∀ (m' j : Nat) (q : Nat → Int32), j + m' = 20 → 9 ≤ j → ed_YZ i j aQ q → wY_clear_38 post (wY_clear_29 post (aG 0) fT fL fK fW fB fH fO (m + 1)) (aG 0) (nI i) fT fL fK fW fB fH fO (m' + 1) (nI j) aT aL q aE g aKQ aKE aKG aW aS aM aV aZ aB := by
        intro m'
        induction m' with
        | zero =>
          intro j q hj _ hq
          have e : j = 20 := by omega
          subst e
          refine br_t (nI_le (a := 20) (b := 20) (Nat.le_refl _) (by omega)) (nm_r (nI_1 i) (ih (i + 1) q (by omega) ⟨?_, hq.2⟩))
          intro s j hs h1 h2 hc
          exact hq.1 s j hs h1 h2 (by omega)
        | succ m' ih' =>
          intro j q hj h9 hq
          have e2 : (100 : Int32) * nI i + nI j = nI (100 * i + j) := ed_yi i j
          refine br_f (nI_ge (b := 20) (by omega) (by omega)) ⟨by rw [e2]; exact vp_in_nI (by omega) (by omega), nm_r (e' := upd q (100 * i + j) 0) (by rw [e2, nI_clamp (by omega)]) (nm_r (nI_1 j) (ih' (j + 1) _ (by omega) (by omega) ⟨?_, ?_⟩))⟩
          · intro s j' hs h1 h2 hc
            by_cases e : s = i ∧ j' = j
            · obtain ⟨rfl, rfl⟩ := e; rw [pk_us]
            · rw [pk_un (by omega)]; exact hq.1 s j' hs h1 h2 (by omega)
          · intro s j' hs h1 hc
            rw [pk_un (by omega)]; exact hq.2 s j' hs h1 hc
      exact k38 11 9 q (by omega) (by omega) hq
  have k9 : ∀ (m i : Nat) (g : Nat → Int32), i + m = 4 → (∀ j, j < i → g j = 0) → wY_clear_9 post (aG 0) fT fL fK fW fB fH fO (m + 1) (nI i) aT aL aQ aE g aKQ aKE aKG aW aS aM aV aZ aB := by
    intro m
    induction m with
    | zero =>
      intro i g hi hg
      have e : i = 4 := by omega
      subst e
      exact br_t (nI_le (a := 4) (b := 4) (Nat.le_refl _) (by omega)) ⟨7, k29 g hg 6 0 aQ (by omega) ⟨fun s j _ h1 _ hc => by omega, fun _ _ _ _ _ => rfl⟩⟩
    | succ m ih =>
      intro i g hi hg
      refine br_f (nI_ge (b := 4) (by omega) (by omega)) ⟨vp_in_nI (by omega) (by omega), nm_r (e' := upd g i 0) (by rw [nI_clamp (by omega)]) (nm_r (nI_1 i) (ih (i + 1) _ (by omega) ?_))⟩
      intro j hj
      by_cases e : j = i
      · subst e; rw [pk_us]
      · rw [pk_un (by omega)]; exact hg j (by omega)
  exact nm_e ⟨5, k9 4 0 aG (by omega) (fun j hj => absurd hj (Nat.not_lt_zero _))⟩
end
theorem i_vc_clear {k : Nat} {u : SX} {v : SY} (I : i_Rel k u v) (hk : k + 6 ≤ 3072) : wpX_clear (fun r u' => wpY_clear (fun r' v' => r' = r ∧ i_Rel (k + 6) u' v') v) u := by
  obtain ⟨xl, xw, xk, xP, xL, xF, xQ, xT, xA, xB, xC, xM, xG, kF, kQ, kT, kA, kB, kC, kM, kG, xS, xZ⟩ := u
  obtain ⟨fT, fL, fK, fW, fB, fH, fO, aT, aL, aQ, aE, aG, aKQ, aKE, aKG, aW, aS, aM, aV, aZ, aB⟩ := v
  obtain ⟨hP, hL, hw, ⟨h, hC⟩, hK⟩ := I
  refine xv_clear (fun f q hf hq => yv_clear (fun g r hg hr => ?_))
  refine ⟨hC.1.2.1.trans hC.1.1.symm, hP, hL, hw, ⟨0, ⟨hf 0 (by omega), hg 0 (by omega), (hf 1 (by omega)).trans (hg 1 (by omega)).symm, (hf 2 (by omega)).trans (hg 2 (by omega)).symm, (hf 3 (by omega)).trans (hg 3 (by omega)).symm⟩, ⟨Nat.le_refl _, by omega⟩, ⟨0, fun _ => 0, hf 2 (by omega), by omega, fun i hi => absurd hi (Nat.not_lt_zero _), fun i j _ hj => absurd hj (Nat.not_lt_zero _)⟩, fun i hi => absurd hi (Nat.not_lt_zero _), fun s hs => ⟨Nat.le_refl _, ?_⟩⟩, ed_K_up (by omega) hK⟩
  have hS := ed_C_s hC hs
  unfold ed_S at hS ⊢
  refine ed_Q_clear ?_ (hq.1 s hs).1 (hq.1 s hs).2.1 (hq.1 s hs).2.2 ?_ (hr.1 s 9 hs (by omega) (by omega) (by omega)) (hr.1 s 10 hs (by omega) (by omega) (by omega)) (hr.1 s 11 hs (by omega) (by omega) (by omega)) hS
  · intro j h1 h2; exact hq.2 s j hs h1 (by omega)
  · intro j h1 h2; exact hr.2 s j hs h1 h2
end
section
/-! the evaluators of both sides -/
noncomputable def ed_bi (P : Prop) : Int32 := @ite _ P (Classical.propDecidable P) 1 0
theorem ed_bi_t {P : Prop} (h : P) : ed_bi P = 1 := by unfold ed_bi; rw [if_pos h]
theorem ed_bi_f {P : Prop} (h : ¬ P) : ed_bi P = 0 := by unfold ed_bi; rw [if_neg h]
theorem ed_bi_0 {P : Prop} : ed_bi P = 0 ↔ ¬ P := by
  constructor
  · intro h p; rw [ed_bi_t p] at h; exact absurd h (by decide)
  · exact ed_bi_f
theorem ed_n1 : vp_nar .boolean 1 = 1 := by decide
theorem ed_n0 : vp_nar .boolean 0 = 0 := by decide
theorem ed_nbi (P : Prop) : vp_nar .boolean (ed_bi P) = ed_bi P := by
  rcases Classical.em P with h | h
  · rw [ed_bi_t h]; exact ed_n1
  · rw [ed_bi_f h]; exact ed_n0
theorem ed_cb5 (x y : Int32) : ed_cb (nI 5) x y = x + y := by unfold ed_cb; rw [if_pos (by decide)]
theorem ed_cb6 (x y : Int32) : ed_cb (nI 6) x y = x - y := by unfold ed_cb; rw [if_neg (by decide), if_pos (by decide)]
theorem ed_cb7 (x y : Int32) : ed_cb (nI 7) x y = x * y := by unfold ed_cb; rw [if_neg (by decide), if_neg (by decide), if_pos (by decide)]
theorem ed_cb8 (x y : Int32) : ed_cb (nI 8) x y = (if x < y then 1 else 0) := by unfold ed_cb; rw [if_neg (by decide), if_neg (by decide), if_neg (by decide), if_pos (by decide)]
theorem ed_cb9 (x y : Int32) : ed_cb (nI 9) x y = (if x = y then 1 else 0) := by unfold ed_cb; rw [if_neg (by decide), if_neg (by decide), if_neg (by decide), if_neg (by decide), if_pos (by decide)]
theorem ed_cb10 (x y : Int32) : ed_cb (nI 10) x y = (if x = 0 then 0 else if y = 0 then 0 else 1) := by unfold ed_cb; rw [if_neg (by decide), if_neg (by decide), if_neg (by decide), if_neg (by decide), if_neg (by decide), if_pos (by decide)]
theorem ed_cb11 (x y : Int32) : ed_cb (nI 11) x y = (if x = 0 then (if y = 0 then 0 else 1) else 1) := by unfold ed_cb; rw [if_neg (by decide), if_neg (by decide), if_neg (by decide), if_neg (by decide), if_neg (by decide), if_neg (by decide), if_pos (by decide)]
theorem ed_cb12 (x y : Int32) : ed_cb (nI 12) x y = (if y = 0 then 1 else 0) := by unfold ed_cb; rw [if_neg (by decide), if_neg (by decide), if_neg (by decide), if_neg (by decide), if_neg (by decide), if_neg (by decide), if_neg (by decide), if_pos (by decide)]
theorem ed_cb13 (x y : Int32) : ed_cb (nI 13) x y = (if y = 0 then 0 else x - x / y * y) := by unfold ed_cb; rw [if_neg (by decide), if_neg (by decide), if_neg (by decide), if_neg (by decide), if_neg (by decide), if_neg (by decide), if_neg (by decide), if_neg (by decide)]
theorem ed_rs0 (v a b ty t x y : Int32) : ed_rs (nI 0) v a b ty t x y = v := by unfold ed_rs; rw [if_pos (by decide)]
theorem ed_rs1 (v a b ty t x y : Int32) : ed_rs (nI 1) v a b ty t x y = a := by unfold ed_rs; rw [if_neg (by decide), if_pos (by decide)]
theorem ed_rs2 (v a b ty t x y : Int32) : ed_rs (nI 2) v a b ty t x y = b := by unfold ed_rs; rw [if_neg (by decide), if_neg (by decide), if_pos (by decide)]
theorem ed_rs3 (v a b ty t x y : Int32) : ed_rs (nI 3) v a b ty t x y = ty := by unfold ed_rs; rw [if_neg (by decide), if_neg (by decide), if_neg (by decide), if_pos (by decide)]
theorem ed_rs4 (v a b ty t x y : Int32) : ed_rs (nI 4) v a b ty t x y = t := by unfold ed_rs; rw [if_neg (by decide), if_neg (by decide), if_neg (by decide), if_neg (by decide), if_pos (by decide)]
theorem ed_rsc {k : Nat} (h5 : 5 ≤ k) (h13 : k ≤ 13) (v a b ty t x y : Int32) : ed_rs (nI k) v a b ty t x y = ed_cb (nI k) x y := by
  have n : ∀ c : Nat, c < 5 → ¬ nI k = nI c := fun c hc q => by have := (nI_eq (by omega) (by omega)).mp q; omega
  have n0 : ¬ nI k = 0 := n 0 (by omega)
  have n1 : ¬ nI k = 1 := n 1 (by omega)
  have n2 : ¬ nI k = 2 := n 2 (by omega)
  have n3 : ¬ nI k = 3 := n 3 (by omega)
  have n4 : ¬ nI k = 4 := n 4 (by omega)
  unfold ed_rs
  rw [if_neg n0, if_neg n1, if_neg n2, if_neg n3, if_neg n4]
theorem ed_tk0 {k : Nat} (h : k ≤ 4) : ed_tk (nI k) = 0 := by
  have z : nI k ≤ 4 := nI_le (b := 4) h (by omega)
  unfold ed_tk; rw [if_pos z]
theorem ed_tk12 : ed_tk (nI 12) = 1 := by decide
theorem ed_tk2 {k : Nat} (h : 5 ≤ k) (h2 : k ≤ 13) (h12 : k ≠ 12) : ed_tk (nI k) = 2 := by
  have z : ¬ nI k ≤ 4 := nI_ge (a := 4) h (by omega)
  have z2 : ¬ nI k = 12 := fun q => h12 ((nI_eq (b := 12) (by omega) (by omega)).mp q)
  unfold ed_tk
  rw [if_neg z, if_neg z2]
section
variable {xl xw xk : Int32} {xP xL xF xQ xT xA xB xC xM xG kF kQ kT kA kB kC kM kG xS xZ : Nat → Int32}
variable {fT fL fK fW fB fH fO : Int32} {aT aL aQ aE aG aKQ aKE aKG aW aS aM aV aZ aB : Nat → Int32}
theorem ed_leaf8 {post : Int32 → Prop} {x y : Int32} (h : post (if x < y then 1 else 0)) : (y ≤ x → post 0) ∧ (¬ y ≤ x → post 1) := by
  by_cases z : x < y
  · rw [if_pos z] at h; exact br_f (Int32.not_le.mpr z) h
  · rw [if_neg z] at h; exact br_t (Int32.not_lt.mp z) h
theorem ed_leaf9 {post : Int32 → Prop} {x y : Int32} (h : post (if x = y then 1 else 0)) : (x = y → post 1) ∧ (¬ x = y → post 0) := by
  by_cases z : x = y
  · rw [if_pos z] at h; exact br_t z h
  · rw [if_neg z] at h; exact br_f z h
theorem ed_leaf10 {post : Int32 → Prop} {x y : Int32} (h : post (if x = 0 then 0 else if y = 0 then 0 else 1)) : (x = 0 → post 0) ∧ (¬ x = 0 → ((y = 0 → post 0) ∧ (¬ y = 0 → post 1))) := by
  by_cases z : x = 0
  · rw [if_pos z] at h; exact br_t z h
  · rw [if_neg z] at h
    by_cases z2 : y = 0
    · rw [if_pos z2] at h; exact br_f z (br_t z2 h)
    · rw [if_neg z2] at h; exact br_f z (br_f z2 h)
theorem ed_leaf11 {post : Int32 → Prop} {x y : Int32} (h : post (if x = 0 then (if y = 0 then 0 else 1) else 1)) : (x = 0 → ((y = 0 → post 0) ∧ (¬ y = 0 → post 1))) ∧ (¬ x = 0 → post 1) := by
  by_cases z : x = 0
  · rw [if_pos z] at h
    by_cases z2 : y = 0
    · rw [if_pos z2] at h; exact br_t z (br_t z2 h)
    · rw [if_neg z2] at h; exact br_t z (br_f z2 h)
  · rw [if_neg z] at h; exact br_f z h
theorem ed_leaf12 {post : Int32 → Prop} {y : Int32} (h : post (if y = 0 then 1 else 0)) : (y = 0 → post 1) ∧ (¬ y = 0 → post 0) := by
  by_cases z : y = 0
  · rw [if_pos z] at h; exact br_t z h
  · rw [if_neg z] at h; exact br_f z h
theorem ed_leaf13 {post : Int32 → Prop} {x y : Int32} (h : post (if y = 0 then 0 else x - x / y * y)) : (y = 0 → post 0) ∧ (¬ y = 0 → (¬ y = 0 ∧ post (x - x / y * y))) := by
  by_cases z : y = 0
  · rw [if_pos z] at h; exact br_t z h
  · rw [if_neg z] at h; exact br_f z ⟨z, h⟩
theorem xb_comb {post : Int32 → Prop} {k : Nat} {x y : Int32} (h5 : 5 ≤ k) (h13 : k ≤ 13) (h12 : k ≠ 12) (h : post (ed_cb (nI k) x y)) : wpX_combined post (nI k) x y := by
  have : k = 5 ∨ k = 6 ∨ k = 7 ∨ k = 8 ∨ k = 9 ∨ k = 10 ∨ k = 11 ∨ k = 13 := by omega
  rcases this with rfl | rfl | rfl | rfl | rfl | rfl | rfl | rfl
  · rw [ed_cb5] at h; exact br_f (by decide) (br_f (by decide) (br_t rfl h))
  · rw [ed_cb6] at h; exact br_f (by decide) (br_f (by decide) (br_f (by decide) (br_t rfl h)))
  · rw [ed_cb7] at h; exact br_f (by decide) (br_f (by decide) (br_f (by decide) (br_f (by decide) (br_t rfl h))))
  · rw [ed_cb8] at h; exact br_f (by decide) (br_f (by decide) (br_f (by decide) (br_f (by decide) (br_f (by decide) (br_t rfl (ed_leaf8 h))))))
  · rw [ed_cb9] at h; exact br_f (by decide) (br_f (by decide) (br_f (by decide) (br_f (by decide) (br_f (by decide) (br_f (by decide) (br_t rfl (ed_leaf9 h)))))))
  · rw [ed_cb10] at h; exact br_f (by decide) (br_f (by decide) (br_f (by decide) (br_f (by decide) (br_f (by decide) (br_f (by decide) (br_f (by decide) (br_t rfl (ed_leaf10 h))))))))
  · rw [ed_cb11] at h; exact br_f (by decide) (br_f (by decide) (br_f (by decide) (br_f (by decide) (br_f (by decide) (br_f (by decide) (br_f (by decide) (br_f (by decide) (br_t rfl (ed_leaf11 h)))))))))
  · rw [ed_cb13] at h; exact br_f (by decide) (br_t (by decide) (ed_leaf13 h))
theorem yb_res {post : Int32 → Prop} {k : Nat} {x y : Int32} (h5 : 5 ≤ k) (h13 : k ≤ 13) (h : post (ed_cb (nI k) x y)) : wpY_result post (fT, fL, fK, fW, fB, fH, fO, aT, aL, aQ, aE, aG, aKQ, aKE, aKG, aW, aS, aM, aV, aZ, aB) (nI k) x y := by
  have : k = 5 ∨ k = 6 ∨ k = 7 ∨ k = 8 ∨ k = 9 ∨ k = 10 ∨ k = 11 ∨ k = 12 ∨ k = 13 := by omega
  rcases this with rfl | rfl | rfl | rfl | rfl | rfl | rfl | rfl | rfl
  · rw [ed_cb5] at h; exact br_f (by decide) (br_f (by decide) (br_t rfl h))
  · rw [ed_cb6] at h; exact br_f (by decide) (br_f (by decide) (br_f (by decide) (br_t rfl h)))
  · rw [ed_cb7] at h; exact br_f (by decide) (br_f (by decide) (br_f (by decide) (br_f (by decide) (br_t rfl h))))
  · rw [ed_cb8] at h; exact br_f (by decide) (br_f (by decide) (br_f (by decide) (br_f (by decide) (br_f (by decide) (br_t rfl (ed_leaf8 h))))))
  · rw [ed_cb9] at h; exact br_f (by decide) (br_f (by decide) (br_f (by decide) (br_f (by decide) (br_f (by decide) (br_f (by decide) (br_t rfl (ed_leaf9 h)))))))
  · rw [ed_cb10] at h; exact br_f (by decide) (br_f (by decide) (br_f (by decide) (br_f (by decide) (br_f (by decide) (br_f (by decide) (br_f (by decide) (br_t rfl (ed_leaf10 h))))))))
  · rw [ed_cb11] at h; exact br_f (by decide) (br_f (by decide) (br_f (by decide) (br_f (by decide) (br_f (by decide) (br_f (by decide) (br_f (by decide) (br_f (by decide) (br_t rfl (ed_leaf11 h)))))))))
  · rw [ed_cb12] at h; exact br_f (by decide) (br_f (by decide) (br_f (by decide) (br_f (by decide) (br_f (by decide) (br_f (by decide) (br_f (by decide) (br_f (by decide) (br_f (by decide) (br_t rfl (ed_leaf12 h))))))))))
  · rw [ed_cb13] at h; exact br_f (by decide) (br_t (by decide) (ed_leaf13 h))
theorem xb_fresh {post : Int32 → Prop} {k e : Nat} {v x y : Int32} (hk : k ≤ 4) (he : e < 64) (h : post (ed_rs (nI k) v (xA e) (xB e) (xT e) (xC e) x y)) : wpX_freshValue post (xl, xw, xk, xP, xL, xF, xQ, xT, xA, xB, xC, xM, xG, kF, kQ, kT, kA, kB, kC, kM, kG, xS, xZ) (nI k) v (nI e) := by
  have ce : (nI e).toNatClampNeg = e := nI_clamp (by omega)
  have ve : vp_in (nI e) 64 := vp_in_nI he (by omega)
  have : k = 0 ∨ k = 1 ∨ k = 2 ∨ k = 3 ∨ k = 4 := by omega
  unfold wpX_freshValue
  dsimp only
  rw [ce]
  rcases this with rfl | rfl | rfl | rfl | rfl
  · rw [ed_rs0] at h; exact br_t (by decide) h
  · rw [ed_rs1] at h; exact br_f (by decide) (br_f (by decide) (br_t rfl ⟨ve, h⟩))
  · rw [ed_rs2] at h; exact br_f (by decide) (br_f (by decide) (br_f (by decide) (br_t rfl ⟨ve, h⟩)))
  · rw [ed_rs3] at h; exact br_f (by decide) (br_f (by decide) (br_f (by decide) (br_f (by decide) (br_t rfl ⟨ve, h⟩))))
  · rw [ed_rs4] at h; exact br_f (by decide) (br_f (by decide) (br_f (by decide) (br_f (by decide) (br_f (by decide) (br_t rfl ⟨ve, h⟩)))))
theorem xv_meets {post : Int32 → SX → Prop} {s w e : Nat} (hs : s < 6) (hw : w < 3) (he : e < 64) (hv : ed_cv xQ (99 * s + 24 + 25 * w)) (h : ∀ st, post (ed_bi (ed_me xQ (99 * s + 24 + 25 * w) (xA e) (xB e) (xT e) (xC e))) (xl, xw, xk, xP, xL, xF, xQ, xT, xA, xB, xC, xM, xG, kF, kQ, kT, kA, kB, kC, kM, kG, st, xZ)) : wpX_meets post (xl, xw, xk, xP, xL, xF, xQ, xT, xA, xB, xC, xM, xG, kF, kQ, kT, kA, kB, kC, kM, kG, xS, xZ) (nI s) (nI w) (nI e) := by
  obtain ⟨B, hB⟩ : ∃ B, B = 99 * s + 24 + 25 * w := ⟨_, rfl⟩
  rw [← hB] at hv h
  obtain ⟨n, en, hn, hg, hd⟩ := hv
  have eB : nI s * 99 + 24 + nI w * 25 = nI B := by
    rw [show nI s * 99 + 24 = nI (99 * s + 24) from ed_xi s 24, show nI w * 25 = nI (w * 25) from pk_mul w 25, nI_add]
    congr 1; omega
  have hme : ed_me xQ B (xA e) (xB e) (xT e) (xC e) ↔ ed_pe (fun i => xQ (B + 1 + i)) (fun i => xQ (B + 13 + i)) (xA e) (xB e) (xT e) (xC e) n 0 ≠ 0 := by
    unfold ed_me; rw [en, nI_clamp (by omega)]
  have key : ∀ (m i : Nat) (S : Nat → Int32), i + m = n → (∀ j, j < ed_dp (fun i => xQ (B + 1 + i)) i → S j = ed_pe (fun i => xQ (B + 1 + i)) (fun i => xQ (B + 13 + i)) (xA e) (xB e) (xT e) (xC e) i j) → wX_meets_29 post (nI e) (nI B) (nI n) xl xw xk (m + 1) (nI (ed_dp (fun i => xQ (B + 1 + i)) i)) (nI i) xP xL xF xQ xT xA xB xC xM xG kF kQ kT kA kB kC kM kG S xZ := by
    intro m
    induction m with
    | zero =>
      intro i S hi hS
      have e0 : i = n := by omega
      subst e0
      have z0 := hS 0 (by omega)
      refine br_t (nI_le (Nat.le_refl _) (by omega)) ?_
      by_cases z : S 0 = 0
      · have := h S
        rw [ed_bi_f (fun q => hme.mp q (z0.symm.trans z))] at this
        exact br_t z this
      · have := h S
        rw [ed_bi_t (hme.mpr (fun q => z (z0.trans q)))] at this
        exact br_f z this
    | succ m ih =>
      intro i S hi hS
      have dl := ed_dp_le (fun i => xQ (B + 1 + i)) i
      obtain ⟨⟨k, hk, ek⟩, ht⟩ := hg i (by omega)
      have e1 : nI B + 1 + nI i = nI (B + 1 + i) := by rw [nI_1, nI_add]
      have e13 : nI B + 13 + nI i = nI (B + 13 + i) := by rw [show nI B + 13 = nI (B + 13) from nI_add B 13, nI_add]
      have c1 : (nI B + 1 + nI i).toNatClampNeg = B + 1 + i := by rw [e1, nI_clamp (by omega)]
      have c13 : (nI B + 13 + nI i).toNatClampNeg = B + 13 + i := by rw [e13, nI_clamp (by omega)]
      have ek' : xQ (B + 1 + i) = nI k := ek
      have stp := ed_pe_s (o := fun i => xQ (B + 1 + i)) (v := fun i => xQ (B + 13 + i)) (S := S) (a := xA e) (b := xB e) (ty := xT e) (t := xC e) (i := i) ht hS rfl
      refine br_f (nI_ge (by omega) (by omega)) ⟨by rw [e1]; exact vp_in_nI (by omega) (by omega), nm_r (e' := nI k) (by rw [c1]; exact ek) (xb_taken ?_)⟩
      dsimp only at ht stp hS
      rw [ek'] at ht stp
      have nxt : ∀ r, r = ed_rs (nI k) (xQ (B + 13 + i)) (xA e) (xB e) (xT e) (xC e) (ed_pe (fun i => xQ (B + 1 + i)) (fun i => xQ (B + 13 + i)) (xA e) (xB e) (xT e) (xC e) i (ed_dp (fun i => xQ (B + 1 + i)) i - 2)) (ed_pe (fun i => xQ (B + 1 + i)) (fun i => xQ (B + 13 + i)) (xA e) (xB e) (xT e) (xC e) i (ed_dp (fun i => xQ (B + 1 + i)) i - 1)) → wX_meets_159 post (wX_meets_29 post (nI e) (nI B) (nI n) xl xw xk (m + 1)) (nI e) (nI B) (nI n) (nI (ed_dp (fun i => xQ (B + 1 + i)) i)) (nI i) (nI (ed_tk (nI k))) xl xw xk xP xL xF xQ xT xA xB xC xM xG kF kQ kT kA kB kC kM kG (upd S (ed_dp (fun i => xQ (B + 1 + i)) i - ed_tk (nI k)) r) xZ := by
        intro r hr
        subst hr
        refine nm_r (e' := nI (ed_dp (fun i => xQ (B + 1 + i)) (i + 1))) ?_ (nm_r (nI_1 i) (ih (i + 1) _ (by omega) stp))
        rw [ed_dp, ed_stp (by omega), ek']
      rcases Nat.lt_or_ge k 5 with k5 | k5
      · have t0 := ed_tk0 (k := k) (by omega)
        refine br_t (by rw [t0]; rfl) ⟨by rw [e13]; exact vp_in_nI (by omega) (by omega), ?_⟩
        rw [c13]
        refine xb_fresh (x := ed_pe (fun i => xQ (B + 1 + i)) (fun i => xQ (B + 13 + i)) (xA e) (xB e) (xT e) (xC e) i (ed_dp (fun i => xQ (B + 1 + i)) i - 2)) (y := ed_pe (fun i => xQ (B + 1 + i)) (fun i => xQ (B + 13 + i)) (xA e) (xB e) (xT e) (xC e) i (ed_dp (fun i => xQ (B + 1 + i)) i - 1)) (by omega) he ⟨vp_in_nI (by omega) (by omega), nm_e ?_⟩
        have := nxt _ rfl
        rw [nI_clamp (by omega)]
        rw [t0, Nat.sub_zero] at this
        rw [t0]
        exact this
      · rcases Nat.lt_or_ge (ed_dp (fun i => xQ (B + 1 + i)) i) 1 with d1 | d1
        · by_cases k12 : k = 12
          · subst k12; rw [ed_tk12] at ht; omega
          · rw [ed_tk2 k5 hk k12] at ht; omega
        have em1 : nI (ed_dp (fun i => xQ (B + 1 + i)) i) - 1 = nI (ed_dp (fun i => xQ (B + 1 + i)) i - 1) := pk_sub (b := 1) d1
        have cm1 : (nI (ed_dp (fun i => xQ (B + 1 + i)) i) - 1).toNatClampNeg = ed_dp (fun i => xQ (B + 1 + i)) i - 1 := by rw [em1, nI_clamp (by omega)]
        have vm1 : vp_in (nI (ed_dp (fun i => xQ (B + 1 + i)) i) - 1) 12 := by rw [em1]; exact vp_in_nI (by omega) (by omega)
        have s1 := hS (ed_dp (fun i => xQ (B + 1 + i)) i - 1) (by omega)
        by_cases k12 : k = 12
        · subst k12
          refine br_f (by rw [ed_tk12]; decide) (br_t (by rw [ed_tk12]; rfl) ⟨vm1, ?_⟩)
          rw [cm1]
          have nn := nxt
          rw [ed_tk12] at nn
          rw [ed_tk12]
          by_cases z : S (ed_dp (fun i => xQ (B + 1 + i)) i - 1) = 0
          · refine br_t z ⟨vm1, nm_e ?_⟩
            rw [cm1]
            refine nn 1 ?_
            rw [ed_rsc (by omega) (by omega), ed_cb12, if_pos (s1.symm.trans z)]
          · refine br_f z ⟨vm1, nm_e ?_⟩
            rw [cm1]
            refine nn 0 ?_
            rw [ed_rsc (by omega) (by omega), ed_cb12, if_neg (fun q => z (s1.trans q))]
        · have t2 := ed_tk2 k5 hk k12
          rw [t2] at ht
          have em2 : nI (ed_dp (fun i => xQ (B + 1 + i)) i) - 2 = nI (ed_dp (fun i => xQ (B + 1 + i)) i - 2) := pk_sub (b := 2) ht
          have cm2 : (nI (ed_dp (fun i => xQ (B + 1 + i)) i) - 2).toNatClampNeg = ed_dp (fun i => xQ (B + 1 + i)) i - 2 := by rw [em2, nI_clamp (by omega)]
          have vm2 : vp_in (nI (ed_dp (fun i => xQ (B + 1 + i)) i) - 2) 12 := by rw [em2]; exact vp_in_nI (by omega) (by omega)
          have s2 := hS (ed_dp (fun i => xQ (B + 1 + i)) i - 2) (by omega)
          have nn := nxt
          rw [t2] at nn
          rw [t2]
          refine br_f (by decide) (br_f (by decide) ⟨vm2, vm1, ?_⟩)
          rw [cm1, cm2]
          refine xb_comb k5 hk k12 ⟨vm2, nm_e (nn _ ?_)⟩
          rw [ed_rsc k5 hk, s1, s2]
  unfold wpX_meets
  dsimp only
  rw [eB]
  refine nm_e ⟨vp_in_nI (by omega) (by omega), nm_r (e' := nI n) (by rw [nI_clamp (by omega)]; exact en) ⟨n + 1, ?_⟩⟩
  exact key n 0 xS (by omega) (fun j hj => absurd hj (Nat.not_lt_zero _))
end
end
section
/-! which conditions an event met: X's bits, Y's table -/
theorem ed_3i (s w : Nat) : nI s * 3 + nI w = nI (3 * s + w) := by
  rw [show (3 : Int32) = nI 3 from rfl, pk_mul, nI_add, Nat.mul_comm]
section
variable {xl xw xk : Int32} {xP xL xF xQ xT xA xB xC xM xG kF kQ kT kA kB kC kM kG xS xZ : Nat → Int32}
variable {fT fL fK fW fB fH fO : Int32} {aT aL aQ aE aG aKQ aKE aKG aW aS aM aV aZ aB : Nat → Int32}
theorem xb_bit {post : Int32 → Prop} {s w : Nat} (h : post ((1 : Int32) <<< (nI (3 * s + w) &&& 31))) : wpX_metBit post (nI s) (nI w) := by
  unfold wpX_metBit
  rw [ed_3i]
  exact h
theorem xv_note {post : SX → Prop} {s e c : Nat} (hs : s < 6) (he : e < 64) (hc : c ≤ 3) (nc : xQ (99 * s + 23) = nI c) (hv : ∀ w, w < c → ed_cv xQ (99 * s + 24 + 25 * w)) (h : ∀ M st, (∀ j, j ≠ e → M j = xM j) → (∀ l, bt (M e) l = true ↔ (bt (xM e) l = true ∨ ∃ w, w < c ∧ l = 3 * s + w ∧ ed_me xQ (99 * s + 24 + 25 * w) (xA e) (xB e) (xT e) (xC e))) → post (xl, xw, xk, xP, xL, xF, xQ, xT, xA, xB, xC, M, xG, kF, kQ, kT, kA, kB, kC, kM, kG, st, xZ)) : wpX_noteConditionsMet post (xl, xw, xk, xP, xL, xF, xQ, xT, xA, xB, xC, xM, xG, kF, kQ, kT, kA, kB, kC, kM, kG, xS, xZ) (nI s) (nI e) := by
  have w23 := ed_x s 23 hs (by omega)
  have c23 : (nI s * 99 + 23).toNatClampNeg = 99 * s + 23 := w23.2
  have ce : (nI e).toNatClampNeg = e := nI_clamp (by omega)
  have ve : vp_in (nI e) 64 := vp_in_nI he (by omega)
  have key : ∀ (m i : Nat) (M st : Nat → Int32), i + m = c → (∀ j, j ≠ e → M j = xM j) → (∀ l, bt (M e) l = true ↔ (bt (xM e) l = true ∨ ∃ w, w < i ∧ l = 3 * s + w ∧ ed_me xQ (99 * s + 24 + 25 * w) (xA e) (xB e) (xT e) (xC e))) → wX_noteConditionsMet_16 post (nI s) (nI e) (nI c) (m + 1) (nI i) xl xw xk xP xL xF xQ xT xA xB xC M xG kF kQ kT kA kB kC kM kG st xZ := by
    intro m
    induction m with
    | zero =>
      intro i M st hi h1 h2
      have e0 : i = c := by omega
      subst e0
      exact br_t (nI_le (Nat.le_refl _) (by omega)) (h M st h1 h2)
    | succ m ih =>
      intro i M st hi h1 h2
      refine br_f (nI_ge (by omega) (by omega)) (xv_meets (xM := M) hs (by omega) he (hv i (by omega)) (fun st' => ?_))
      rcases Classical.em (ed_me xQ (99 * s + 24 + 25 * i) (xA e) (xB e) (xT e) (xC e)) with z | z
      · rw [ed_bi_t z]
        refine br_f (by decide) ⟨ve, xb_bit ⟨ve, nm_r (e' := upd M e (M e ||| ((1 : Int32) <<< (nI (3 * s + i) &&& 31)))) (by rw [ce]) (nm_r (nI_1 i) (ih (i + 1) _ st' (by omega) ?_ ?_))⟩⟩
        · intro j hj; rw [pk_un hj]; exact h1 j hj
        · intro l
          rw [pk_us, ed_bset _ _ _ (by omega), Bool.or_eq_true, h2 l, decide_eq_true_eq]
          constructor
          · rintro ((q | ⟨w, w1, w2, w3⟩) | q)
            · exact Or.inl q
            · exact Or.inr ⟨w, by omega, w2, w3⟩
            · exact Or.inr ⟨i, by omega, q.symm, z⟩
          · rintro (q | ⟨w, w1, w2, w3⟩)
            · exact Or.inl (Or.inl q)
            · by_cases e0 : w = i
              · subst e0; exact Or.inr w2.symm
              · exact Or.inl (Or.inr ⟨w, by omega, w2, w3⟩)
      · rw [ed_bi_f z]
        refine br_t rfl (nm_r (nI_1 i) (ih (i + 1) M st' (by omega) h1 ?_))
        intro l
        rw [h2 l]
        constructor
        · rintro (q | ⟨w, w1, w2, w3⟩)
          · exact Or.inl q
          · exact Or.inr ⟨w, by omega, w2, w3⟩
        · rintro (q | ⟨w, w1, w2, w3⟩)
          · exact Or.inl q
          · by_cases e0 : w = i
            · subst e0; exact absurd w3 z
            · exact Or.inr ⟨w, by omega, w2, w3⟩
  refine ⟨w23.1, nm_r (e' := nI c) (by rw [c23]; exact nc) ⟨c + 1, ?_⟩⟩
  refine key c 0 xM xS (by omega) (fun _ _ => rfl) (fun l => ⟨Or.inl, fun q => q.elim id (fun ⟨w, w1, _⟩ => absurd w1 (Nat.not_lt_zero _))⟩)
theorem yb_95 {post : Int32 → SY → Prop} {J : Int32 → Int32 → (Nat → Int32) → (Nat → Int32) → (Nat → Int32) → (Nat → Int32) → (Nat → Int32) → (Nat → Int32) → (Nat → Int32) → (Nat → Int32) → (Nat → Int32) → (Nat → Int32) → (Nat → Int32) → (Nat → Int32) → (Nat → Int32) → (Nat → Int32) → Prop} {D d e i k t : Nat} {yy zx : Int32} (hD : D + 2 + 2 * i < 600) (he : e < 64) (hk : k ≤ 13) (ht : t ≤ d) (hd : d - t < 13) (hJ : J (nI (d - t + 1)) (nI (i + 1)) aT aL aQ aE aG aKQ aKE aKG aW (upd aS (d - t) (ed_rs (nI k) (aQ (D + 2 + 2 * i)) (aE (4 * e + 1)) (aE (4 * e + 2)) (aE (4 * e)) (aE (4 * e + 3)) zx yy)) aM aV aZ aB) : wY_meets_95 post J (nI e) (nI D) (nI d) (nI i) (nI k) (nI t) yy zx fT fL fK fW fB fH fO aT aL aQ aE aG aKQ aKE aKG aW aS aM aV aZ aB := by
  have e2 : nI D + 2 + 2 * nI i = nI (D + 2 + 2 * i) := by
    rw [show (2 : Int32) * nI i = nI (2 * i) from pk_mul 2 i, show nI D + 2 = nI (D + 2) from nI_add D 2, nI_add]
  have f0 : (4 : Int32) * nI e = nI (4 * e) := pk_mul 4 e
  have f1 : (4 : Int32) * nI e + 1 = nI (4 * e + 1) := by rw [f0, nI_1]
  have f2 : (4 : Int32) * nI e + 2 = nI (4 * e + 2) := by rw [f0]; exact nI_add _ 2
  have f3 : (4 : Int32) * nI e + 3 = nI (4 * e + 3) := by rw [f0]; exact nI_add _ 3
  have v13 : vp_in (nI (d - t)) 13 := vp_in_nI hd (by omega)
  have cd : (nI (d - t)).toNatClampNeg = d - t := nI_clamp (by omega)
  unfold wY_meets_95
  refine nm_r (pk_sub ht) (nm_r (nI_1 _) ?_)
  rw [f1, f2, f3, f0, e2, cd, nI_clamp (show D + 2 + 2 * i < 2 ^ 31 by omega), nI_clamp (show 4 * e < 2 ^ 31 by omega), nI_clamp (show 4 * e + 1 < 2 ^ 31 by omega), nI_clamp (show 4 * e + 2 < 2 ^ 31 by omega), nI_clamp (show 4 * e + 3 < 2 ^ 31 by omega)]
  rcases Nat.lt_or_ge k 5 with k5 | k5
  · have : k = 0 ∨ k = 1 ∨ k = 2 ∨ k = 3 ∨ k = 4 := by omega
    rcases this with rfl | rfl | rfl | rfl | rfl
    · rw [ed_rs0] at hJ
      exact br_t rfl ⟨vp_in_nI (by omega) (by omega), v13, nm_e (nm_r (nI_1 i) hJ)⟩
    · rw [ed_rs1] at hJ
      exact br_f (by decide) (br_t rfl ⟨vp_in_nI (by omega) (by omega), v13, nm_e (nm_r (nI_1 i) hJ)⟩)
    · rw [ed_rs2] at hJ
      exact br_f (by decide) (br_f (by decide) (br_t rfl ⟨vp_in_nI (by omega) (by omega), v13, nm_e (nm_r (nI_1 i) hJ)⟩))
    · rw [ed_rs3] at hJ
      exact br_f (by decide) (br_f (by decide) (br_f (by decide) (br_t rfl ⟨vp_in_nI (by omega) (by omega), v13, nm_e (nm_r (nI_1 i) hJ)⟩)))
    · rw [ed_rs4] at hJ
      exact br_f (by decide) (br_f (by decide) (br_f (by decide) (br_f (by decide) (br_t rfl ⟨vp_in_nI (by omega) (by omega), v13, nm_e (nm_r (nI_1 i) hJ)⟩))))
  · have n : ∀ c : Nat, c < 5 → ¬ nI k = nI c := fun c hc q => by have := (nI_eq (by omega) (by omega)).mp q; omega
    rw [ed_rsc k5 hk] at hJ
    exact br_f (n 0 (by omega)) (br_f (n 1 (by omega)) (br_f (n 2 (by omega)) (br_f (n 3 (by omega)) (br_f (n 4 (by omega)) (yb_res k5 hk ⟨v13, nm_e (nm_r (nI_1 i) hJ)⟩)))))
theorem yv_meets {s w e n : Nat} (hs : s < 6) (hw : w < 3) (he : e < 64) (en : aQ (100 * s + 24 + 25 * w) = nI n) (ok : ed_ok (fun i => aQ (100 * s + 24 + 25 * w + 1 + 2 * i)) n) : ∃ st, ∀ post : Int32 → SY → Prop, post (ed_bi (ed_pe (fun i => aQ (100 * s + 24 + 25 * w + 1 + 2 * i)) (fun i => aQ (100 * s + 24 + 25 * w + 2 + 2 * i)) (aE (4 * e + 1)) (aE (4 * e + 2)) (aE (4 * e)) (aE (4 * e + 3)) n 0 ≠ 0)) (fT, fL, fK, fW, fB, fH, fO, aT, aL, aQ, aE, aG, aKQ, aKE, aKG, aW, st, aM, aV, aZ, aB) → wpY_meets post (fT, fL, fK, fW, fB, fH, fO, aT, aL, aQ, aE, aG, aKQ, aKE, aKG, aW, aS, aM, aV, aZ, aB) (nI s) (nI w) (nI e) := by
  obtain ⟨D, hD⟩ : ∃ D, D = 100 * s + 24 + 25 * w := ⟨_, rfl⟩
  rw [← hD] at en ok ⊢
  obtain ⟨hn, hg, hd⟩ := ok
  have eD : (100 : Int32) * nI s + 24 + 25 * nI w = nI D := by
    rw [show (100 : Int32) * nI s + 24 = nI (100 * s + 24) from ed_yi s 24, show (25 : Int32) * nI w = nI (25 * w) from pk_mul 25 w, nI_add, hD]
  have vD : vp_in (nI D) 600 := vp_in_nI (by omega) (by omega)
  have cD : (nI D).toNatClampNeg = D := nI_clamp (by omega)
  have key : ∀ (m i : Nat) (S : Nat → Int32), i + m = n → (∀ j, j < ed_dp (fun i => aQ (D + 1 + 2 * i)) i → S j = ed_pe (fun i => aQ (D + 1 + 2 * i)) (fun i => aQ (D + 2 + 2 * i)) (aE (4 * e + 1)) (aE (4 * e + 2)) (aE (4 * e)) (aE (4 * e + 3)) i j) → ∃ st, ∀ post : Int32 → SY → Prop, post (ed_bi (ed_pe (fun i => aQ (D + 1 + 2 * i)) (fun i => aQ (D + 2 + 2 * i)) (aE (4 * e + 1)) (aE (4 * e + 2)) (aE (4 * e)) (aE (4 * e + 3)) n 0 ≠ 0)) (fT, fL, fK, fW, fB, fH, fO, aT, aL, aQ, aE, aG, aKQ, aKE, aKG, aW, st, aM, aV, aZ, aB) → wY_meets_20 post (nI e) (nI D) fT fL fK fW fB fH fO (m + 1) (nI (ed_dp (fun i => aQ (D + 1 + 2 * i)) i)) (nI i) aT aL aQ aE aG aKQ aKE aKG aW S aM aV aZ aB := by
    intro m
    induction m with
    | zero =>
      intro i S hi hS
      have e0 : i = n := by omega
      subst e0
      have z0 := hS 0 (by omega)
      refine ⟨S, fun post h => ⟨vD, br_t (by rw [cD, en]; exact nI_le (Nat.le_refl _) (by omega)) ?_⟩⟩
      by_cases z : S 0 = 0
      · rw [ed_bi_f (fun q => q (z0.symm.trans z))] at h
        exact br_t z h
      · rw [ed_bi_t (fun q => z (z0.trans q))] at h
        exact br_f z h
    | succ m ih =>
      intro i S hi hS
      have dl := ed_dp_le (fun i => aQ (D + 1 + 2 * i)) i
      obtain ⟨⟨k, hk, ek⟩, ht⟩ := hg i (by omega)
      have e1 : nI D + 1 + 2 * nI i = nI (D + 1 + 2 * i) := by
        rw [show (2 : Int32) * nI i = nI (2 * i) from pk_mul 2 i, nI_1, nI_add]
      have c1 : (nI D + 1 + 2 * nI i).toNatClampNeg = D + 1 + 2 * i := by rw [e1, nI_clamp (by omega)]
      have ek' : aQ (D + 1 + 2 * i) = nI k := ek
      have stp := ed_pe_s (o := fun i => aQ (D + 1 + 2 * i)) (v := fun i => aQ (D + 2 + 2 * i)) (S := S) (a := aE (4 * e + 1)) (b := aE (4 * e + 2)) (ty := aE (4 * e)) (t := aE (4 * e + 3)) (i := i) ht hS rfl
      obtain ⟨st, hst⟩ := ih (i + 1) _ (by omega) stp
      refine ⟨st, fun post h => ⟨vD, br_f (by rw [cD, en]; exact nI_ge (by omega) (by omega)) ⟨by rw [e1]; exact vp_in_nI (by omega) (by omega), nm_r (e' := nI k) (by rw [c1]; exact ek) (yb_takes ?_)⟩⟩⟩
      have H := hst post h
      dsimp only at ht H hS
      rw [ek'] at ht H
      have ed : ed_dp (fun i => aQ (D + 1 + 2 * i)) (i + 1) = ed_dp (fun i => aQ (D + 1 + 2 * i)) i - ed_tk (nI k) + 1 := by
        rw [ed_dp, ek']; omega
      rw [ed] at H
      have g95 : ∀ yy zx, ed_rs (nI k) (aQ (D + 2 + 2 * i)) (aE (4 * e + 1)) (aE (4 * e + 2)) (aE (4 * e)) (aE (4 * e + 3)) zx yy = ed_rs (nI k) (aQ (D + 2 + 2 * i)) (aE (4 * e + 1)) (aE (4 * e + 2)) (aE (4 * e)) (aE (4 * e + 3)) (ed_pe (fun i => aQ (D + 1 + 2 * i)) (fun i => aQ (D + 2 + 2 * i)) (aE (4 * e + 1)) (aE (4 * e + 2)) (aE (4 * e)) (aE (4 * e + 3)) i (ed_dp (fun i => aQ (D + 1 + 2 * i)) i - 2)) (ed_pe (fun i => aQ (D + 1 + 2 * i)) (fun i => aQ (D + 2 + 2 * i)) (aE (4 * e + 1)) (aE (4 * e + 2)) (aE (4 * e)) (aE (4 * e + 3)) i (ed_dp (fun i => aQ (D + 1 + 2 * i)) i - 1)) → wY_meets_95 post (wY_meets_20 post (nI e) (nI D) fT fL fK fW fB fH fO (m + 1)) (nI e) (nI D) (nI (ed_dp (fun i => aQ (D + 1 + 2 * i)) i)) (nI i) (nI k) (nI (ed_tk (nI k))) yy zx fT fL fK fW fB fH fO aT aL aQ aE aG aKQ aKE aKG aW S aM aV aZ aB := by
        intro yy zx q
        refine yb_95 (by omega) he hk ht (by omega) ?_
        rw [q]
        exact H
      rcases Nat.lt_or_ge k 5 with k5 | k5
      · have t0 := ed_tk0 (k := k) (by omega)
        refine br_t (by rw [t0]; decide) (br_t (by rw [t0]; decide) (g95 _ _ ?_))
        have : k = 0 ∨ k = 1 ∨ k = 2 ∨ k = 3 ∨ k = 4 := by omega
        rcases this with rfl | rfl | rfl | rfl | rfl
        · rw [ed_rs0, ed_rs0]
        · rw [ed_rs1, ed_rs1]
        · rw [ed_rs2, ed_rs2]
        · rw [ed_rs3, ed_rs3]
        · rw [ed_rs4, ed_rs4]
      · have d1 : 1 ≤ ed_dp (fun i => aQ (D + 1 + 2 * i)) i := by
          by_cases k12 : k = 12
          · subst k12; rw [ed_tk12] at ht; omega
          · rw [ed_tk2 k5 hk k12] at ht; omega
        have em1 : nI (ed_dp (fun i => aQ (D + 1 + 2 * i)) i) - 1 = nI (ed_dp (fun i => aQ (D + 1 + 2 * i)) i - 1) := pk_sub (b := 1) d1
        have cm1 : (nI (ed_dp (fun i => aQ (D + 1 + 2 * i)) i) - 1).toNatClampNeg = ed_dp (fun i => aQ (D + 1 + 2 * i)) i - 1 := by rw [em1, nI_clamp (by omega)]
        have vm1 : vp_in (nI (ed_dp (fun i => aQ (D + 1 + 2 * i)) i) - 1) 13 := by rw [em1]; exact vp_in_nI (by omega) (by omega)
        have s1 := hS (ed_dp (fun i => aQ (D + 1 + 2 * i)) i - 1) (by omega)
        by_cases k12 : k = 12
        · subst k12
          refine br_f (by rw [ed_tk12]; decide) ⟨vm1, br_t (by rw [ed_tk12]; decide) (g95 _ _ ?_)⟩
          rw [cm1, ed_rsc (by omega) (by omega), ed_rsc (by omega) (by omega), ed_cb12, ed_cb12, s1]
        · have t2 := ed_tk2 k5 hk k12
          have ht2 := ht
          rw [t2] at ht2
          have em2 : nI (ed_dp (fun i => aQ (D + 1 + 2 * i)) i) - 2 = nI (ed_dp (fun i => aQ (D + 1 + 2 * i)) i - 2) := pk_sub (b := 2) ht2
          have cm2 : (nI (ed_dp (fun i => aQ (D + 1 + 2 * i)) i) - 2).toNatClampNeg = ed_dp (fun i => aQ (D + 1 + 2 * i)) i - 2 := by rw [em2, nI_clamp (by omega)]
          have vm2 : vp_in (nI (ed_dp (fun i => aQ (D + 1 + 2 * i)) i) - 2) 13 := by rw [em2]; exact vp_in_nI (by omega) (by omega)
          have s2 := hS (ed_dp (fun i => aQ (D + 1 + 2 * i)) i - 2) (by omega)
          refine br_f (by rw [t2]; decide) ⟨vm1, br_f (by rw [t2]; decide) ⟨vm2, g95 _ _ ?_⟩⟩
          rw [cm1, cm2, s1, s2]
  obtain ⟨st, hst⟩ := key n 0 aS (by omega) (fun j hj => absurd hj (Nat.not_lt_zero _))
  refine ⟨st, fun post h => ?_⟩
  unfold wpY_meets
  dsimp only
  rw [eD]
  exact nm_e ⟨n + 1, hst post h⟩
end
end
section
/-! Y's table of conditions met -/
def ed_MY (aQ aE : Nat → Int32) (s w i : Nat) : Prop := ed_pe (fun j => aQ (100 * s + 24 + 25 * w + 1 + 2 * j)) (fun j => aQ (100 * s + 24 + 25 * w + 2 + 2 * j)) (aE (4 * i + 1)) (aE (4 * i + 2)) (aE (4 * i)) (aE (4 * i + 3)) (aQ (100 * s + 24 + 25 * w)).toNatClampNeg 0 ≠ 0
theorem ed_MY_ok {x y : Nat → Int32} {p q : Nat} (ce : ed_ce x p y q) (cv : ed_cv x p) : ∃ n, y q = nI n ∧ ed_ok (fun j => y (q + 1 + 2 * j)) n := by
  obtain ⟨n, e, o⟩ := cv
  exact ⟨n, ce.1.symm.trans e, ed_ok_cg (fun i hi => (ce.2 i (by have := o.1; omega)).1) o⟩
theorem ed_MY_iff {x aQ aE ty a b t : Nat → Int32} {s w i : Nat} (ce : ed_ce x (99 * s + 24 + 25 * w) aQ (100 * s + 24 + 25 * w)) (cv : ed_cv x (99 * s + 24 + 25 * w)) (ev : aE (4 * i) = ty i ∧ aE (4 * i + 1) = a i ∧ aE (4 * i + 2) = b i ∧ aE (4 * i + 3) = t i) : ed_MY aQ aE s w i ↔ ed_me x (99 * s + 24 + 25 * w) (a i) (b i) (ty i) (t i) := by
  obtain ⟨n, e, o⟩ := cv
  have hn := o.1
  unfold ed_MY ed_me
  rw [ev.1, ev.2.1, ev.2.2.1, ev.2.2.2, ← ce.1, e, nI_clamp (by omega)]
  rw [ed_pe_cg (n := n) (o := fun j => aQ (100 * s + 24 + 25 * w + 1 + 2 * j)) (v := fun j => aQ (100 * s + 24 + 25 * w + 2 + 2 * j)) (o' := fun i => x (99 * s + 24 + 25 * w + 1 + i)) (v' := fun i => x (99 * s + 24 + 25 * w + 13 + i)) (fun i hi => (ce.2 i (by omega)).1.symm) (fun i hi => (ce.2 i (by omega)).2.symm)]
section
variable {xl xw xk : Int32} {xP xL xF xQ xT xA xB xC xM xG kF kQ kT kA kB kC kM kG xS xZ : Nat → Int32}
variable {fT fL fK fW fB fH fO : Int32} {aT aL aQ aE aG aKQ aKE aKG aW aS aM aV aZ aB : Nat → Int32}
theorem yv_42 {s w e n : Nat} (hs : s < 6) (hw : w < 3) (he : e < 64) (en : aQ (100 * s + 24 + 25 * w) = nI n) (ok : ed_ok (fun i => aQ (100 * s + 24 + 25 * w + 1 + 2 * i)) n) : ∀ (m i : Nat) (S M : Nat → Int32), i + m = e + 1 → ∃ st M', (∀ j, i ≤ j → j ≤ e → M' (64 * w + j) = ed_bi (ed_MY aQ aE s w j)) ∧ (∀ j, (j < 64 * w + i ∨ 64 * w + e < j) → M' j = M j) ∧ ∀ (post : SY → Prop) (J : (Int32 → Int32 → Int32 → Int32 → Int32 → Int32 → Int32 → Int32 → (Nat → Int32) → (Nat → Int32) → (Nat → Int32) → (Nat → Int32) → (Nat → Int32) → (Nat → Int32) → (Nat → Int32) → (Nat → Int32) → (Nat → Int32) → (Nat → Int32) → (Nat → Int32) → (Nat → Int32) → (Nat → Int32) → (Nat → Int32) → Prop)), J (nI (w + 1)) fT fL fK fW fB fH fO aT aL aQ aE aG aKQ aKE aKG aW st M' aV aZ aB → wY_ask_42 post J (nI s) (nI e) (nI w) (m + 1) (nI i) fT fL fK fW fB fH fO aT aL aQ aE aG aKQ aKE aKG aW S M aV aZ aB := by
  intro m
  induction m with
  | zero =>
    intro i S M hi
    exact ⟨S, M, fun j h1 h2 => by omega, fun _ _ => rfl, fun post J h => br_t (nI_lt (by omega) (by omega)) (nm_r (nI_1 w) h)⟩
  | succ m ih =>
    intro i S M hi
    obtain ⟨S1, h1⟩ := yv_meets (fT := fT) (fL := fL) (fK := fK) (fW := fW) (fB := fB) (fH := fH) (fO := fO) (aT := aT) (aL := aL) (aG := aG) (aKQ := aKQ) (aKE := aKE) (aKG := aKG) (aW := aW) (aS := S) (aM := M) (aV := aV) (aZ := aZ) (aB := aB) (aE := aE) (e := i) hs hw (by omega) en ok
    have eM : (ed_pe (fun i => aQ (100 * s + 24 + 25 * w + 1 + 2 * i)) (fun i => aQ (100 * s + 24 + 25 * w + 2 + 2 * i)) (aE (4 * i + 1)) (aE (4 * i + 2)) (aE (4 * i)) (aE (4 * i + 3)) n 0 ≠ 0) = ed_MY aQ aE s w i := by
      unfold ed_MY; rw [en, nI_clamp (by have := ok.1; omega)]
    rw [eM] at h1
    obtain ⟨st, M', a1, a2, a3⟩ := ih (i + 1) S1 (upd M (64 * w + i) (ed_bi (ed_MY aQ aE s w i))) (by omega)
    have e64 : (64 : Int32) * nI w + nI i = nI (64 * w + i) := by rw [show (64 : Int32) * nI w = nI (64 * w) from pk_mul 64 w, nI_add]
    refine ⟨st, M', ?_, ?_, fun post J h => br_f (nI_nlt (by omega) (by omega)) (h1 _ ⟨by rw [e64]; exact vp_in_nI (by omega) (by omega), nm_r (e' := upd M (64 * w + i) (ed_bi (ed_MY aQ aE s w i))) (by rw [e64, ed_nbi, nI_clamp (by omega)]) (nm_r (nI_1 i) (a3 post J h))⟩)⟩
    · intro j h2 h3
      by_cases e0 : j = i
      · subst e0; rw [a2 _ (by omega), pk_us]
      · exact a1 j (by omega) h3
    · intro j h2
      rw [a2 j (by omega), pk_un (by omega)]
theorem yv_12 {s c e f : Nat} (hs : s < 6) (hc : c ≤ 3) (he : e < 64) (hf : f ≤ e) (c20 : aQ (100 * s + 20) = nI c) (c9 : aQ (100 * s + 9) = nI f) (hv : ∀ w, w < c → ∃ n, aQ (100 * s + 24 + 25 * w) = nI n ∧ ed_ok (fun i => aQ (100 * s + 24 + 25 * w + 1 + 2 * i)) n) : ∀ (m w : Nat) (S M : Nat → Int32), w + m = c → ∃ st M', (∀ v j, w ≤ v → v < c → f ≤ j → j ≤ e → M' (64 * v + j) = ed_bi (ed_MY aQ aE s v j)) ∧ (∀ j, j < 64 * w → M' j = M j) ∧ ∀ (post : SY → Prop), wY_ask_12 post (nI s) (nI e) 1 (nI c) fT fL fK fW fB fH fO aT aL aQ aE aG aKQ aKE aKG aW st M' aV aZ aB → wY_ask_12 post (nI s) (nI e) (m + 1) (nI w) fT fL fK fW fB fH fO aT aL aQ aE aG aKQ aKE aKG aW S M aV aZ aB := by
  have w20 := ed_y s 20 hs (by omega)
  have w9 := ed_y s 9 hs (by omega)
  have d20 : (100 * nI s + 20).toNatClampNeg = 100 * s + 20 := w20.2
  have d9 : (100 * nI s + 9).toNatClampNeg = 100 * s + 9 := w9.2
  intro m
  induction m with
  | zero =>
    intro w S M hw
    have e0 : w = c := by omega
    subst e0
    exact ⟨S, M, fun v j h1 h2 => by omega, fun _ _ => rfl, fun post h => h⟩
  | succ m ih =>
    intro w S M hw
    obtain ⟨n, en, ok⟩ := hv w (by omega)
    obtain ⟨S1, M1, a1, a2, a3⟩ := yv_42 (fT := fT) (fL := fL) (fK := fK) (fW := fW) (fB := fB) (fH := fH) (fO := fO) (aT := aT) (aL := aL) (aE := aE) (aG := aG) (aKQ := aKQ) (aKE := aKE) (aKG := aKG) (aW := aW) (aV := aV) (aZ := aZ) (aB := aB) hs (by omega) he en ok (e + 1 - f) f S M (by omega)
    obtain ⟨st, M', b1, b2, b3⟩ := ih (w + 1) S1 M1 (by omega)
    refine ⟨st, M', ?_, ?_, fun post h => ⟨w20.1, br_f (by rw [d20, c20]; exact nI_ge (by omega) (by omega)) ⟨w9.1, nm_r (e' := nI f) (by rw [d9]; exact c9) ⟨e + 1 - f + 1, a3 post _ (b3 post h)⟩⟩⟩⟩
    · intro v j h1 h2 h3 h4
      by_cases e0 : v = w
      · subst e0; rw [b2 _ (by omega)]; exact a1 j h3 h4
      · exact b1 v j (by omega) h2 h3 h4
    · intro j hj
      rw [b2 j (by omega), a2 j (by omega)]
theorem yv_tab {s c e f : Nat} (hs : s < 6) (hc : c ≤ 3) (he : e < 64) (hf : f ≤ e) (c20 : aQ (100 * s + 20) = nI c) (c9 : aQ (100 * s + 9) = nI f) (hv : ∀ w, w < c → ∃ n, aQ (100 * s + 24 + 25 * w) = nI n ∧ ed_ok (fun i => aQ (100 * s + 24 + 25 * w + 1 + 2 * i)) n) : ∃ st M', (∀ v j, v < c → f ≤ j → j ≤ e → M' (64 * v + j) = ed_bi (ed_MY aQ aE s v j)) ∧ ∀ (post : SY → Prop), wY_ask_12 post (nI s) (nI e) 1 (nI c) fT fL fK fW fB 0 0 aT aL aQ aE aG aKQ aKE aKG aW st M' aV aZ aB → wpY_ask post (fT, fL, fK, fW, fB, fH, fO, aT, aL, aQ, aE, aG, aKQ, aKE, aKG, aW, aS, aM, aV, aZ, aB) (nI s) (nI e) := by
  obtain ⟨st, M', a1, _, a3⟩ := yv_12 (fT := fT) (fL := fL) (fK := fK) (fW := fW) (fB := fB) (fH := 0) (fO := 0) (aT := aT) (aL := aL) (aE := aE) (aG := aG) (aKQ := aKQ) (aKE := aKE) (aKG := aKG) (aW := aW) (aV := aV) (aZ := aZ) (aB := aB) hs hc he hf c20 c9 hv c 0 aS aM (by omega)
  exact ⟨st, M', fun v j h1 h2 h3 => a1 v j (Nat.zero_le _) h1 h2 h3, fun post h => ⟨c + 1, a3 post h⟩⟩
end
end
section
/-! X's window -/
theorem ed_m1lt {f : Nat} (h : f ≤ 64) : nI f + (-1) < nI f := by
  rcases Nat.eq_zero_or_pos f with z | z
  · subst z; decide
  · obtain ⟨g, rfl⟩ : ∃ g, f = g + 1 := ⟨f - 1, by omega⟩
    rw [pk_m1]; exact nI_lt (by omega) (by omega)
theorem ed_bz {m : Int32} {l : Nat} {P : Prop} (hl : l < 32) (h : bt m l = true ↔ P) : (m &&& ((1 : Int32) <<< (nI l &&& 31))) = 0 ↔ ¬ P := by
  rw [ed_bit m l hl, ← h]
  cases bt m l <;> simp
section
variable {xl xw xk : Int32} {xP xL xF xQ xT xA xB xC xM xG kF kQ kT kA kB kC kM kG xS xZ : Nat → Int32}
theorem xv_batch {post : Int32 → Prop} {s e f n l : Nat} {mem : Nat → Prop} (hs : s < 6) (he : e < 64) (hf : f ≤ e) (hl : l < 32) (n12 : xQ (99 * s + 12) = nI f) (n1 : xQ (99 * s + 1) = nI n) (hn1 : 1 ≤ n) (hn : n ≤ 100) (HB : ∀ i, f ≤ i → i ≤ e → (bt (xM i) l = true ↔ mem i)) (me : mem e) (h : post (ed_bi (ed_cn mem f (e + 1 - f) % n = 0))) : wpX_fillsBatch post (xl, xw, xk, xP, xL, xF, xQ, xT, xA, xB, xC, xM, xG, kF, kQ, kT, kA, kB, kC, kM, kG, xS, xZ) (nI s * 99) ((1 : Int32) <<< (nI l &&& 31)) (nI e) := by
  have w12 := ed_x s 12 hs (by omega)
  have w1 := ed_x s 1 hs (by omega)
  have c12 : (nI s * 99 + 12).toNatClampNeg = 99 * s + 12 := w12.2
  have c1 : (nI s * 99 + 1).toNatClampNeg = 99 * s + 1 := w1.2
  have key : ∀ m i x : Nat, i + m = e + 1 → f ≤ i → x ≤ n → x % n = ed_cn mem f (i - f) % n → (i = e + 1 → 1 ≤ x) → wX_fillsBatch_14 post (nI s * 99) ((1 : Int32) <<< (nI l &&& 31)) (nI e) xl xw xk xP xL xF xQ xT xA xB xC xM xG kF kQ kT kA kB kC kM kG xS xZ (m + 1) (nI x) (nI i) := by
    intro m
    induction m with
    | zero =>
      intro i x hi hfi hx hc h1
      have e0 : i = e + 1 := by omega
      subst e0
      have q := ed_batch hn1 (h1 rfl) hx hc
      refine br_t (nI_lt (by omega) (by omega)) ⟨w1.1, ?_⟩
      rw [c1, n1]
      by_cases z : x = n
      · rw [ed_bi_t (q.mp z)] at h
        exact br_t (by rw [z]) h
      · rw [ed_bi_f (fun y => z (q.mpr y))] at h
        exact br_f (fun y => z ((nI_eq (by omega) (by omega)).mp y)) h
    | succ m ih =>
      intro i x hi hfi hx hc h1
      have ci : (nI i).toNatClampNeg = i := nI_clamp (by omega)
      have ec : ed_cn mem f (i + 1 - f) = ed_cn mem f (i - f) + ed_b (mem i) := by
        rw [show i + 1 - f = (i - f) + 1 by omega, ed_cn, show f + (i - f) = i by omega]
      have st : ∀ y : Nat, y < n → y % n = x % n → wX_fillsBatch_36 post (wX_fillsBatch_14 post (nI s * 99) ((1 : Int32) <<< (nI l &&& 31)) (nI e) xl xw xk xP xL xF xQ xT xA xB xC xM xG kF kQ kT kA kB kC kM kG xS xZ (m + 1)) (nI s * 99) ((1 : Int32) <<< (nI l &&& 31)) (nI e) (nI y) (nI i) xl xw xk xP xL xF xQ xT xA xB xC xM xG kF kQ kT kA kB kC kM kG xS xZ := by
        intro y hy hyx
        refine ⟨vp_in_nI (by omega) (by omega), ?_⟩
        rw [ci]
        rcases Classical.em (mem i) with z | z
        · refine br_f (fun q => (ed_bz hl (HB i hfi (by omega))).mp q z) (nm_r (nI_1 y) (nm_r (nI_1 i) (ih (i + 1) (y + 1) (by omega) (by omega) (by omega) ?_ (fun _ => by omega))))
          rw [ec, ed_bt z, Nat.add_mod, hyx, hc, ← Nat.add_mod]
        · refine br_t ((ed_bz hl (HB i hfi (by omega))).mpr z) (nm_r (nI_1 i) (ih (i + 1) y (by omega) (by omega) (by omega) ?_ (fun q => ?_)))
          · rw [ec, ed_bf z, Nat.add_zero, hyx, hc]
          · have : i = e := by omega
            subst this
            exact absurd me z
      refine br_f (nI_nlt (by omega) (by omega)) ⟨w1.1, ?_⟩
      rw [c1, n1]
      by_cases z : x = n
      · exact br_t (by rw [z]) (st 0 (by omega) (by rw [z, Nat.mod_self, Nat.zero_mod]))
      · exact br_f (fun y => z ((nI_eq (by omega) (by omega)).mp y)) (st x (by omega) rfl)
  refine ⟨w12.1, nm_r (e' := nI f) (by rw [c12]; exact n12) ⟨e + 1 - f + 1, ?_⟩⟩
  exact key (e + 1 - f) f 0 (by omega) (Nat.le_refl _) (by omega) (by rw [Nat.sub_self]; rfl) (fun q => by omega)
theorem xv_before {post : Int32 → Prop} {s e i kind : Nat} {N : Int32} {mem : Nat → Prop} (hs : s < 6) (he : e < 64) (hi : i ≤ e) (n1 : xQ (99 * s + 1) = N) (n3 : xQ (99 * s + 3) = nI kind) (hk : kind ≤ 5) (h0 : ed_cd mem xC kind N e i → post 0) (h1 : ¬ ed_cd mem xC kind N e i → post 1) : wpX_isBeforeView post (xl, xw, xk, xP, xL, xF, xQ, xT, xA, xB, xC, xM, xG, kF, kQ, kT, kA, kB, kC, kM, kG, xS, xZ) (nI s * 99) (nI i) (nI (ed_nx mem e (e - i))) (nI e) (nI (ed_cn mem (i + 1) (e - i))) := by
  have w3 := ed_x s 3 hs (by omega)
  have w1 := ed_x s 1 hs (by omega)
  have c3 : (nI s * 99 + 3).toNatClampNeg = 99 * s + 3 := w3.2
  have c1 : (nI s * 99 + 1).toNatClampNeg = 99 * s + 1 := w1.2
  have nl := ed_nx_le mem e (e - i)
  have ci : (nI i).toNatClampNeg = i := nI_clamp (by omega)
  have ce : (nI e).toNatClampNeg = e := nI_clamp (by omega)
  have cn : (nI (ed_nx mem e (e - i))).toNatClampNeg = ed_nx mem e (e - i) := nI_clamp (by omega)
  have vi : vp_in (nI i) 64 := vp_in_nI (by omega) (by omega)
  have ve : vp_in (nI e) 64 := vp_in_nI (by omega) (by omega)
  have vn : vp_in (nI (ed_nx mem e (e - i))) 64 := vp_in_nI (by omega) (by omega)
  refine ⟨w1.1, nm_r (e' := N) (by rw [c1]; exact n1) ⟨w3.1, nm_r (e' := nI kind) (by rw [c3]; exact n3) ?_⟩⟩
  rw [ci, ce, cn]
  unfold ed_cd at h0 h1
  have : kind = 0 ∨ kind = 1 ∨ kind = 2 ∨ kind = 3 ∨ kind = 4 ∨ kind = 5 := by omega
  rcases this with rfl | rfl | rfl | rfl | rfl | rfl
  · exact br_t (by decide) (h0 ⟨fun q => by omega, fun q => by omega, fun q => by omega⟩)
  · refine br_f (by decide) (br_f (by decide) (br_t rfl ?_))
    by_cases z : nI (ed_cn mem (i + 1) (e - i)) < N
    · exact br_t z (h0 ⟨fun _ => z, fun q => by omega, fun q => by omega⟩)
    · exact br_f z (h1 (fun q => z (q.1 (Or.inl rfl))))
  · refine br_f (by decide) (br_f (by decide) (br_f (by decide) (br_t rfl ⟨ve, vi, ?_⟩)))
    by_cases z : xC e - xC i < N
    · exact br_t z (h0 ⟨fun q => by omega, fun _ => z, fun q => by omega⟩)
    · exact br_f z (h1 (fun q => z (q.2.1 rfl)))
  · refine br_f (by decide) (br_f (by decide) (br_f (by decide) (br_f (by decide) (br_t rfl ?_))))
    by_cases z : nI (ed_cn mem (i + 1) (e - i)) < N
    · exact br_t z (h0 ⟨fun _ => z, fun q => by omega, fun q => by omega⟩)
    · exact br_f z (h1 (fun q => z (q.1 (Or.inr rfl))))
  · exact br_f (by decide) (br_f (by decide) (br_f (by decide) (br_f (by decide) (br_f (by decide) (br_t rfl (h0 ⟨fun q => by omega, fun q => by omega, fun q => by omega⟩))))))
  · refine br_f (by decide) (br_f (by decide) (br_f (by decide) (br_f (by decide) (br_f (by decide) (br_f (by decide) (br_t rfl ⟨vn, vi, ?_⟩))))))
    by_cases z : xC (ed_nx mem e (e - i)) - xC i < N
    · exact br_t z (h0 ⟨fun q => by omega, fun q => by omega, fun _ => z⟩)
    · exact br_f z (h1 (fun q => z (q.2.2 rfl)))
theorem xv_later {post : Int32 → Prop} {e f i l : Nat} {mem : Nat → Prop} (he : e < 64) (hi : i ≤ e) (hfi : f ≤ i) (hl : l < 32) (HB : ∀ i, f ≤ i → i ≤ e → (bt (xM i) l = true ↔ mem i)) (h0 : (∀ j, i < j → j ≤ e → mem j → xA j ≠ xA i) → post 0) (h1 : ¬ (∀ j, i < j → j ≤ e → mem j → xA j ≠ xA i) → post 1) : wpX_hasLaterWithSameA post (xl, xw, xk, xP, xL, xF, xQ, xT, xA, xB, xC, xM, xG, kF, kQ, kT, kA, kB, kC, kM, kG, xS, xZ) ((1 : Int32) <<< (nI l &&& 31)) (nI i) (nI e) := by
  have ci : (nI i).toNatClampNeg = i := nI_clamp (by omega)
  have key : ∀ m k : Nat, k + m = e + 1 → i < k → (∀ j, i < j → j < k → mem j → xA j ≠ xA i) → wX_hasLaterWithSameA_5 post ((1 : Int32) <<< (nI l &&& 31)) (nI i) (nI e) xl xw xk xP xL xF xQ xT xA xB xC xM xG kF kQ kT kA kB kC kM kG xS xZ (m + 1) (nI k) := by
    intro m
    induction m with
    | zero =>
      intro k hk hik g
      exact br_t (nI_lt (by omega) (by omega)) (h0 (fun j a b => g j a (by omega)))
    | succ m ih =>
      intro k hk hik g
      have ck : (nI k).toNatClampNeg = k := nI_clamp (by omega)
      have vk : vp_in (nI k) 64 := vp_in_nI (by omega) (by omega)
      refine br_f (nI_nlt (by omega) (by omega)) ⟨vk, ?_⟩
      rw [ck, ci]
      rcases Classical.em (mem k) with z | z
      · refine br_f (fun q => (ed_bz hl (HB k (by omega) (by omega))).mp q z) ⟨vk, vp_in_nI (by omega) (by omega), ?_⟩
        by_cases za : xA k = xA i
        · exact br_t za (h1 (fun q => q k hik (by omega) z za))
        · refine br_f za (nm_r (nI_1 k) (ih (k + 1) (by omega) (by omega) (fun j a b c => ?_)))
          by_cases e0 : j = k
          · subst e0; exact za
          · exact g j a (by omega) c
      · refine br_t ((ed_bz hl (HB k (by omega) (by omega))).mpr z) (nm_r (nI_1 k) (ih (k + 1) (by omega) (by omega) (fun j a b c => ?_)))
        by_cases e0 : j = k
        · subst e0; exact absurd c z
        · exact g j a (by omega) c
  exact nm_r (nI_1 i) ⟨e - i + 1, key (e - i) (i + 1) (by omega) (by omega) (fun j a b => by omega)⟩
theorem xv_ins {post : SX → Prop} {v : Int32} {n : Nat} {L : List Int32} (hn : n < 64) (hZ : ed_st xZ n L) (h : ∀ Z, ed_st Z (n + 1) (v :: L) → post (xl, xw, xk, xP, xL, xF, xQ, xT, xA, xB, xC, xM, xG, kF, kQ, kT, kA, kB, kC, kM, kG, xS, Z)) : wpX_insertSorted post (xl, xw, xk, xP, xL, xF, xQ, xT, xA, xB, xC, xM, xG, kF, kQ, kT, kA, kB, kC, kM, kG, xS, xZ) v (nI n) := by
  have key : ∀ (p : Nat) (Z : Nat → Int32), p ≤ n → (∀ j, j < p → Z j = xZ j) → (∀ j, p ≤ j → j < n → Z (j + 1) = xZ j) → (∀ j, p ≤ j → j < n → v ≤ xZ j) → wX_insertSorted_2 post v xl xw xk (p + 1) (nI p) xP xL xF xQ xT xA xB xC xM xG kF kQ kT kA kB kC kM kG xS Z := by
    intro p
    induction p with
    | zero =>
      intro Z hp h1 h2 h3
      refine br_t (by decide) ⟨vp_in_nI (n := 0) (by omega) (by omega), nm_r (e' := upd Z 0 v) rfl (h _ ?_)⟩
      exact ed_st_ins (p := 0) hZ (by omega) (fun j hj => absurd hj (Nat.not_lt_zero _)) h3 (fun j hj => absurd hj (Nat.not_lt_zero _)) pk_us (fun j a b => by rw [pk_un (by omega)]; exact h2 j a b)
    | succ p ih =>
      intro Z hp h1 h2 h3
      have e1 : nI (p + 1) - 1 = nI p := nI_pred p
      have c1 : (nI (p + 1) - 1).toNatClampNeg = p := by rw [e1, nI_clamp (by omega)]
      have v1 : vp_in (nI (p + 1) - 1) 64 := by rw [e1]; exact vp_in_nI (by omega) (by omega)
      have v2 : vp_in (nI (p + 1)) 64 := vp_in_nI (by omega) (by omega)
      have c2 : (nI (p + 1)).toNatClampNeg = p + 1 := nI_clamp (by omega)
      refine br_f (nI_nle (by omega) (by omega)) ⟨v1, ?_⟩
      rw [c1]
      by_cases z : Z p ≤ v
      · have z' : xZ p ≤ v := by rw [← h1 p (by omega)]; exact z
        refine br_t z ⟨v2, nm_r (e' := upd Z (p + 1) v) (by rw [c2]) (h _ ?_)⟩
        refine ed_st_ins (p := p + 1) hZ hp (fun j hj => ?_) h3 (fun j hj => by rw [pk_un (by omega)]; exact h1 j hj) pk_us (fun j a b => by rw [pk_un (by omega)]; exact h2 j a b)
        by_cases e0 : j = p
        · subst e0; exact z'
        · exact Int32.le_trans (hZ.1 j p (by omega) (by omega)) z'
      · have z' : v ≤ xZ p := by rw [← h1 p (by omega)]; exact Int32.le_of_lt (Int32.not_le.mp z)
        refine br_f z ⟨v1, v2, nm_r (e' := upd Z (p + 1) (Z p)) (by rw [c2]) (nm_r (pk_m1 p) (ih _ (by omega) (fun j hj => ?_) (fun j a b => ?_) (fun j a b => ?_)))⟩
        · rw [pk_un (by omega)]; exact h1 j (by omega)
        · by_cases e0 : j = p
          · subst e0; rw [pk_us]; exact h1 j (by omega)
          · rw [pk_un (by omega)]; exact h2 j (by omega) b
        · by_cases e0 : j = p
          · subst e0; exact z'
          · exact h3 j (by omega) b
  exact ⟨n + 1, key n xZ (Nat.le_refl _) (fun _ _ => rfl) (fun j a b => by omega) (fun j a b => by omega)⟩
end
end
section
/-! X's window: the sorted view and its total -/
theorem ed_bs_len (P : Nat → Prop) (B : Nat → Int32) (f : Nat) : ∀ d, (ed_bs P B f d).length ≤ d
  | 0 => Nat.le_refl _
  | d + 1 => by
    have ih := ed_bs_len P B f d
    rcases Classical.em (P (f + d)) with p | p
    · rw [ed_bs_t p, List.length_cons]; omega
    · rw [ed_bs_f p]; omega
section
variable {xl xw xk : Int32} {xP xL xF xQ xT xA xB xC xM xG kF kQ kT kA kB kC kM kG xS xZ : Nat → Int32}
theorem xv_sloop {post : Int32 → SX → Prop} {s e f kind gr l : Nat} {N fo fg : Int32} {mem : Nat → Prop} (hs : s < 6) (he : e < 64) (hf : f ≤ e) (hl : l < 32) (n12 : xQ (99 * s + 12) = nI f) (n1 : xQ (99 * s + 1) = N) (n3 : xQ (99 * s + 3) = nI kind) (hk : kind ≤ 5) (hfo : fo = 0 ↔ kind ≠ 4) (hfg : fg = 0 ↔ gr ≠ 1) (HB : ∀ i, f ≤ i → i ≤ e → (bt (xM i) l = true ↔ mem i)) (h : ∀ Z n, ed_st Z n (ed_bs (ed_px mem xC xA kind N (gr = 1) e) xB f (e + 1 - f)) → post (nI n) (xl, xw, xk, xP, xL, xF, xQ, xT, xA, xB, xC, xM, xG, kF, kQ, kT, kA, kB, kC, kM, kG, xS, Z)) : ∀ (m n : Nat) (Z : Nat → Int32), f + m ≤ e + 1 → ed_st Z n (ed_bs (ed_px mem xC xA kind N (gr = 1) e) xB (f + m) (e + 1 - (f + m))) → (∀ j, f + m ≤ j → j ≤ e → mem j → ed_cd mem xC kind N e j) → wX_sortView_50 post (nI s * 99) ((1 : Int32) <<< (nI l &&& 31)) (nI e) fo fg (m + 1) (nI n) (nI (ed_cn mem (f + m) (e + 1 - (f + m)))) (nI (ed_nx mem e (e + 1 - (f + m)))) (nI (f + m) + (-1)) xl xw xk xP xL xF xQ xT xA xB xC xM xG kF kQ kT kA kB kC kM kG xS Z := by
  have w12 := ed_x s 12 hs (by omega)
  have c12 : (nI s * 99 + 12).toNatClampNeg = 99 * s + 12 := w12.2
  intro m
  induction m with
  | zero =>
    intro n Z hm hZ _
    refine ⟨w12.1, br_t ?_ (h Z n hZ)⟩
    rw [c12, n12]; exact ed_m1lt (by omega)
  | succ m ih =>
    intro n Z hm hZ hcd
    obtain ⟨i, hi⟩ : ∃ i, i = f + m := ⟨_, rfl⟩
    have q1 : f + (m + 1) = i + 1 := by omega
    have q2 : e + 1 - (i + 1) = e - i := by omega
    have q3 : e + 1 - (f + m) = (e - i) + 1 := by omega
    have q4 : e - (e - i) = i := by omega
    rw [q1, q2] at hZ
    rw [q1] at hcd
    rw [q1, q2, pk_m1]
    have hn : n ≤ e - i := by rw [← ed_st_len hZ]; exact ed_bs_len _ _ _ _
    have ci : (nI i).toNatClampNeg = i := nI_clamp (by omega)
    have ce : (nI e).toNatClampNeg = e := nI_clamp (by omega)
    have vi : vp_in (nI i) 64 := vp_in_nI (by omega) (by omega)
    have ve : vp_in (nI e) 64 := vp_in_nI (by omega) (by omega)
    have IH := ih
    rw [q3, ← hi] at IH
    refine ⟨w12.1, br_f (by rw [c12, n12]; exact nI_nlt (by omega) (by omega)) ⟨vi, ?_⟩⟩
    rw [ci]
    rcases Classical.em (mem i) with z | z
    rotate_left
    · have np : ¬ ed_px mem xC xA kind N (gr = 1) e i := fun q => z q.1
      have e1 : ed_cn mem i ((e - i) + 1) = ed_cn mem (i + 1) (e - i) := by rw [ed_cn_front, ed_bf z, Nat.zero_add]
      have e2 : ed_nx mem e ((e - i) + 1) = ed_nx mem e (e - i) := ed_nx_f (by rw [q4]; exact z)
      rw [e1, e2] at IH
      refine br_t ((ed_bz hl (HB i (by omega) (by omega))).mpr z) (nm_e (IH n Z (by omega) ?_ ?_))
      · rw [ed_bs_ff np]; exact hZ
      · intro j h1 h2 h3
        by_cases e0 : j = i
        · subst e0; exact absurd h3 z
        · exact hcd j (by omega) h2 h3
    · refine br_f (fun q => (ed_bz hl (HB i (by omega) (by omega))).mp q z) (xv_before (xZ := Z) hs he (by omega) n1 n3 hk (fun zc => br_t rfl (nm_r (nI_1 _) ?_)) (fun zc => br_f (by decide) ?_))
      · have e1 : ed_cn mem i ((e - i) + 1) = ed_cn mem (i + 1) (e - i) + 1 := by rw [ed_cn_front, ed_bt z, Nat.add_comm]
        have e2 : ed_nx mem e ((e - i) + 1) = i := by rw [ed_nx_t (by rw [q4]; exact z), q4]
        rw [e1, e2] at IH
        have hcd' : ∀ j, i ≤ j → j ≤ e → mem j → ed_cd mem xC kind N e j := by
          intro j h1 h2 h3
          by_cases e0 : j = i
          · subst e0; exact zc
          · exact hcd j (by omega) h2 h3
        have skip : ¬ ed_px mem xC xA kind N (gr = 1) e i → wX_sortView_50 post (nI s * 99) ((1 : Int32) <<< (nI l &&& 31)) (nI e) fo fg (m + 1) (nI n) (nI (ed_cn mem (i + 1) (e - i) + 1)) (nI i) (nI i + (-1)) xl xw xk xP xL xF xQ xT xA xB xC xM xG kF kQ kT kA kB kC kM kG xS Z := by
          intro np
          exact IH n Z (by omega) (by rw [ed_bs_ff np]; exact hZ) hcd'
        have ins : ed_px mem xC xA kind N (gr = 1) e i → wX_sortView_153 post (wX_sortView_50 post (nI s * 99) ((1 : Int32) <<< (nI l &&& 31)) (nI e) fo fg (m + 1)) (nI s * 99) ((1 : Int32) <<< (nI l &&& 31)) (nI e) fo fg (nI n) (nI (ed_cn mem (i + 1) (e - i) + 1)) (nI i) (nI i) xl xw xk xP xL xF xQ xT xA xB xC xM xG kF kQ kT kA kB kC kM kG xS Z := by
          intro p
          refine ⟨vi, ?_⟩
          rw [ci]
          exact xv_ins (xZ := Z) (by omega) hZ (fun Z' hZ' => nm_r (nI_1 n) (nm_e (IH (n + 1) Z' (by omega) (ed_st_p hZ' (ed_bs_ft p (e - i)).symm) hcd')))
        have grp : (kind = 4 → ∀ j, i < j → j ≤ e → mem j → xA j ≠ xA i) → wX_sortView_124 post (wX_sortView_50 post (nI s * 99) ((1 : Int32) <<< (nI l &&& 31)) (nI e) fo fg (m + 1)) (nI s * 99) ((1 : Int32) <<< (nI l &&& 31)) (nI e) fo fg (nI n) (nI (ed_cn mem (i + 1) (e - i) + 1)) (nI i) (nI i) xl xw xk xP xL xF xQ xT xA xB xC xM xG kF kQ kT kA kB kC kM kG xS Z := by
          intro k4
          refine br_t rfl ?_
          by_cases g : fg = 0
          · exact br_t g (ins ⟨z, hcd', k4, fun q => absurd q (hfg.mp g)⟩)
          · refine br_f g ⟨vi, ve, ?_⟩
            rw [ci, ce]
            have g1 : gr = 1 := Classical.byContradiction (fun q => g (hfg.mpr q))
            by_cases za : xA i = xA e
            · exact br_t za (ins ⟨z, hcd', k4, fun _ => za⟩)
            · exact br_f za (nm_e (skip (fun q => za (q.2.2.2 g1))))
        by_cases o4 : fo = 0
        · exact br_t o4 (grp (fun q => absurd q (hfo.mp o4)))
        · have k4 : kind = 4 := Classical.byContradiction (fun q => o4 (hfo.mpr q))
          refine br_f o4 (xv_later (xZ := Z) (f := f) he (by omega) (by omega) hl HB (fun q => br_t rfl (grp (fun _ => q))) (fun q => br_f (by decide) (br_f (by decide) (nm_e (skip (fun p => q (p.2.2.1 k4)))))))
      · have e5 : ed_bs (ed_px mem xC xA kind N (gr = 1) e) xB f (e + 1 - f) = ed_bs (ed_px mem xC xA kind N (gr = 1) e) xB (i + 1) (e - i) := by
          rw [show e + 1 - f = (i + 1 - f) + (e - i) by omega, ed_bs_skip (c := i + 1 - f), show f + (i + 1 - f) = i + 1 by omega]
          intro j h1 h2 p
          exact zc (p.2.1 i (by omega) (by omega) z)
        exact h Z n (by rw [e5]; exact hZ)
theorem xv_sort {post : Int32 → SX → Prop} {s e f kind gr l : Nat} {N : Int32} {mem : Nat → Prop} (hs : s < 6) (he : e < 64) (hf : f ≤ e) (hl : l < 32) (n12 : xQ (99 * s + 12) = nI f) (n1 : xQ (99 * s + 1) = N) (n3 : xQ (99 * s + 3) = nI kind) (n5 : xQ (99 * s + 5) = nI gr) (hk : kind ≤ 5) (hgr : gr ≤ 1) (HB : ∀ i, f ≤ i → i ≤ e → (bt (xM i) l = true ↔ mem i)) (h : ∀ Z n, ed_st Z n (ed_bs (ed_px mem xC xA kind N (gr = 1) e) xB f (e + 1 - f)) → post (nI n) (xl, xw, xk, xP, xL, xF, xQ, xT, xA, xB, xC, xM, xG, kF, kQ, kT, kA, kB, kC, kM, kG, xS, Z)) : wpX_sortView post (xl, xw, xk, xP, xL, xF, xQ, xT, xA, xB, xC, xM, xG, kF, kQ, kT, kA, kB, kC, kM, kG, xS, xZ) (nI s * 99) ((1 : Int32) <<< (nI l &&& 31)) (nI e) := by
  have w3 := ed_x s 3 hs (by omega)
  have w5 := ed_x s 5 hs (by omega)
  have c3 : (nI s * 99 + 3).toNatClampNeg = 99 * s + 3 := w3.2
  have c5 : (nI s * 99 + 5).toNatClampNeg = 99 * s + 5 := w5.2
  have go : ∀ fo fg : Int32, (fo = 0 ↔ kind ≠ 4) → (fg = 0 ↔ gr ≠ 1) → wX_sortView_36 post (nI s * 99) ((1 : Int32) <<< (nI l &&& 31)) (nI e) fo fg xl xw xk xP xL xF xQ xT xA xB xC xM xG kF kQ kT kA kB kC kM kG xS xZ := by
    intro fo fg h1 h2
    have q : f + (e + 1 - f) = e + 1 := by omega
    have := xv_sloop (fo := fo) (fg := fg) hs he hf hl n12 n1 n3 hk h1 h2 HB h (e + 1 - f) 0 xZ
    rw [q, Nat.sub_self, pk_m1] at this
    exact ⟨e + 1 - f + 1, this (Nat.le_refl _) (ed_st_0 _) (fun j a b => by omega)⟩
  have go17 : ∀ fo : Int32, (fo = 0 ↔ kind ≠ 4) → wX_sortView_17 post (nI s * 99) ((1 : Int32) <<< (nI l &&& 31)) (nI e) fo xl xw xk xP xL xF xQ xT xA xB xC xM xG kF kQ kT kA kB kC kM kG xS xZ := by
    intro fo h1
    refine ⟨w5.1, ?_⟩
    rw [c5, n5]
    by_cases g : gr = 1
    · subst g; exact br_t rfl (go fo 1 h1 ⟨fun q => absurd q (by decide), fun q => absurd rfl q⟩)
    · exact br_f (fun q => g ((nI_eq (b := 1) (by omega) (by omega)).mp q)) (go fo 0 h1 ⟨fun _ => g, fun _ => rfl⟩)
  refine ⟨w3.1, ?_⟩
  rw [c3, n3]
  by_cases g : kind = 4
  · subst g; exact br_t rfl (go17 1 ⟨fun q => absurd q (by decide), fun q => absurd rfl q⟩)
  · exact br_f (fun q => g ((nI_eq (b := 4) (by omega) (by omega)).mp q)) (go17 0 ⟨fun _ => g, fun _ => rfl⟩)
theorem xv_total {post : Int32 → Prop} {to n : Nat} (hto : to ≤ 5) (hn : n ≤ 64) (h0 : 0 < n) (h : post (ed_tt to xZ n)) : wpX_totalOfSorted post (xl, xw, xk, xP, xL, xF, xQ, xT, xA, xB, xC, xM, xG, kF, kQ, kT, kA, kB, kC, kM, kG, xS, xZ) (nI to) (nI n) := by
  have e1 : nI n - 1 = nI (n - 1) := pk_sub (b := 1) h0
  have e2 : nI (n - 1) / 2 = nI ((n - 1) / 2) := pk_div (d := 2) (by omega) (by omega) (by omega)
  have : to = 0 ∨ to = 1 ∨ to = 2 ∨ to = 3 ∨ to = 4 ∨ to = 5 := by omega
  rcases this with rfl | rfl | rfl | rfl | rfl | rfl
  · exact br_t (by decide) h
  · refine br_f (by decide) (br_f (by decide) (br_t rfl ?_))
    have key : ∀ m i : Nat, i + m = n → wX_sumOfSorted_4 (fun r => post r) (nI n) xl xw xk xP xL xF xQ xT xA xB xC xM xG kF kQ kT kA kB kC kM kG xS xZ (m + 1) (ed_sm xZ i) (nI i) := by
      intro m
      induction m with
      | zero =>
        intro i hi
        have e0 : i = n := by omega
        subst e0
        exact br_t (nI_le (Nat.le_refl _) (by omega)) h
      | succ m ih =>
        intro i hi
        refine br_f (nI_ge (by omega) (by omega)) ⟨vp_in_nI (by omega) (by omega), nm_r (e' := ed_sm xZ (i + 1)) (by rw [nI_clamp (by omega)]; rfl) (nm_r (nI_1 i) (ih (i + 1) (by omega)))⟩
    exact ⟨n + 1, key n 0 (by omega)⟩
  · exact br_f (by decide) (br_f (by decide) (br_f (by decide) (br_t rfl h)))
  · refine br_f (by decide) (br_f (by decide) (br_f (by decide) (br_f (by decide) (br_t rfl ?_))))
    rw [e1, nI_clamp (by omega)]
    exact ⟨vp_in_nI (by omega) (by omega), h⟩
  · refine br_f (by decide) (br_f (by decide) (br_f (by decide) (br_f (by decide) (br_f (by decide) (br_t rfl ?_)))))
    have key : ∀ m i : Nat, i + m = n → 1 ≤ i → wX_differentOfSorted_4 (fun r => post r) (nI n) xl xw xk xP xL xF xQ xT xA xB xC xM xG kF kQ kT kA kB kC kM kG xS xZ (m + 1) (nI (ed_df xZ i)) (nI i) := by
      intro m
      induction m with
      | zero =>
        intro i hi h1
        have e0 : i = n := by omega
        subst e0
        exact br_t (nI_le (Nat.le_refl _) (by omega)) h
      | succ m ih =>
        intro i hi h1
        have ei : nI i - 1 = nI (i - 1) := pk_sub (b := 1) h1
        refine br_f (nI_ge (by omega) (by omega)) ?_
        rw [ei, nI_clamp (by omega), nI_clamp (by omega)]
        refine ⟨vp_in_nI (by omega) (by omega), vp_in_nI (by omega) (by omega), ?_⟩
        have IH := ih (i + 1) (by omega) (by omega)
        rw [ed_df] at IH
        by_cases z : xZ i = xZ (i - 1)
        · rw [ed_bf (fun q => q.elim (by omega) (fun y => y z)), Nat.add_zero] at IH
          exact br_t z (nm_r (nI_1 i) IH)
        · rw [ed_bt (Or.inr z)] at IH
          exact br_f z (nm_r (nI_1 _) (nm_r (nI_1 i) IH))
    have d1 : nI (ed_df xZ 1) = 1 := by rw [ed_df, ed_df, ed_bt (Or.inl rfl)]; rfl
    have := key (n - 1) 1 (by omega) (Nat.le_refl _)
    rw [d1] at this
    exact ⟨n - 1 + 1, this⟩
  · refine br_f (by decide) (br_f (by decide) (br_f (by decide) (br_f (by decide) (br_f (by decide) (br_f (by decide) (br_t rfl ⟨by decide, ?_⟩))))))
    rw [e1, e2, nI_clamp (by omega)]
    exact ⟨vp_in_nI (by omega) (by omega), h⟩
theorem xv_window {post : Int64 → SX → Prop} {s e f kind gr to : Nat} {N : Int32} {mem : Nat → Prop} (hs : s < 6) (he : e < 64) (hf : f ≤ e) (n12 : xQ (99 * s + 12) = nI f) (n1 : xQ (99 * s + 1) = N) (n3 : xQ (99 * s + 3) = nI kind) (n4 : xQ (99 * s + 4) = nI to) (n5 : xQ (99 * s + 5) = nI gr) (hk : kind ≤ 5) (hto : to ≤ 5) (hgr : gr ≤ 1) (hN : kind ≠ 0 → kind ≠ 4 → ∃ n, 1 ≤ n ∧ n ≤ 100 ∧ N = nI n) (HB : ∀ i, f ≤ i → i ≤ e → (bt (xM i) (3 * s + 0) = true ↔ mem i)) (h0 : ¬ mem e → post 1099511627776 (xl, xw, xk, xP, xL, xF, xQ, xT, xA, xB, xC, xM, xG, kF, kQ, kT, kA, kB, kC, kM, kG, xS, xZ)) (h1 : mem e → kind = 3 → ¬ ed_cn mem f (e + 1 - f) % N.toNatClampNeg = 0 → post 1099511627776 (xl, xw, xk, xP, xL, xF, xQ, xT, xA, xB, xC, xM, xG, kF, kQ, kT, kA, kB, kC, kM, kG, xS, xZ)) (h2 : mem e → (kind = 3 → ed_cn mem f (e + 1 - f) % N.toNatClampNeg = 0) → ∀ Z n, ed_st Z n (ed_bs (ed_px mem xC xA kind N (gr = 1) e) xB f (e + 1 - f)) → 0 < n → post (ed_tt to Z n).toInt64 (xl, xw, xk, xP, xL, xF, xQ, xT, xA, xB, xC, xM, xG, kF, kQ, kT, kA, kB, kC, kM, kG, xS, Z)) : wpX_findWindowOutput post (xl, xw, xk, xP, xL, xF, xQ, xT, xA, xB, xC, xM, xG, kF, kQ, kT, kA, kB, kC, kM, kG, xS, xZ) (nI s) (nI e) := by
  have w3 := ed_x s 3 hs (by omega)
  have w4 := ed_x s 4 hs (by omega)
  have c3 : (nI s * 99 + 3).toNatClampNeg = 99 * s + 3 := w3.2
  have c4 : (nI s * 99 + 4).toNatClampNeg = 99 * s + 4 := w4.2
  have ce : (nI e).toNatClampNeg = e := nI_clamp (by omega)
  have ve : vp_in (nI e) 64 := vp_in_nI (by omega) (by omega)
  unfold wpX_findWindowOutput
  dsimp only
  refine nm_e (xb_bit (w := 0) ⟨ve, ?_⟩)
  rw [ce]
  rcases Classical.em (mem e) with z | z
  rotate_left
  · exact br_t ((ed_bz (by omega) (HB e hf (Nat.le_refl _))).mpr z) (h0 z)
  refine br_f (fun q => (ed_bz (by omega) (HB e hf (Nat.le_refl _))).mp q z) ⟨w3.1, ?_⟩
  have fin : (kind = 3 → ed_cn mem f (e + 1 - f) % N.toNatClampNeg = 0) → wX_findWindowOutput_55 post (nI e) (nI s * 99) ((1 : Int32) <<< (nI (3 * s + 0) &&& 31)) xl xw xk xP xL xF xQ xT xA xB xC xM xG kF kQ kT kA kB kC kM kG xS xZ := by
    intro k3
    refine xv_sort hs he hf (by omega) n12 n1 n3 n5 hk hgr HB (fun Z n hZ => ?_)
    have hpe : ed_px mem xC xA kind N (gr = 1) e e := by
      refine ⟨z, fun j a b _ => ?_, fun _ j a b => by omega, fun _ => rfl⟩
      have : j = e := by omega
      subst this
      unfold ed_cd
      have pos : kind ≠ 0 → kind ≠ 4 → (0 : Int32) < N := by
        intro k0 k4
        obtain ⟨n, n1', _, rfl⟩ := hN k0 k4
        exact nI_lt (a := 0) n1' (by omega)
      rw [Nat.sub_self, ed_nx, Int32.sub_self]
      exact ⟨fun q => pos (by omega) (by omega), fun q => pos (by omega) (by omega), fun q => pos (by omega) (by omega)⟩
    have hlen := ed_st_len hZ
    have h0n : 0 < n := by
      rw [← hlen, show e + 1 - f = (e - f) + 1 by omega, ed_bs_t (by rw [show f + (e - f) = e by omega]; exact hpe)]
      simp
    have hn : n ≤ 64 := by
      have := ed_bs_len (ed_px mem xC xA kind N (gr = 1) e) xB f (e + 1 - f)
      omega
    dsimp only
    rw [c4, n4]
    exact ⟨w4.1, xv_total hto hn h0n (h2 z k3 Z n hZ h0n)⟩
  rw [c3, n3]
  by_cases k3 : kind = 3
  · subst k3
    obtain ⟨n, hn1, hn, rfl⟩ := hN (by omega) (by omega)
    have cn : (nI n).toNatClampNeg = n := nI_clamp (by omega)
    rw [cn] at h1 fin
    refine br_t rfl (xv_batch hs he hf (by omega) n12 n1 hn1 hn HB z ?_)
    rcases Classical.em (ed_cn mem f (e + 1 - f) % n = 0) with q | q
    · rw [ed_bi_t q]; exact br_f (by decide) (fin (fun _ => q))
    · rw [ed_bi_f q]; exact br_t rfl (h1 z rfl q)
  · exact br_f (fun q => k3 ((nI_eq (b := 3) (by omega) (by omega)).mp q)) (fin (fun q => absurd q k3))
end
end
section
/-! Y's window -/
theorem ed_bi_cg {P Q : Prop} (h : P ↔ Q) : ed_bi P = ed_bi Q := by
  rcases Classical.em P with p | p
  · rw [ed_bi_t p, ed_bi_t (h.mp p)]
  · rw [ed_bi_f p, ed_bi_f (fun q => p (h.mpr q))]
theorem ed_upd2 (f : Nat → Int32) (k : Nat) (x y : Int32) : upd (upd f k x) k y = upd f k y := by
  funext j
  by_cases e : j = k
  · subst e; rw [pk_us, pk_us]
  · rw [pk_un e, pk_un e, pk_un e]
section
variable {fT fL fK fW fB fH fO : Int32} {aT aL aQ aE aG aKQ aKE aKG aW aS aM aV aZ aB : Nat → Int32}
theorem yb_time {post : Int32 → Prop} {i : Nat} (hi : i < 64) (h : post (aE (4 * i + 3))) : wpY_timeOf post (fT, fL, fK, fW, fB, fH, fO, aT, aL, aQ, aE, aG, aKQ, aKE, aKG, aW, aS, aM, aV, aZ, aB) (nI i) := by
  have f : (4 : Int32) * nI i + 3 = nI (4 * i + 3) := by rw [show (4 : Int32) * nI i = nI (4 * i) from pk_mul 4 i]; exact nI_add _ 3
  unfold wpY_timeOf
  dsimp only
  rw [f, nI_clamp (by omega)]
  exact ⟨vp_in_nI (by omega) (by omega), h⟩
theorem yb_a {post : Int32 → Prop} {i : Nat} (hi : i < 64) (h : post (aE (4 * i + 1))) : wpY_aOf post (fT, fL, fK, fW, fB, fH, fO, aT, aL, aQ, aE, aG, aKQ, aKE, aKG, aW, aS, aM, aV, aZ, aB) (nI i) := by
  have f : (4 : Int32) * nI i + 1 = nI (4 * i + 1) := by rw [show (4 : Int32) * nI i = nI (4 * i) from pk_mul 4 i]; exact nI_add _ 1
  unfold wpY_aOf
  dsimp only
  rw [f, nI_clamp (by omega)]
  exact ⟨vp_in_nI (by omega) (by omega), h⟩
theorem yb_b {post : Int32 → Prop} {i : Nat} (hi : i < 64) (h : post (aE (4 * i + 2))) : wpY_bOf post (fT, fL, fK, fW, fB, fH, fO, aT, aL, aQ, aE, aG, aKQ, aKE, aKG, aW, aS, aM, aV, aZ, aB) (nI i) := by
  have f : (4 : Int32) * nI i + 2 = nI (4 * i + 2) := by rw [show (4 : Int32) * nI i = nI (4 * i) from pk_mul 4 i]; exact nI_add _ 2
  unfold wpY_bOf
  dsimp only
  rw [f, nI_clamp (by omega)]
  exact ⟨vp_in_nI (by omega) (by omega), h⟩
theorem yv_latest {post : Int32 → Prop} {e f i : Nat} {mem : Nat → Prop} (he : e < 64) (hi : i ≤ e) (hfi : f ≤ i) (HM : ∀ j, f ≤ j → j ≤ e → aM j = ed_bi (mem j)) (h : post (ed_bi (∀ j, i < j → j ≤ e → mem j → aE (4 * j + 1) ≠ aE (4 * i + 1)))) : wpY_latest post (fT, fL, fK, fW, fB, fH, fO, aT, aL, aQ, aE, aG, aKQ, aKE, aKG, aW, aS, aM, aV, aZ, aB) (nI i) (nI e) := by
  have key : ∀ m k : Nat, k + m = e + 1 → i < k → (∀ j, i < j → j < k → mem j → aE (4 * j + 1) ≠ aE (4 * i + 1)) → wY_latest_4 post (nI i) (nI e) fT fL fK fW fB fH fO aT aL aQ aE aG aKQ aKE aKG aW aS aM aV aZ aB (m + 1) (nI k) := by
    intro m
    induction m with
    | zero =>
      intro k hk hik g
      rw [ed_bi_t (fun j a b => g j a (by omega))] at h
      exact br_t (nI_lt (by omega) (by omega)) h
    | succ m ih =>
      intro k hk hik g
      have ck : (nI k).toNatClampNeg = k := nI_clamp (by omega)
      refine br_f (nI_nlt (by omega) (by omega)) ⟨vp_in_nI (by omega) (by omega), ?_⟩
      rw [ck, HM k (by omega) (by omega)]
      rcases Classical.em (mem k) with z | z
      · refine br_f (by rw [ed_bi_t z]; decide) (yb_a (by omega) (yb_a (by omega) ?_))
        by_cases za : aE (4 * k + 1) = aE (4 * i + 1)
        · rw [ed_bi_f (fun q => q k hik (by omega) z za)] at h
          exact br_t za h
        · refine br_f za (nm_r (nI_1 k) (ih (k + 1) (by omega) (by omega) (fun j a b c => ?_)))
          by_cases e0 : j = k
          · subst e0; exact za
          · exact g j a (by omega) c
      · refine br_t (ed_bi_f z) (nm_r (nI_1 k) (ih (k + 1) (by omega) (by omega) (fun j a b c => ?_)))
        by_cases e0 : j = k
        · subst e0; exact absurd c z
        · exact g j a (by omega) c
  exact nm_r (nI_1 i) ⟨e - i + 1, key (e - i) (i + 1) (by omega) (by omega) (fun j a b => by omega)⟩
theorem yb_117 {post : SY → Prop} {J : (Int32 → Int32 → Int32 → Int32 → (Nat → Int32) → (Nat → Int32) → (Nat → Int32) → (Nat → Int32) → (Nat → Int32) → (Nat → Int32) → (Nat → Int32) → (Nat → Int32) → (Nat → Int32) → (Nat → Int32) → (Nat → Int32) → (Nat → Int32) → (Nat → Int32) → (Nat → Int32) → Prop)} {s e f i kind : Nat} {N : Int32} {mem : Nat → Prop} (he : e < 64) (hfi : f ≤ i) (hi : i ≤ e) (hk : kind ≤ 5) (z : mem i) (HM : ∀ j, f ≤ j → j ≤ e → aM j = ed_bi (mem j)) (hJ : J (nI (ed_cn mem (i + 1) (e - i) + 1)) (nI i) (ed_bi (∀ j, i ≤ j → j ≤ e → mem j → aE (4 * (ed_nx mem e (e - j)) + 3) - aE (4 * j + 3) < N)) (nI i + (-1)) aT aL aQ aE aG aKQ aKE aKG aW aS aM (upd aV i (ed_bi (ed_vw mem (fun j => aE (4 * j + 3)) (fun j => aE (4 * j + 1)) kind N e i))) aZ aB) : wY_windowOf_117 post J (nI s) (nI e) (nI kind) N (nI f) (nI (ed_cn mem (i + 1) (e - i))) (nI i) (ed_bi (∀ j, i ≤ j → j ≤ e → mem j → aE (4 * (ed_nx mem e (e - j)) + 3) - aE (4 * j + 3) < N)) fT fL fK fW fB fH fO aT aL aQ aE aG aKQ aKE aKG aW aS aM aV aZ aB := by
  have ci : (nI i).toNatClampNeg = i := nI_clamp (by omega)
  have vi : vp_in (nI i) 64 := vp_in_nI (by omega) (by omega)
  obtain ⟨op, hop⟩ : ∃ op, op = ed_bi (∀ j, i ≤ j → j ≤ e → mem j → aE (4 * (ed_nx mem e (e - j)) + 3) - aE (4 * j + 3) < N) := ⟨_, rfl⟩
  rw [← hop] at hJ ⊢
  have k187 : kind ≠ 4 → ∀ b : Int32, vp_nar .boolean b = ed_bi (ed_vw mem (fun j => aE (4 * j + 3)) (fun j => aE (4 * j + 1)) kind N e i) → wY_windowOf_187 post J (nI s) (nI e) (nI kind) N (nI f) (nI (ed_cn mem (i + 1) (e - i))) (nI i) op (nI i) b (nI i) fT fL fK fW fB fH fO aT aL aQ aE aG aKQ aKE aKG aW aS aM aV aZ aB := by
    intro k4 b hb
    refine ⟨vi, nm_r (e' := upd aV i (ed_bi (ed_vw mem (fun j => aE (4 * j + 3)) (fun j => aE (4 * j + 1)) kind N e i))) (by rw [ci, hb]) (br_f (fun q => k4 ((nI_eq (b := 4) (by omega) (by omega)).mp q)) (nm_r (nI_1 _) (nm_e hJ)))⟩
  have y1 : kind ≠ 4 → ed_vw mem (fun j => aE (4 * j + 3)) (fun j => aE (4 * j + 1)) kind N e i → wY_windowOf_182 post J (nI s) (nI e) (nI kind) N (nI f) (nI (ed_cn mem (i + 1) (e - i))) (nI i) op (nI i) (nI i) fT fL fK fW fB fH fO aT aL aQ aE aG aKQ aKE aKG aW aS aM aV aZ aB := fun k4 q => k187 k4 1 (by rw [ed_bi_t q]; exact ed_n1)
  have y0 : kind ≠ 4 → ¬ ed_vw mem (fun j => aE (4 * j + 3)) (fun j => aE (4 * j + 1)) kind N e i → wY_windowOf_186 post J (nI s) (nI e) (nI kind) N (nI f) (nI (ed_cn mem (i + 1) (e - i))) (nI i) op (nI i) (nI i) fT fL fK fW fB fH fO aT aL aQ aE aG aKQ aKE aKG aW aS aM aV aZ aB := fun k4 q => k187 k4 0 (by rw [ed_bi_f q]; exact ed_n0)
  have : kind = 0 ∨ kind = 1 ∨ kind = 2 ∨ kind = 3 ∨ kind = 4 ∨ kind = 5 := by omega
  unfold ed_vw at y1 y0
  rcases this with rfl | rfl | rfl | rfl | rfl | rfl
  · exact br_t rfl (y1 (by omega) ⟨z, Or.inl rfl⟩)
  · refine br_f (by decide) (br_f (by decide) (br_t rfl ?_))
    by_cases q : nI (ed_cn mem (i + 1) (e - i)) < N
    · exact br_t q (y1 (by omega) ⟨z, Or.inr (Or.inr (Or.inl ⟨Or.inl rfl, q⟩))⟩)
    · refine br_f q (br_f (by decide) (y0 (by omega) ?_))
      rintro ⟨_, y | ⟨y, _⟩ | ⟨_, y⟩ | ⟨y, _⟩ | ⟨y, _⟩⟩
      · omega
      · omega
      · exact q y
      · omega
      · omega
  · refine br_f (by decide) (br_t rfl (yb_time (by omega) (yb_time (by omega) ?_)))
    by_cases q : aE (4 * e + 3) - aE (4 * i + 3) < N
    · exact br_t q (y1 (by omega) ⟨z, Or.inr (Or.inl ⟨rfl, q⟩)⟩)
    · refine br_f q (br_f (by decide) (br_f (by decide) (br_f (by decide) (y0 (by omega) ?_))))
      rintro ⟨_, y | ⟨_, y⟩ | ⟨y, _⟩ | ⟨y, _⟩ | ⟨y, _⟩⟩
      · omega
      · exact q y
      · omega
      · omega
      · omega
  · refine br_f (by decide) (br_f (by decide) (br_f (by decide) (br_t rfl ?_)))
    by_cases q : nI (ed_cn mem (i + 1) (e - i)) < N
    · exact br_t q (y1 (by omega) ⟨z, Or.inr (Or.inr (Or.inl ⟨Or.inr rfl, q⟩))⟩)
    · refine br_f q (br_f (by decide) (y0 (by omega) ?_))
      rintro ⟨_, y | ⟨y, _⟩ | ⟨_, y⟩ | ⟨y, _⟩ | ⟨y, _⟩⟩
      · omega
      · omega
      · exact q y
      · omega
      · omega
  · have e4 : ed_bi (ed_vw mem (fun j => aE (4 * j + 3)) (fun j => aE (4 * j + 1)) 4 N e i) = ed_bi (∀ j, i < j → j ≤ e → mem j → aE (4 * j + 1) ≠ aE (4 * i + 1)) := by
      refine ed_bi_cg ⟨?_, fun q => ⟨z, Or.inr (Or.inr (Or.inr (Or.inr ⟨rfl, q⟩)))⟩⟩
      rintro ⟨_, y | ⟨y, _⟩ | ⟨y, _⟩ | ⟨y, _⟩ | ⟨_, y⟩⟩
      · omega
      · omega
      · omega
      · omega
      · exact y
    refine br_f (by decide) (br_f (by decide) (br_f (by decide) (br_f (by decide) (br_f (by decide) ⟨vi, nm_r (e' := upd aV i 0) (by rw [ci, ed_n0]) (br_t rfl (yv_latest he hi hfi HM ⟨vi, nm_r (e' := upd aV i (ed_bi (ed_vw mem (fun j => aE (4 * j + 3)) (fun j => aE (4 * j + 1)) 4 N e i))) ?_ (nm_r (nI_1 _) (nm_e hJ))⟩))⟩))))
    rw [ci, ed_upd2, ed_nbi, e4]
  · refine br_f (by decide) (br_f (by decide) (br_f (by decide) (br_f (by decide) (br_t rfl ?_))))
    rcases Classical.em (∀ j, i ≤ j → j ≤ e → mem j → aE (4 * (ed_nx mem e (e - j)) + 3) - aE (4 * j + 3) < N) with q | q
    · exact br_f (by rw [hop, ed_bi_t q]; decide) (y1 (by omega) ⟨z, Or.inr (Or.inr (Or.inr (Or.inl ⟨rfl, q⟩)))⟩)
    · refine br_t (by rw [hop, ed_bi_f q]) (y0 (by omega) ?_)
      rintro ⟨_, y | ⟨y, _⟩ | ⟨y, _⟩ | ⟨_, y⟩ | ⟨y, _⟩⟩
      · omega
      · omega
      · omega
      · exact q y
      · omega
theorem yv_w61 {s e f kind : Nat} {N : Int32} {mem : Nat → Prop} (he : e < 64) (hf : f ≤ e) (hk : kind ≤ 5) (HM : ∀ j, f ≤ j → j ≤ e → aM j = ed_bi (mem j)) : ∀ (m : Nat) (V : Nat → Int32), f + m ≤ e + 1 → (∀ j, f + m ≤ j → j ≤ e → V j = ed_bi (ed_vw mem (fun j => aE (4 * j + 3)) (fun j => aE (4 * j + 1)) kind N e j)) → ∃ V', (∀ j, f ≤ j → j ≤ e → V' j = ed_bi (ed_vw mem (fun j => aE (4 * j + 3)) (fun j => aE (4 * j + 1)) kind N e j)) ∧ ∀ post : SY → Prop, wY_windowOf_61 post (nI s) (nI e) (nI kind) N (nI f) fT fL fK fW fB fH fO 1 (nI (ed_cn mem f (e + 1 - f))) (nI (ed_nx mem e (e + 1 - f))) (ed_bi (∀ j, f ≤ j → j ≤ e → mem j → aE (4 * (ed_nx mem e (e - j)) + 3) - aE (4 * j + 3) < N)) (nI f + (-1)) aT aL aQ aE aG aKQ aKE aKG aW aS aM V' aZ aB → wY_windowOf_61 post (nI s) (nI e) (nI kind) N (nI f) fT fL fK fW fB fH fO (m + 1) (nI (ed_cn mem (f + m) (e + 1 - (f + m)))) (nI (ed_nx mem e (e + 1 - (f + m)))) (ed_bi (∀ j, f + m ≤ j → j ≤ e → mem j → aE (4 * (ed_nx mem e (e - j)) + 3) - aE (4 * j + 3) < N)) (nI (f + m) + (-1)) aT aL aQ aE aG aKQ aKE aKG aW aS aM V aZ aB := by
  intro m
  induction m with
  | zero =>
    intro V hm hV
    exact ⟨V, hV, fun post h => h⟩
  | succ m ih =>
    intro V hm hV
    obtain ⟨i, hi⟩ : ∃ i, i = f + m := ⟨_, rfl⟩
    have q1 : f + (m + 1) = i + 1 := by omega
    have q2 : e + 1 - (i + 1) = e - i := by omega
    have q3 : e + 1 - (f + m) = (e - i) + 1 := by omega
    have q4 : e - (e - i) = i := by omega
    rw [q1] at hV
    rw [q1, q2, pk_m1]
    have IH := ih
    rw [q3, ← hi] at IH
    have ci : (nI i).toNatClampNeg = i := nI_clamp (by omega)
    have vi : vp_in (nI i) 64 := vp_in_nI (by omega) (by omega)
    have vi2 : vp_in (nI i) 192 := vp_in_nI (by omega) (by omega)
    have nl : ¬ nI i < nI f := nI_nlt (by omega) (by omega)
    rcases Classical.em (mem i) with z | z
    rotate_left
    · have e1 : ed_cn mem i ((e - i) + 1) = ed_cn mem (i + 1) (e - i) := by rw [ed_cn_front, ed_bf z, Nat.zero_add]
      have e2 : ed_nx mem e ((e - i) + 1) = ed_nx mem e (e - i) := ed_nx_f (by rw [q4]; exact z)
      have e3 : ed_bi (∀ j, i + 1 ≤ j → j ≤ e → mem j → aE (4 * (ed_nx mem e (e - j)) + 3) - aE (4 * j + 3) < N) = ed_bi (∀ j, i ≤ j → j ≤ e → mem j → aE (4 * (ed_nx mem e (e - j)) + 3) - aE (4 * j + 3) < N) := by
        refine ed_bi_cg ⟨fun g j a b c => ?_, fun g j a b c => g j (by omega) b c⟩
        by_cases e0 : j = i
        · subst e0; exact absurd c z
        · exact g j (by omega) b c
      rw [e1, e2] at IH
      obtain ⟨V', h1, h2⟩ := IH (upd V i 0) (by omega) (by
        intro j a b
        by_cases e0 : j = i
        · subst e0; rw [pk_us, ed_bi_f (fun q => z q.1)]
        · rw [pk_un e0]; exact hV j (by omega) b)
      refine ⟨V', h1, fun post h => br_f nl ⟨vi, nm_r (e' := upd V i 0) (by rw [ci, ed_n0]) ⟨vi2, br_t (by rw [ci, HM i (by omega) (by omega), ed_bi_f z]) (nm_e ?_)⟩⟩⟩
      rw [e3]
      exact h2 post h
    · have e1 : ed_cn mem i ((e - i) + 1) = ed_cn mem (i + 1) (e - i) + 1 := by rw [ed_cn_front, ed_bt z, Nat.add_comm]
      have e2 : ed_nx mem e ((e - i) + 1) = i := by rw [ed_nx_t (by rw [q4]; exact z), q4]
      rw [e1, e2] at IH
      obtain ⟨V', h1, h2⟩ := IH (upd V i (ed_bi (ed_vw mem (fun j => aE (4 * j + 3)) (fun j => aE (4 * j + 1)) kind N e i))) (by omega) (by
        intro j a b
        by_cases e0 : j = i
        · subst e0; rw [pk_us]
        · rw [pk_un e0]; exact hV j (by omega) b)
      have nle := ed_nx_le mem e (e - i)
      refine ⟨V', h1, fun post h => br_f nl ⟨vi, nm_r (e' := upd V i 0) (by rw [ci, ed_n0]) ⟨vi2, br_f (by rw [ci, HM i (by omega) (by omega), ed_bi_t z]; decide) ?_⟩⟩⟩
      have g117 := yb_117 (fT := fT) (fL := fL) (fK := fK) (fW := fW) (fB := fB) (fH := fH) (fO := fO) (aT := aT) (aL := aL) (aQ := aQ) (aG := aG) (aKQ := aKQ) (aKE := aKE) (aKG := aKG) (aW := aW) (aS := aS) (aZ := aZ) (aB := aB) (aV := upd V i 0) (post := post) (J := wY_windowOf_61 post (nI s) (nI e) (nI kind) N (nI f) fT fL fK fW fB fH fO (m + 1)) (s := s) (kind := kind) (N := N) he (show f ≤ i by omega) (by omega) hk z HM (by rw [ed_upd2]; exact h2 post h)
      rcases Classical.em (∀ j, i + 1 ≤ j → j ≤ e → mem j → aE (4 * (ed_nx mem e (e - j)) + 3) - aE (4 * j + 3) < N) with o | o
      · refine br_f (by rw [ed_bi_t o]; decide) (yb_time (by omega) (yb_time (by omega) ?_))
        by_cases t : N ≤ aE (4 * (ed_nx mem e (e - i)) + 3) - aE (4 * i + 3)
        · refine br_t t ?_
          rw [ed_bi_f (fun g => absurd (g i (Nat.le_refl _) (by omega) z) (Int32.not_lt.mpr t))] at g117
          exact g117
        · refine br_f t ?_
          rw [ed_bi_t (fun j a b c => by
            by_cases e0 : j = i
            · subst e0; exact Int32.not_le.mp t
            · exact o j (by omega) b c)] at g117
          exact g117
      · refine br_t (ed_bi_f o) ?_
        rw [ed_bi_f (fun g => o (fun j a b c => g j (by omega) b c))] at g117
        exact g117
theorem yv_w254 {s e f : Nat} {P : Nat → Prop} (he : e < 64) (hf : f ≤ e) : ∀ (m i : Nat) (V : Nat → Int32), i + m = e + 1 → f ≤ i → (∀ j, f ≤ j → j < i → V j = ed_bi (P j ∧ aE (4 * j + 1) = aE (4 * e + 1))) → (∀ j, i ≤ j → j ≤ e → V j = ed_bi (P j)) → ∃ V', (∀ j, f ≤ j → j ≤ e → V' j = ed_bi (P j ∧ aE (4 * j + 1) = aE (4 * e + 1))) ∧ ∀ post : SY → Prop, wY_windowOf_302 post (nI s) (nI e) (nI f) fT fL fK fW fB fH fO aT aL aQ aE aG aKQ aKE aKG aW aS aM V' aZ aB → wY_windowOf_254 post (nI s) (nI e) (nI f) fT fL fK fW fB fH fO (m + 1) (nI i) aT aL aQ aE aG aKQ aKE aKG aW aS aM V aZ aB := by
  intro m
  induction m with
  | zero =>
    intro i V hi hfi h1 h2
    exact ⟨V, fun j a b => h1 j a (by omega), fun post h => br_t (nI_lt (by omega) (by omega)) h⟩
  | succ m ih =>
    intro i V hi hfi h1 h2
    have ci : (nI i).toNatClampNeg = i := nI_clamp (by omega)
    have vi : vp_in (nI i) 64 := vp_in_nI (by omega) (by omega)
    have hV := h2 i (Nat.le_refl _) (by omega)
    obtain ⟨V', a1, a2⟩ := ih (i + 1) (upd V i (ed_bi (P i ∧ aE (4 * i + 1) = aE (4 * e + 1)))) (by omega) (by omega) (by
      intro j a b
      by_cases e0 : j = i
      · subst e0; rw [pk_us]
      · rw [pk_un e0]; exact h1 j a (by omega)) (by
      intro j a b
      rw [pk_un (by omega)]; exact h2 j (by omega) b)
    refine ⟨V', a1, fun post h => br_f (nI_nlt (by omega) (by omega)) ⟨vi, ?_⟩⟩
    have H := a2 post h
    rw [ci, hV]
    rcases Classical.em (P i) with p | p
    · refine br_f (by rw [ed_bi_t p]; decide) (yb_a (by omega) (yb_a (by omega) ?_))
      by_cases za : aE (4 * i + 1) = aE (4 * e + 1)
      · rw [ed_bi_t ⟨p, za⟩] at H
        exact br_t za ⟨vi, nm_r (e' := upd V i 1) (by rw [ed_n1]) (nm_r (nI_1 i) H)⟩
      · rw [ed_bi_f (fun q => za q.2)] at H
        exact br_f za ⟨vi, nm_r (e' := upd V i 0) (by rw [ed_n0]) (nm_r (nI_1 i) H)⟩
    · rw [ed_bi_f (fun q => p q.1)] at H
      exact br_t (ed_bi_f p) ⟨vi, nm_r (e' := upd V i 0) (by rw [ed_n0]) (nm_r (nI_1 i) H)⟩
end
end
section
/-! Y's window: the total -/
section
variable {fT fL fK fW fB fH fO : Int32} {aT aL aQ aE aG aKQ aKE aKG aW aS aM aV aZ aB : Nat → Int32}
theorem yv_35 {i n : Nat} {x1 x3 x4 x5 : Int32} {L : List Int32} (hi : i < 64) (hn : n < 64) (hZ : ed_st aZ n L) : ∀ (p : Nat) (Z : Nat → Int32), p ≤ n → (∀ j, j < p → Z j = aZ j) → (∀ j, p ≤ j → j < n → Z (j + 1) = aZ j) → (∀ j, p ≤ j → j < n → aE (4 * i + 2) ≤ aZ j) → ∃ Z', ed_st Z' (n + 1) (aE (4 * i + 2) :: L) ∧ ∀ (post : Int32 → SY → Prop) (J : (Int32 → Int32 → Int32 → (Nat → Int32) → (Nat → Int32) → (Nat → Int32) → (Nat → Int32) → (Nat → Int32) → (Nat → Int32) → (Nat → Int32) → (Nat → Int32) → (Nat → Int32) → (Nat → Int32) → (Nat → Int32) → (Nat → Int32) → (Nat → Int32) → (Nat → Int32) → Prop)), J x4 (x5 + aE (4 * i + 2)) (nI (i + 1)) aT aL aQ aE aG aKQ aKE aKG aW aS aM aV Z' aB → wY_total_35 post J x1 x3 x4 x5 (nI i) fT fL fK fW fB fH fO (p + 1) (nI p) aT aL aQ aE aG aKQ aKE aKG aW aS aM aV Z aB := by
  have g80 : ∀ (p : Nat) (Z : Nat → Int32) (post : Int32 → SY → Prop) (J : (Int32 → Int32 → Int32 → (Nat → Int32) → (Nat → Int32) → (Nat → Int32) → (Nat → Int32) → (Nat → Int32) → (Nat → Int32) → (Nat → Int32) → (Nat → Int32) → (Nat → Int32) → (Nat → Int32) → (Nat → Int32) → (Nat → Int32) → (Nat → Int32) → (Nat → Int32) → Prop)), p < 64 → J x4 (x5 + aE (4 * i + 2)) (nI (i + 1)) aT aL aQ aE aG aKQ aKE aKG aW aS aM aV (upd Z p (aE (4 * i + 2))) aB → wY_total_80 post J x1 x3 x4 x5 (nI i) (nI p) fT fL fK fW fB fH fO aT aL aQ aE aG aKQ aKE aKG aW aS aM aV Z aB := by
    intro p Z post J hp h
    refine yb_b hi ⟨vp_in_nI hp (by omega), nm_r (e' := upd Z p (aE (4 * i + 2))) (by rw [nI_clamp (by omega)]) (yb_b hi (nm_e (nm_r (nI_1 i) h)))⟩
  intro p
  induction p with
  | zero =>
    intro Z hp h1 h2 h3
    refine ⟨upd Z 0 (aE (4 * i + 2)), ?_, fun post J h => br_t (by decide) (g80 0 Z post J (by omega) h)⟩
    exact ed_st_ins (p := 0) hZ (by omega) (fun j hj => absurd hj (Nat.not_lt_zero _)) h3 (fun j hj => absurd hj (Nat.not_lt_zero _)) pk_us (fun j a b => by rw [pk_un (by omega)]; exact h2 j a b)
  | succ p ih =>
    intro Z hp h1 h2 h3
    have e1 : nI (p + 1) - 1 = nI p := nI_pred p
    have c1 : (nI (p + 1) - 1).toNatClampNeg = p := by rw [e1, nI_clamp (by omega)]
    have v1 : vp_in (nI (p + 1) - 1) 64 := by rw [e1]; exact vp_in_nI (by omega) (by omega)
    have v2 : vp_in (nI (p + 1)) 64 := vp_in_nI (by omega) (by omega)
    have c2 : (nI (p + 1)).toNatClampNeg = p + 1 := nI_clamp (by omega)
    by_cases z : Z p ≤ aE (4 * i + 2)
    · have z' : aZ p ≤ aE (4 * i + 2) := by rw [← h1 p (by omega)]; exact z
      refine ⟨upd Z (p + 1) (aE (4 * i + 2)), ?_, fun post J h => br_f (nI_nle (by omega) (by omega)) ⟨v1, yb_b hi ?_⟩⟩
      · refine ed_st_ins (p := p + 1) hZ hp (fun j hj => ?_) h3 (fun j hj => by rw [pk_un (by omega)]; exact h1 j hj) pk_us (fun j a b => by rw [pk_un (by omega)]; exact h2 j a b)
        by_cases e0 : j = p
        · subst e0; exact z'
        · exact Int32.le_trans (hZ.1 j p (by omega) (by omega)) z'
      · rw [c1]
        exact br_t z (g80 (p + 1) Z post J (by omega) h)
    · have z' : aE (4 * i + 2) ≤ aZ p := by rw [← h1 p (by omega)]; exact Int32.le_of_lt (Int32.not_le.mp z)
      obtain ⟨Z', a1, a2⟩ := ih (upd Z (p + 1) (Z p)) (by omega) (fun j hj => by rw [pk_un (by omega)]; exact h1 j (by omega)) (fun j a b => by
        by_cases e0 : j = p
        · subst e0; rw [pk_us]; exact h1 j (by omega)
        · rw [pk_un (by omega)]; exact h2 j (by omega) b) (fun j a b => by
        by_cases e0 : j = p
        · subst e0; exact z'
        · exact h3 j (by omega) b)
      refine ⟨Z', a1, fun post J h => br_f (nI_nle (by omega) (by omega)) ⟨v1, yb_b hi ?_⟩⟩
      rw [c1]
      exact br_f z ⟨v1, v2, nm_r (e' := upd Z (p + 1) (Z p)) (by rw [c2]) (nm_r (pk_m1 p) (a2 post J h))⟩
theorem yv_9 {e f : Nat} {x1 : Int32} {Q : Nat → Prop} (he : e < 64) (hf : f ≤ e) (HV : ∀ j, f ≤ j → j ≤ e → aV j = ed_bi (Q j)) : ∀ (m i n : Nat) (Z : Nat → Int32), i + m = e + 1 → f ≤ i → ed_st Z n (ed_bs Q (fun j => aE (4 * j + 2)) f (i - f)) → ∃ Z' n', ed_st Z' n' (ed_bs Q (fun j => aE (4 * j + 2)) f (e + 1 - f)) ∧ ∀ post : Int32 → SY → Prop, wY_total_9 post x1 (nI e) fT fL fK fW fB fH fO 1 (nI n') (ed_ls (ed_bs Q (fun j => aE (4 * j + 2)) f (e + 1 - f))) (nI (e + 1)) aT aL aQ aE aG aKQ aKE aKG aW aS aM aV Z' aB → wY_total_9 post x1 (nI e) fT fL fK fW fB fH fO (m + 1) (nI n) (ed_ls (ed_bs Q (fun j => aE (4 * j + 2)) f (i - f))) (nI i) aT aL aQ aE aG aKQ aKE aKG aW aS aM aV Z aB := by
  intro m
  induction m with
  | zero =>
    intro i n Z hi hfi hZ
    have e0 : i = e + 1 := by omega
    subst e0
    exact ⟨Z, n, hZ, fun post h => h⟩
  | succ m ih =>
    intro i n Z hi hfi hZ
    have ci : (nI i).toNatClampNeg = i := nI_clamp (by omega)
    have vi : vp_in (nI i) 64 := vp_in_nI (by omega) (by omega)
    have q1 : i + 1 - f = (i - f) + 1 := by omega
    have q2 : f + (i - f) = i := by omega
    have hn : n ≤ i - f := by rw [← ed_st_len hZ]; exact ed_bs_len _ _ _ _
    rcases Classical.em (Q i) with p | p
    · obtain ⟨Z1, b1, b2⟩ := yv_35 (aE := aE) (fT := fT) (fL := fL) (fK := fK) (fW := fW) (fB := fB) (fH := fH) (fO := fO) (aT := aT) (aL := aL) (aQ := aQ) (aG := aG) (aKQ := aKQ) (aKE := aKE) (aKG := aKG) (aW := aW) (aS := aS) (aM := aM) (aV := aV) (aB := aB) (x1 := x1) (x3 := nI e) (x4 := nI (n + 1)) (x5 := ed_ls (ed_bs Q (fun j => aE (4 * j + 2)) f (i - f))) (i := i) (by omega) (show n < 64 by omega) hZ n Z (Nat.le_refl _) (fun _ _ => rfl) (fun j a b => by omega) (fun j a b => by omega)
      have eb : ed_bs Q (fun j => aE (4 * j + 2)) f (i + 1 - f) = aE (4 * i + 2) :: ed_bs Q (fun j => aE (4 * j + 2)) f (i - f) := by
        rw [q1, ed_bs_t (by rw [q2]; exact p), q2]
      obtain ⟨Z', n', a1, a2⟩ := ih (i + 1) (n + 1) Z1 (by omega) (by omega) (by rw [eb]; exact b1)
      refine ⟨Z', n', a1, fun post h => br_f (nI_nlt (by omega) (by omega)) ⟨vi, br_f (by rw [ci, HV i hfi (by omega), ed_bi_t p]; decide) (nm_r (nI_1 n) ⟨n + 1, b2 post _ ?_⟩)⟩⟩
      have H := a2 post h
      rw [eb, ed_ls, Int32.add_comm] at H
      exact H
    · have eb : ed_bs Q (fun j => aE (4 * j + 2)) f (i + 1 - f) = ed_bs Q (fun j => aE (4 * j + 2)) f (i - f) := by
        rw [q1, ed_bs_f (by rw [q2]; exact p)]
      obtain ⟨Z', n', a1, a2⟩ := ih (i + 1) n Z (by omega) (by omega) (by rw [eb]; exact hZ)
      refine ⟨Z', n', a1, fun post h => br_f (nI_nlt (by omega) (by omega)) ⟨vi, br_t (by rw [ci, HV i hfi (by omega), ed_bi_f p]) (nm_r (nI_1 i) ?_)⟩⟩
      have H := a2 post h
      rw [eb] at H
      exact H
theorem yv_116 {post : Int32 → SY → Prop} {to n : Nat} {x5 : Int32} (hto : to ≤ 5) (hn : n ≤ 64) (h0 : 0 < n) (h5 : x5 = ed_sm aZ n) (h : post (ed_tt to aZ n) (fT, fL, fK, fW, fB, fH, fO, aT, aL, aQ, aE, aG, aKQ, aKE, aKG, aW, aS, aM, aV, aZ, aB)) : ∃ k : Nat, wY_total_116 post (nI to) (nI n) x5 fT fL fK fW fB fH fO aT aL aQ aE aG aKQ aKE aKG aW aS aM aV aZ aB k 0 0 := by
  have e1 : nI n - 1 = nI (n - 1) := pk_sub (b := 1) h0
  have e2 : nI (n - 1) / 2 = nI ((n - 1) / 2) := pk_div (d := 2) (by omega) (by omega) (by omega)
  have key : ∀ m i : Nat, i + m = n → wY_total_116 post (nI to) (nI n) x5 fT fL fK fW fB fH fO aT aL aQ aE aG aKQ aKE aKG aW aS aM aV aZ aB (m + 1) (nI (ed_df aZ i)) (nI i) := by
    intro m
    induction m with
    | zero =>
      intro i hi
      have e0 : i = n := by omega
      subst e0
      refine br_t (nI_le (Nat.le_refl _) (by omega)) ?_
      have : to = 0 ∨ to = 1 ∨ to = 2 ∨ to = 3 ∨ to = 4 ∨ to = 5 := by omega
      rcases this with rfl | rfl | rfl | rfl | rfl | rfl
      · exact br_t rfl h
      · exact br_f (by decide) (br_t rfl (by rw [h5]; exact h))
      · exact br_f (by decide) (br_f (by decide) (br_t rfl h))
      · refine br_f (by decide) (br_f (by decide) (br_f (by decide) (br_t rfl ?_)))
        rw [e1, nI_clamp (by omega)]
        exact ⟨vp_in_nI (by omega) (by omega), h⟩
      · exact br_f (by decide) (br_f (by decide) (br_f (by decide) (br_f (by decide) (br_t rfl h))))
      · refine br_f (by decide) (br_f (by decide) (br_f (by decide) (br_f (by decide) (br_f (by decide) ⟨by decide, ?_⟩))))
        rw [e1, e2, nI_clamp (by omega)]
        exact ⟨vp_in_nI (by omega) (by omega), h⟩
    | succ m ih =>
      intro i hi
      refine br_f (nI_ge (by omega) (by omega)) ?_
      have IH := ih (i + 1) (by omega)
      rw [ed_df] at IH
      rcases Nat.eq_zero_or_pos i with z0 | z0
      · subst z0
        rw [ed_bt (Or.inl rfl)] at IH
        exact br_t rfl (nm_r (nI_1 _) (nm_r (nI_1 _) IH))
      · have ei : nI i - 1 = nI (i - 1) := pk_sub (b := 1) z0
        refine br_f (nI_ne0 z0 (by omega)) ?_
        rw [ei, nI_clamp (by omega), nI_clamp (by omega)]
        refine ⟨vp_in_nI (by omega) (by omega), vp_in_nI (by omega) (by omega), ?_⟩
        by_cases z : aZ i = aZ (i - 1)
        · rw [ed_bf (fun q => q.elim (by omega) (fun y => y z)), Nat.add_zero] at IH
          exact br_t z (nm_r (nI_1 i) IH)
        · rw [ed_bt (Or.inr z)] at IH
          exact br_f z (nm_r (nI_1 _) (nm_r (nI_1 i) IH))
  exact ⟨n + 1, key n 0 (by omega)⟩
theorem yv_total {e f to : Nat} {Q : Nat → Prop} (he : e < 64) (hf : f ≤ e) (hto : to ≤ 5) (HV : ∀ j, f ≤ j → j ≤ e → aV j = ed_bi (Q j)) (qe : Q e) : ∃ Z n, ed_st Z n (ed_bs Q (fun j => aE (4 * j + 2)) f (e + 1 - f)) ∧ 0 < n ∧ ∀ post : Int32 → SY → Prop, post (ed_tt to Z n) (fT, fL, fK, fW, fB, fH, fO, aT, aL, aQ, aE, aG, aKQ, aKE, aKG, aW, aS, aM, aV, Z, aB) → wpY_total post (fT, fL, fK, fW, fB, fH, fO, aT, aL, aQ, aE, aG, aKQ, aKE, aKG, aW, aS, aM, aV, aZ, aB) (nI to) (nI f) (nI e) := by
  obtain ⟨Z, n, a1, a2⟩ := yv_9 (fT := fT) (fL := fL) (fK := fK) (fW := fW) (fB := fB) (fH := fH) (fO := fO) (aT := aT) (aL := aL) (aQ := aQ) (aE := aE) (aG := aG) (aKQ := aKQ) (aKE := aKE) (aKG := aKG) (aW := aW) (aS := aS) (aM := aM) (aB := aB) (x1 := nI to) he hf HV (e + 1 - f) f 0 aZ (by omega) (Nat.le_refl _) (by rw [Nat.sub_self]; exact ed_st_0 _)
  have hlen := ed_st_len a1
  have h0 : 0 < n := by
    rw [← hlen, show e + 1 - f = (e - f) + 1 by omega, ed_bs_t (by rw [show f + (e - f) = e by omega]; exact qe)]
    simp
  have hn : n ≤ 64 := by
    have := ed_bs_len Q (fun j => aE (4 * j + 2)) f (e + 1 - f)
    omega
  refine ⟨Z, n, a1, h0, fun post h => ⟨e + 1 - f + 1, ?_⟩⟩
  have H := a2 post (br_t (nI_lt (by omega) (by omega)) (yv_116 hto hn h0 (ed_st_sum a1).symm h))
  rw [Nat.sub_self] at H
  exact H
theorem yv_window {s e f kind gr to : Nat} {N : Int32} {mem : Nat → Prop} (hs : s < 6) (he : e < 64) (hf : f ≤ e) (q1 : aQ (100 * s + 1) = nI kind) (q2 : aQ (100 * s + 2) = N) (q3 : aQ (100 * s + 3) = nI to) (q4 : aQ (100 * s + 4) = nI gr) (q9 : aQ (100 * s + 9) = nI f) (hk : kind ≤ 5) (hto : to ≤ 5) (hgr : gr ≤ 1) (hN : kind ≠ 0 → kind ≠ 4 → ∃ n, 1 ≤ n ∧ n ≤ 100 ∧ N = nI n) (HM : ∀ j, f ≤ j → j ≤ e → aM j = ed_bi (mem j)) : (¬ mem e → ∀ post : SY → Prop, post (fT, fL, fK, fW, fB, fH, fO, aT, aL, aQ, aE, aG, aKQ, aKE, aKG, aW, aS, aM, aV, aZ, aB) → wpY_windowOf post (fT, fL, fK, fW, fB, fH, fO, aT, aL, aQ, aE, aG, aKQ, aKE, aKG, aW, aS, aM, aV, aZ, aB) (nI s) (nI e)) ∧ (mem e → kind = 3 → ¬ ed_cn mem f (e + 1 - f) % N.toNatClampNeg = 0 → ∃ V, ∀ post : SY → Prop, post (fT, fL, fK, fW, fB, fH, fO, aT, aL, aQ, aE, aG, aKQ, aKE, aKG, aW, aS, aM, V, aZ, aB) → wpY_windowOf post (fT, fL, fK, fW, fB, fH, fO, aT, aL, aQ, aE, aG, aKQ, aKE, aKG, aW, aS, aM, aV, aZ, aB) (nI s) (nI e)) ∧ (mem e → (kind = 3 → ed_cn mem f (e + 1 - f) % N.toNatClampNeg = 0) → ∃ V Z n, ed_st Z n (ed_bs (fun j => ed_vw mem (fun j => aE (4 * j + 3)) (fun j => aE (4 * j + 1)) kind N e j ∧ (gr = 1 → aE (4 * j + 1) = aE (4 * e + 1))) (fun j => aE (4 * j + 2)) f (e + 1 - f)) ∧ 0 < n ∧ ∀ post : SY → Prop, post (fT, fL, fK, fW, fB, 1, ed_tt to Z n, aT, aL, aQ, aE, aG, aKQ, aKE, aKG, aW, aS, aM, V, Z, aB) → wpY_windowOf post (fT, fL, fK, fW, fB, fH, fO, aT, aL, aQ, aE, aG, aKQ, aKE, aKG, aW, aS, aM, aV, aZ, aB) (nI s) (nI e)) := by
  have w1 := ed_y s 1 hs (by omega)
  have w2 := ed_y s 2 hs (by omega)
  have w3 := ed_y s 3 hs (by omega)
  have w4 := ed_y s 4 hs (by omega)
  have w9 := ed_y s 9 hs (by omega)
  have c1 : (100 * nI s + 1).toNatClampNeg = 100 * s + 1 := w1.2
  have c2 : (100 * nI s + 2).toNatClampNeg = 100 * s + 2 := w2.2
  have c3 : (100 * nI s + 3).toNatClampNeg = 100 * s + 3 := w3.2
  have c4 : (100 * nI s + 4).toNatClampNeg = 100 * s + 4 := w4.2
  have c9 : (100 * nI s + 9).toNatClampNeg = 100 * s + 9 := w9.2
  have ce : (nI e).toNatClampNeg = e := nI_clamp (by omega)
  have ve : vp_in (nI e) 192 := vp_in_nI (by omega) (by omega)
  have hme := HM e hf (Nat.le_refl _)
  refine ⟨fun z post h => ⟨ve, br_t (by rw [ce, hme, ed_bi_f z]) h⟩, ?_⟩
  obtain ⟨V, v1, v2⟩ := yv_w61 (s := s) (kind := kind) (N := N) (fT := fT) (fL := fL) (fK := fK) (fW := fW) (fB := fB) (fH := fH) (fO := fO) (aT := aT) (aL := aL) (aQ := aQ) (aE := aE) (aG := aG) (aKQ := aKQ) (aKE := aKE) (aKG := aKG) (aW := aW) (aS := aS) (aZ := aZ) (aB := aB) he hf hk HM (e + 1 - f) aV (by omega) (fun j a b => by omega)
  rw [show f + (e + 1 - f) = e + 1 by omega, Nat.sub_self, pk_m1] at v2
  have e1 : ed_bi (∀ j, e + 1 ≤ j → j ≤ e → mem j → aE (4 * (ed_nx mem e (e - j)) + 3) - aE (4 * j + 3) < N) = 1 := ed_bi_t (fun j a b => by omega)
  rw [e1] at v2
  have start : mem e → ∀ post : SY → Prop, ((nI kind = 3 → (¬ N = 0 ∧ (((nI (ed_cn mem f (e + 1 - f)) - nI (ed_cn mem f (e + 1 - f)) / N * N) = 0 → wY_windowOf_230 post (nI s) (nI e) (nI f) fT fL fK fW fB fH fO aT aL aQ aE aG aKQ aKE aKG aW aS aM V aZ aB) ∧ (¬ (nI (ed_cn mem f (e + 1 - f)) - nI (ed_cn mem f (e + 1 - f)) / N * N) = 0 → post (fT, fL, fK, fW, fB, fH, fO, aT, aL, aQ, aE, aG, aKQ, aKE, aKG, aW, aS, aM, V, aZ, aB))))) ∧ (¬ nI kind = 3 → wY_windowOf_230 post (nI s) (nI e) (nI f) fT fL fK fW fB fH fO aT aL aQ aE aG aKQ aKE aKG aW aS aM V aZ aB)) → wpY_windowOf post (fT, fL, fK, fW, fB, fH, fO, aT, aL, aQ, aE, aG, aKQ, aKE, aKG, aW, aS, aM, aV, aZ, aB) (nI s) (nI e) := by
    intro z post H
    refine ⟨ve, br_f (by rw [ce, hme, ed_bi_t z]; decide) ⟨w1.1, nm_r (e' := nI kind) (by rw [c1]; exact q1) ⟨w2.1, nm_r (e' := N) (by rw [c2]; exact q2) ⟨w9.1, nm_r (e' := nI f) (by rw [c9]; exact q9) ⟨e + 1 - f + 1, ?_⟩⟩⟩⟩⟩
    exact v2 post (br_t (ed_m1lt (by omega)) H)
  have rem : kind = 3 → ¬ N = 0 ∧ nI (ed_cn mem f (e + 1 - f)) - nI (ed_cn mem f (e + 1 - f)) / N * N = nI (ed_cn mem f (e + 1 - f) % N.toNatClampNeg) ∧ ed_cn mem f (e + 1 - f) % N.toNatClampNeg < 2 ^ 31 := by
    intro k3
    obtain ⟨n, h1, h2, rfl⟩ := hN (by omega) (by omega)
    have hc := ed_cn_le mem f (e + 1 - f)
    rw [nI_clamp (by omega)]
    exact ⟨nI_ne0 h1 (by omega), pk_rem (by omega) h1 (by omega), Nat.lt_trans (Nat.mod_lt _ h1) (by omega)⟩
  constructor
  · intro z k3 nb
    obtain ⟨r1, r2, r3⟩ := rem k3
    refine ⟨V, fun post h => start z post (br_t (by rw [k3]; rfl) ⟨r1, br_f (fun q => nb ?_) h⟩)⟩
    rw [r2] at q
    exact (nI_eq (b := 0) r3 (by omega)).mp q
  · intro z k3
    have go : ∀ post : SY → Prop, wY_windowOf_230 post (nI s) (nI e) (nI f) fT fL fK fW fB fH fO aT aL aQ aE aG aKQ aKE aKG aW aS aM V aZ aB → wpY_windowOf post (fT, fL, fK, fW, fB, fH, fO, aT, aL, aQ, aE, aG, aKQ, aKE, aKG, aW, aS, aM, aV, aZ, aB) (nI s) (nI e) := by
      intro post h
      refine start z post ⟨fun q => ?_, fun _ => h⟩
      have k := (nI_eq (b := 3) (by omega) (by omega)).mp q
      obtain ⟨r1, r2, r3⟩ := rem k
      exact ⟨r1, br_t (by rw [r2, k3 k]; rfl) h⟩
    have hve : ed_vw mem (fun j => aE (4 * j + 3)) (fun j => aE (4 * j + 1)) kind N e e := by
      have pos : kind ≠ 0 → kind ≠ 4 → (0 : Int32) < N := by
        intro k0 k4
        obtain ⟨n, n1', _, rfl⟩ := hN k0 k4
        exact nI_lt (a := 0) n1' (by omega)
      refine ⟨z, ?_⟩
      have : kind = 0 ∨ kind = 1 ∨ kind = 2 ∨ kind = 3 ∨ kind = 4 ∨ kind = 5 := by omega
      rcases this with k | k | k | k | k | k
      · exact Or.inl k
      · refine Or.inr (Or.inr (Or.inl ⟨Or.inl k, ?_⟩)); rw [Nat.sub_self]; exact pos (by omega) (by omega)
      · refine Or.inr (Or.inl ⟨k, ?_⟩); rw [Int32.sub_self]; exact pos (by omega) (by omega)
      · refine Or.inr (Or.inr (Or.inl ⟨Or.inr k, ?_⟩)); rw [Nat.sub_self]; exact pos (by omega) (by omega)
      · exact Or.inr (Or.inr (Or.inr (Or.inr ⟨k, fun j a b => by omega⟩)))
      · refine Or.inr (Or.inr (Or.inr (Or.inl ⟨k, fun j a b _ => ?_⟩)))
        have : j = e := by omega
        subst this
        rw [Nat.sub_self, ed_nx, Int32.sub_self]; exact pos (by omega) (by omega)
    have fin : ∀ (V' : Nat → Int32) (Q : Nat → Prop), (∀ j, f ≤ j → j ≤ e → V' j = ed_bi (Q j)) → Q e → ∃ Z n, ed_st Z n (ed_bs Q (fun j => aE (4 * j + 2)) f (e + 1 - f)) ∧ 0 < n ∧ ∀ post : SY → Prop, post (fT, fL, fK, fW, fB, 1, ed_tt to Z n, aT, aL, aQ, aE, aG, aKQ, aKE, aKG, aW, aS, aM, V', Z, aB) → wY_windowOf_302 post (nI s) (nI e) (nI f) fT fL fK fW fB 1 fO aT aL aQ aE aG aKQ aKE aKG aW aS aM V' aZ aB := by
      intro V' Q hV qe
      obtain ⟨Z, n, t1, t2, t3⟩ := yv_total (to := to) (fT := fT) (fL := fL) (fK := fK) (fW := fW) (fB := fB) (fH := 1) (fO := fO) (aT := aT) (aL := aL) (aQ := aQ) (aE := aE) (aG := aG) (aKQ := aKQ) (aKE := aKE) (aKG := aKG) (aW := aW) (aS := aS) (aM := aM) (aZ := aZ) (aB := aB) he hf hto hV qe
      refine ⟨Z, n, t1, t2, fun post h => ⟨w3.1, ?_⟩⟩
      rw [c3, q3]
      exact t3 _ h
    by_cases g : gr = 1
    · obtain ⟨V2, a1, a2⟩ := yv_w254 (s := s) (fT := fT) (fL := fL) (fK := fK) (fW := fW) (fB := fB) (fH := 1) (fO := fO) (aT := aT) (aL := aL) (aQ := aQ) (aE := aE) (aG := aG) (aKQ := aKQ) (aKE := aKE) (aKG := aKG) (aW := aW) (aS := aS) (aM := aM) (aZ := aZ) (aB := aB) (P := fun j => ed_vw mem (fun j => aE (4 * j + 3)) (fun j => aE (4 * j + 1)) kind N e j) he hf (e + 1 - f) f V (by omega) (Nat.le_refl _) (fun j a b => by omega) v1
      obtain ⟨Z, n, t1, t2, t3⟩ := fin V2 _ a1 ⟨hve, rfl⟩
      refine ⟨V2, Z, n, ?_, t2, fun post h => go post ⟨w4.1, br_t (by rw [c4, q4, g]; rfl) ⟨e + 1 - f + 1, a2 post (t3 post h)⟩⟩⟩
      have eb : ed_bs (fun j => ed_vw mem (fun j => aE (4 * j + 3)) (fun j => aE (4 * j + 1)) kind N e j ∧ (gr = 1 → aE (4 * j + 1) = aE (4 * e + 1))) (fun j => aE (4 * j + 2)) f (e + 1 - f) = ed_bs (fun j => ed_vw mem (fun j => aE (4 * j + 3)) (fun j => aE (4 * j + 1)) kind N e j ∧ aE (4 * j + 1) = aE (4 * e + 1)) (fun j => aE (4 * j + 2)) f (e + 1 - f) :=
        ed_bs_cg (fun i _ _ => ⟨fun q => ⟨q.1, q.2 g⟩, fun q => ⟨q.1, fun _ => q.2⟩⟩) (fun _ _ _ => rfl)
      rw [eb]
      exact t1
    · obtain ⟨Z, n, t1, t2, t3⟩ := fin V _ v1 hve
      refine ⟨V, Z, n, ?_, t2, fun post h => go post ⟨w4.1, br_f (by rw [c4, q4]; exact fun q => g ((nI_eq (b := 1) (by omega) (by omega)).mp q)) (t3 post h)⟩⟩
      have eb : ed_bs (fun j => ed_vw mem (fun j => aE (4 * j + 3)) (fun j => aE (4 * j + 1)) kind N e j ∧ (gr = 1 → aE (4 * j + 1) = aE (4 * e + 1))) (fun j => aE (4 * j + 2)) f (e + 1 - f) = ed_bs (fun j => ed_vw mem (fun j => aE (4 * j + 3)) (fun j => aE (4 * j + 1)) kind N e j) (fun j => aE (4 * j + 2)) f (e + 1 - f) :=
        ed_bs_cg (fun i _ _ => ⟨fun q => q.1, fun q => ⟨q, fun y => absurd y g⟩⟩) (fun _ _ _ => rfl)
      rw [eb]
      exact t1
end
end
section
/-! X's pattern -/
theorem ed_sub1 (x : Int32) : x - 1 = x + (-1) := Int32.sub_eq_add_neg x 1
/-- may this first event begin a match that ends with e (X's own test)? -/
def ed_fb (M : Nat → Nat → Prop) (A T : Nat → Int32) (N : Int32) (eq on : Nat) (gb : Nat → Prop) (e j : Nat) : Prop :=
  M 0 j ∧ T e - T j < N ∧ (eq = 1 → A j = A e) ∧ (on = 0 ∨ ¬ gb j)
noncomputable def ed_wt (M : Nat → Nat → Prop) (last : Nat) (Ty A T : Nat → Int32) (st N : Int32) (eq on : Nat) (gb : Nat → Prop) (e j : Nat) : Nat :=
  @ite _ (ed_fb M A T N eq on gb e j) (Classical.propDecidable _) (ed_mt M last Ty A T st (eq = 1) N j e) 0
theorem ed_wt_le (M : Nat → Nat → Prop) (last : Nat) (Ty A T : Nat → Int32) (st N : Int32) (eq on : Nat) (gb : Nat → Prop) (e j : Nat) : ed_wt M last Ty A T st N eq on gb e j ≤ e + 1 := by
  unfold ed_wt
  split
  · exact ed_mt_le _ _ _ _ _ _ _ _ _ _
  · omega
section
variable {xl xw xk : Int32} {xP xL xF xQ xT xA xB xC xM xG kF kQ kT kA kB kC kM kG xS xZ : Nat → Int32}
theorem xv_stop {post : Int32 → Prop} {e : Nat} {st : Int32} (he : e < 64) (h : ∀ L : Int32, (∀ m, m < e → (nI m < L ↔ ¬ ed_nb xT st m e)) → post L) : wpX_latestOfTypeBefore post (xl, xw, xk, xP, xL, xF, xQ, xT, xA, xB, xC, xM, xG, kF, kQ, kT, kA, kB, kC, kM, kG, xS, xZ) st (nI e) := by
  have key : ∀ m : Nat, m ≤ e → (∀ j, m ≤ j → j < e → xT j ≠ st) → wX_latestOfTypeBefore_4 post st xl xw xk xP xL xF xQ xT xA xB xC xM xG kF kQ kT kA kB kC kM kG xS xZ (m + 1) (nI m + (-1)) := by
    intro m
    induction m with
    | zero =>
      intro hm g
      refine br_t (by decide) (h _ (fun m hm' => ⟨fun q => ?_, fun q => absurd (fun j a b => g j (by omega) b) q⟩))
      exact absurd (Int32.lt_trans q (show (-1 : Int32) < 0 by decide)) (nI_pos (by omega))
    | succ m ih =>
      intro hm g
      rw [pk_m1]
      have cm : (nI m).toNatClampNeg = m := nI_clamp (by omega)
      refine br_f (nI_pos (by omega)) ⟨vp_in_nI (by omega) (by omega), ?_⟩
      rw [cm]
      by_cases z : xT m = st
      · refine br_t z (h _ (fun q hq => ?_))
        rw [nI_ltI (by omega) (by omega)]
        constructor
        · intro y w; exact w m y (by omega) z
        · intro y
          rcases Nat.lt_or_ge q m with w | w
          · exact w
          · exact absurd (fun j a b => g j (by omega) b) y
      · refine br_f z (nm_e (ih (by omega) (fun j a b => ?_)))
        by_cases e0 : j = m
        · subst e0; exact z
        · exact g j (by omega) b
  exact nm_r (ed_sub1 _) ⟨e + 1, key e (Nat.le_refl _) (fun j a b => by omega)⟩
theorem xv_may {post : Int32 → Prop} {s e f i eq on : Nat} {N : Int32} {M : Nat → Nat → Prop} (hs : s < 6) (he : e < 64) (hfi : f ≤ i) (hi : i < e) (n1 : xQ (99 * s + 1) = N) (n7 : xQ (99 * s + 7) = nI eq) (n8 : xQ (99 * s + 8) = nI on) (heq : eq ≤ 1) (hon : on ≤ 1) (HB : ∀ w i, w < 1 → f ≤ i → i ≤ e → (bt (xM i) (3 * s + w) = true ↔ M w i)) (h1 : ed_fb M xA xC N eq on (fun j => bt (xG j) s = true) e i → post 1) (h0 : ¬ ed_fb M xA xC N eq on (fun j => bt (xG j) s = true) e i → post 0) : wpX_mayBeginRow post (xl, xw, xk, xP, xL, xF, xQ, xT, xA, xB, xC, xM, xG, kF, kQ, kT, kA, kB, kC, kM, kG, xS, xZ) (nI s) (nI i) (nI e) := by
  have w1 := ed_x s 1 hs (by omega)
  have w7 := ed_x s 7 hs (by omega)
  have w8 := ed_x s 8 hs (by omega)
  have c1 : (nI s * 99 + 1).toNatClampNeg = 99 * s + 1 := w1.2
  have c7 : (nI s * 99 + 7).toNatClampNeg = 99 * s + 7 := w7.2
  have c8 : (nI s * 99 + 8).toNatClampNeg = 99 * s + 8 := w8.2
  have ci : (nI i).toNatClampNeg = i := nI_clamp (by omega)
  have ce : (nI e).toNatClampNeg = e := nI_clamp (by omega)
  have vi : vp_in (nI i) 64 := vp_in_nI (by omega) (by omega)
  have ve : vp_in (nI e) 64 := vp_in_nI (by omega) (by omega)
  unfold ed_fb at h0 h1
  unfold wpX_mayBeginRow
  dsimp only
  refine nm_e ⟨vi, xb_bit (w := 0) ?_⟩
  rw [ci, ce, c1, c7, n1, n7]
  rcases Classical.em (M 0 i) with z | z
  rotate_left
  · exact br_t ((ed_bz (by omega) (HB 0 i (by omega) hfi (by omega))).mpr z) (h0 (fun q => z q.1))
  refine br_f (fun q => (ed_bz (by omega) (HB 0 i (by omega) hfi (by omega))).mp q z) ⟨ve, vi, w1.1, ?_⟩
  by_cases zt : xC e - xC i < N
  rotate_left
  · exact br_f zt (h0 (fun q => zt q.2.1))
  refine br_t zt ⟨w7.1, ?_⟩
  have g81 : (eq = 1 → xA i = xA e) → wX_mayBeginRow_81 post (nI s) (nI i) (nI s * 99) xl xw xk xP xL xF xQ xT xA xB xC xM xG kF kQ kT kA kB kC kM kG xS xZ := by
    intro za
    refine ⟨w8.1, ?_⟩
    rw [c8, n8, ci]
    by_cases o : on = 0
    · exact br_t (by rw [o]; rfl) (h1 ⟨z, zt, za, Or.inl o⟩)
    · refine br_f (fun q => o ((nI_eq (b := 0) (by omega) (by omega)).mp q)) ⟨vi, ?_⟩
      by_cases b : bt (xG i) s = true
      · exact br_f (fun q => (ed_bz (P := bt (xG i) s = true) (by omega) Iff.rfl).mp q b) (h0 (fun q => q.2.2.2.elim o (fun y => y b)))
      · exact br_t ((ed_bz (P := bt (xG i) s = true) (by omega) Iff.rfl).mpr b) (h1 ⟨z, zt, za, Or.inr b⟩)
  by_cases q : eq = 1
  · subst q
    refine br_t rfl ⟨vi, ve, ?_⟩
    by_cases za : xA i = xA e
    · exact br_t za (g81 (fun _ => za))
    · exact br_f za (h0 (fun y => za (y.2.2.1 rfl)))
  · exact br_f (fun y => q ((nI_eq (b := 1) (by omega) (by omega)).mp y)) (g81 (fun y => absurd y q))
theorem xv_middles {post : Int32 → Prop} {s e f i0 eq : Nat} {L st : Int32} {M : Nat → Nat → Prop} (hs : s < 6) (he : e < 64) (hfi : f ≤ i0) (hi0 : i0 < e) (n6 : xQ (99 * s + 6) = st) (n7 : xQ (99 * s + 7) = nI eq) (heq : eq ≤ 1) (HB : ∀ i, f ≤ i → i ≤ e → (bt (xM i) (3 * s + 1) = true ↔ M 1 i)) (hL : ∀ m, m < e → (nI m < L ↔ ¬ ed_nb xT st m e)) (ha : eq = 1 → xA i0 = xA e) (h : post (nI (ed_cn (ed_md (M 1) xT xA st (eq = 1) i0 e) (i0 + 1) (e - i0 - 1)))) : wpX_middlesOfRows post (xl, xw, xk, xP, xL, xF, xQ, xT, xA, xB, xC, xM, xG, kF, kQ, kT, kA, kB, kC, kM, kG, xS, xZ) (nI s) (nI i0) (nI e) L := by
  have w6 := ed_x s 6 hs (by omega)
  have w7 := ed_x s 7 hs (by omega)
  have c6 : (nI s * 99 + 6).toNatClampNeg = 99 * s + 6 := w6.2
  have c7 : (nI s * 99 + 7).toNatClampNeg = 99 * s + 7 := w7.2
  have ce : (nI e).toNatClampNeg = e := nI_clamp (by omega)
  have ve : vp_in (nI e) 64 := vp_in_nI (by omega) (by omega)
  have go : ∀ fl : Int32, (fl = 0 ↔ ¬ eq = 1) → ∀ m i : Nat, i + m = e → i0 < i → ed_nb xT st i0 i → wX_middlesOfRows_42 post (nI e) L (nI s * 99) ((1 : Int32) <<< (nI (3 * s + 1) &&& 31)) fl xl xw xk xP xL xF xQ xT xA xB xC xM xG kF kQ kT kA kB kC kM kG xS xZ (m + 1) (nI (ed_cn (ed_md (M 1) xT xA st (eq = 1) i0 e) (i0 + 1) (i - i0 - 1))) (nI i) := by
    intro fl hfl m
    induction m with
    | zero =>
      intro i hi h1 h2
      have e0 : i = e := by omega
      subst e0
      exact br_t (nI_le (Nat.le_refl _) (by omega)) h
    | succ m ih =>
      intro i hi h1 h2
      have ci : (nI i).toNatClampNeg = i := nI_clamp (by omega)
      have vi : vp_in (nI i) 64 := vp_in_nI (by omega) (by omega)
      have q1 : i + 1 - i0 - 1 = (i - i0 - 1) + 1 := by omega
      have q2 : i0 + 1 + (i - i0 - 1) = i := by omega
      have ec : ed_cn (ed_md (M 1) xT xA st (eq = 1) i0 e) (i0 + 1) (i + 1 - i0 - 1) = ed_cn (ed_md (M 1) xT xA st (eq = 1) i0 e) (i0 + 1) (i - i0 - 1) + ed_b (ed_md (M 1) xT xA st (eq = 1) i0 e i) := by
        rw [q1, ed_cn, q2]
      have g104 : wX_middlesOfRows_104 post (wX_middlesOfRows_42 post (nI e) L (nI s * 99) ((1 : Int32) <<< (nI (3 * s + 1) &&& 31)) fl xl xw xk xP xL xF xQ xT xA xB xC xM xG kF kQ kT kA kB kC kM kG xS xZ (m + 1)) (nI e) L (nI s * 99) ((1 : Int32) <<< (nI (3 * s + 1) &&& 31)) fl (nI (ed_cn (ed_md (M 1) xT xA st (eq = 1) i0 e) (i0 + 1) (i + 1 - i0 - 1))) (nI i) xl xw xk xP xL xF xQ xT xA xB xC xM xG kF kQ kT kA kB kC kM kG xS xZ := by
        refine ⟨vi, w6.1, ?_⟩
        rw [ci, c6, n6]
        by_cases z : xT i = st
        · refine br_t z ?_
          have e5 := ed_cn_split (ed_md (M 1) xT xA st (eq = 1) i0 e) (i0 + 1) (i + 1 - i0 - 1) (e - i - 1)
          rw [show i + 1 - i0 - 1 + (e - i - 1) = e - i0 - 1 by omega, show i0 + 1 + (i + 1 - i0 - 1) = i + 1 by omega, ed_cn_0 (f := i + 1) (fun j a b y => y.2.1 i (by omega) (by omega) z)] at e5
          rw [← e5.trans (Nat.add_zero _)]
          exact h
        · refine br_f z (nm_r (nI_1 i) (ih (i + 1) (by omega) (by omega) (fun j a b => ?_)))
          by_cases e0 : j = i
          · subst e0; exact z
          · exact h2 j a (by omega)
      have no : ¬ ed_md (M 1) xT xA st (eq = 1) i0 e i → wX_middlesOfRows_104 post (wX_middlesOfRows_42 post (nI e) L (nI s * 99) ((1 : Int32) <<< (nI (3 * s + 1) &&& 31)) fl xl xw xk xP xL xF xQ xT xA xB xC xM xG kF kQ kT kA kB kC kM kG xS xZ (m + 1)) (nI e) L (nI s * 99) ((1 : Int32) <<< (nI (3 * s + 1) &&& 31)) fl (nI (ed_cn (ed_md (M 1) xT xA st (eq = 1) i0 e) (i0 + 1) (i - i0 - 1))) (nI i) xl xw xk xP xL xF xQ xT xA xB xC xM xG kF kQ kT kA kB kC kM kG xS xZ := by
        intro q
        rw [ec, ed_bf q, Nat.add_zero] at g104
        exact g104
      have g82 : M 1 i → (eq = 1 → xA i = xA e) → wX_middlesOfRows_82 post (wX_middlesOfRows_42 post (nI e) L (nI s * 99) ((1 : Int32) <<< (nI (3 * s + 1) &&& 31)) fl xl xw xk xP xL xF xQ xT xA xB xC xM xG kF kQ kT kA kB kC kM kG xS xZ (m + 1)) (nI e) L (nI s * 99) ((1 : Int32) <<< (nI (3 * s + 1) &&& 31)) fl (nI (ed_cn (ed_md (M 1) xT xA st (eq = 1) i0 e) (i0 + 1) (i - i0 - 1))) (nI i) xl xw xk xP xL xF xQ xT xA xB xC xM xG kF kQ kT kA kB kC kM kG xS xZ := by
        intro z za
        refine br_f (by decide) ?_
        rcases Classical.em (ed_nb xT st i e) with y | y
        · refine br_f (fun q => (hL i (by omega)).mp q y) (nm_r (nI_1 _) ?_)
          rw [ec, ed_bt ⟨z, h2, fun q => (ha q).trans (za q).symm, y, za⟩] at g104
          exact g104
        · exact br_t ((hL i (by omega)).mpr y) (no (fun q => y q.2.2.2.1))
      refine br_f (nI_ge (by omega) (by omega)) ⟨vi, ?_⟩
      rw [ci, ce]
      rcases Classical.em (M 1 i) with z | z
      · refine br_f (fun q => (ed_bz (by omega) (HB i (by omega) (by omega))).mp q z) ?_
        by_cases fz : fl = 0
        · exact br_t fz (g82 z (fun q => absurd q (hfl.mp fz)))
        · refine br_f fz ⟨vi, ve, ?_⟩
          by_cases za : xA i = xA e
          · exact br_t za (g82 z (fun _ => za))
          · refine br_f za (br_t rfl (no (fun q => za (q.2.2.2.2 (Classical.byContradiction (fun y => fz (hfl.mpr y)))))))
      · exact br_t ((ed_bz (by omega) (HB i (by omega) (by omega))).mpr z) (br_t rfl (no (fun q => z q.1)))
  unfold wpX_middlesOfRows
  dsimp only
  refine nm_e (xb_bit (w := 1) ⟨w7.1, ?_⟩)
  rw [c7, n7]
  have z0 : ed_cn (ed_md (M 1) xT xA st (eq = 1) i0 e) (i0 + 1) (i0 + 1 - i0 - 1) = 0 := by rw [show i0 + 1 - i0 - 1 = 0 by omega]; rfl
  by_cases q : eq = 1
  · have := go 1 ⟨fun y => absurd y (by decide), fun y => absurd q y⟩ (e - i0 - 1) (i0 + 1) (by omega) (by omega) (fun j a b => by omega)
    rw [z0] at this
    exact br_t (by rw [q]; rfl) (nm_r (nI_1 i0) ⟨_, this⟩)
  · have := go 0 ⟨fun _ => q, fun _ => rfl⟩ (e - i0 - 1) (i0 + 1) (by omega) (by omega) (fun j a b => by omega)
    rw [z0] at this
    exact br_f (fun y => q ((nI_eq (b := 1) (by omega) (by omega)).mp y)) (nm_r (nI_1 i0) ⟨_, this⟩)
theorem xv_pattern {post : Int64 → SX → Prop} {s e f c eq on : Nat} {st N : Int32} {M : Nat → Nat → Prop} (hs : s < 6) (he : e < 64) (hf : f ≤ e) (n12 : xQ (99 * s + 12) = nI f) (n1 : xQ (99 * s + 1) = N) (n6 : xQ (99 * s + 6) = st) (n7 : xQ (99 * s + 7) = nI eq) (n8 : xQ (99 * s + 8) = nI on) (n23 : xQ (99 * s + 23) = nI c) (hc : c = 2 ∨ c = 3) (heq : eq ≤ 1) (hon : on ≤ 1) (HB : ∀ w i, w < c → f ≤ i → i ≤ e → (bt (xM i) (3 * s + w) = true ↔ M w i)) (h0 : ¬ M (c - 1) e → post 1099511627776 (xl, xw, xk, xP, xL, xF, xQ, xT, xA, xB, xC, xM, xG, kF, kQ, kT, kA, kB, kC, kM, kG, xS, xZ)) (h1 : M (c - 1) e → ∀ G : Nat → Int32, (∀ j l, bt (G j) l = true ↔ (bt (xG j) l = true ∨ (l = s ∧ f ≤ j ∧ j < e ∧ 0 < ed_wt M (c - 1) xT xA xC st N eq on (fun j => bt (xG j) s = true) e j))) → (ed_su (ed_wt M (c - 1) xT xA xC st N eq on (fun j => bt (xG j) s = true) e) f (e - f) = 0 → post 1099511627776 (xl, xw, xk, xP, xL, xF, xQ, xT, xA, xB, xC, xM, G, kF, kQ, kT, kA, kB, kC, kM, kG, xS, xZ)) ∧ (¬ ed_su (ed_wt M (c - 1) xT xA xC st N eq on (fun j => bt (xG j) s = true) e) f (e - f) = 0 → post (nI (ed_su (ed_wt M (c - 1) xT xA xC st N eq on (fun j => bt (xG j) s = true) e) f (e - f))).toInt64 (xl, xw, xk, xP, xL, xF, xQ, xT, xA, xB, xC, xM, G, kF, kQ, kT, kA, kB, kC, kM, kG, xS, xZ))) : wpX_findPatternOutput post (xl, xw, xk, xP, xL, xF, xQ, xT, xA, xB, xC, xM, xG, kF, kQ, kT, kA, kB, kC, kM, kG, xS, xZ) (nI s) (nI e) := by
  have w6 := ed_x s 6 hs (by omega)
  have w12 := ed_x s 12 hs (by omega)
  have w23 := ed_x s 23 hs (by omega)
  have c6 : (nI s * 99 + 6).toNatClampNeg = 99 * s + 6 := w6.2
  have c12 : (nI s * 99 + 12).toNatClampNeg = 99 * s + 12 := w12.2
  have c23 : (nI s * 99 + 23).toNatClampNeg = 99 * s + 23 := w23.2
  have ce : (nI e).toNatClampNeg = e := nI_clamp (by omega)
  have ve : vp_in (nI e) 64 := vp_in_nI (by omega) (by omega)
  have e23 : nI c - 1 = nI (c - 1) := pk_sub (b := 1) (by omega)
  unfold wpX_findPatternOutput
  dsimp only
  refine nm_e ⟨w23.1, nm_r (e' := nI (c - 1)) (by rw [c23, n23, e23]) ⟨ve, xb_bit (w := c - 1) ?_⟩⟩
  rw [ce, c6, c12, n6, n12]
  rcases Classical.em (M (c - 1) e) with z | z
  rotate_left
  · exact br_t ((ed_bz (by omega) (HB (c - 1) e (by omega) hf (Nat.le_refl _))).mpr z) (h0 z)
  refine br_f (fun q => (ed_bz (by omega) (HB (c - 1) e (by omega) hf (Nat.le_refl _))).mp q z) ⟨w6.1, xv_stop he (fun L hL => ⟨w12.1, nm_e ⟨e - f + 1, ?_⟩⟩)⟩
  have H := h1 z
  obtain ⟨W, hW⟩ : ∃ W, W = ed_wt M (c - 1) xT xA xC st N eq on (fun j => bt (xG j) s = true) e := ⟨_, rfl⟩
  rw [← hW] at H
  have Wle : ∀ j, W j ≤ e + 1 := fun j => by rw [hW]; exact ed_wt_le _ _ _ _ _ _ _ _ _ _ _ _
  have key : ∀ (m i : Nat) (G : Nat → Int32), i + m = e → f ≤ i → (∀ j l, bt (G j) l = true ↔ (bt (xG j) l = true ∨ (l = s ∧ f ≤ j ∧ j < i ∧ 0 < W j))) → wX_findPatternOutput_68 post (nI s) (nI e) (nI (c - 1)) L xl xw xk (m + 1) (nI (ed_su W f (i - f))) (nI i) xP xL xF xQ xT xA xB xC xM G kF kQ kT kA kB kC kM kG xS xZ := by
    intro m
    induction m with
    | zero =>
      intro i G hi hfi hG
      have e0 : i = e := by omega
      subst e0
      have sl : ed_su W f (i - f) ≤ (i - f) * (i + 1) := ed_su_le (fun j _ _ => Wle j)
      have sl2 : (i - f) * (i + 1) ≤ 64 * 64 := Nat.mul_le_mul (by omega) (by omega)
      obtain ⟨a, b⟩ := H G hG
      refine br_t (nI_le (Nat.le_refl _) (by omega)) ⟨fun q => a ((nI_eq (b := 0) (by omega) (by omega)).mp q), fun q => b (fun y => q (by rw [y]; rfl))⟩
    | succ m ih =>
      intro i G hi hfi hG
      have ci : (nI i).toNatClampNeg = i := nI_clamp (by omega)
      have vi : vp_in (nI i) 64 := vp_in_nI (by omega) (by omega)
      have es : ed_su W f (i + 1 - f) = ed_su W f (i - f) + W i := by
        rw [show i + 1 - f = (i - f) + 1 by omega, ed_su, show f + (i - f) = i by omega]
      have hGi : bt (G i) s = true ↔ bt (xG i) s = true := by
        rw [hG i s]
        exact ⟨fun q => q.elim id (fun y => by omega), Or.inl⟩
      have fbe : ed_fb M xA xC N eq on (fun j => bt (G j) s = true) e i ↔ ed_fb M xA xC N eq on (fun j => bt (xG j) s = true) e i := by
        unfold ed_fb
        dsimp only
        rw [hGi]
      have sk : W i = 0 → wX_findPatternOutput_68 post (nI s) (nI e) (nI (c - 1)) L xl xw xk (m + 1) (nI (ed_su W f (i - f))) (nI (i + 1)) xP xL xF xQ xT xA xB xC xM G kF kQ kT kA kB kC kM kG xS xZ := by
        intro w0
        have := ih (i + 1) G (by omega) (by omega) (fun j l => by
          rw [hG j l]
          constructor
          · rintro (q | ⟨q1, q2, q3, q4⟩)
            · exact Or.inl q
            · exact Or.inr ⟨q1, q2, by omega, q4⟩
          · rintro (q | ⟨q1, q2, q3, q4⟩)
            · exact Or.inl q
            · by_cases e0 : j = i
              · subst e0; omega
              · exact Or.inr ⟨q1, q2, by omega, q4⟩)
        rw [es, w0, Nat.add_zero] at this
        exact this
      have g120 : ∀ r : Nat, W i = r → wX_findPatternOutput_120 post (wX_findPatternOutput_68 post (nI s) (nI e) (nI (c - 1)) L xl xw xk (m + 1)) (nI s) (nI e) (nI (c - 1)) L (nI (ed_su W f (i - f))) (nI i) (nI r) xl xw xk xP xL xF xQ xT xA xB xC xM G kF kQ kT kA kB kC kM kG xS xZ := by
        intro r hr
        have rl := Wle i
        rcases Nat.eq_zero_or_pos r with r0 | r0
        · subst r0
          exact br_t (by decide) (nm_r (nI_1 i) (sk hr))
        · refine br_f (nI_nle r0 (by omega)) ⟨vi, vi, nm_r (e' := upd G i (G i ||| ((1 : Int32) <<< (nI s &&& 31)))) (by rw [ci]) (nm_r (nI_add _ _) (nm_r (nI_1 i) ?_))⟩
          have := ih (i + 1) (upd G i (G i ||| ((1 : Int32) <<< (nI s &&& 31)))) (by omega) (by omega) (fun j l => by
            by_cases e0 : j = i
            · subst e0
              rw [pk_us, ed_bset _ _ _ (by omega), Bool.or_eq_true, hG j l, decide_eq_true_eq]
              constructor
              · rintro ((q | ⟨q1, q2, q3, q4⟩) | q)
                · exact Or.inl q
                · exact Or.inr ⟨q1, q2, by omega, q4⟩
                · exact Or.inr ⟨q.symm, hfi, by omega, by omega⟩
              · rintro (q | ⟨q1, q2, q3, q4⟩)
                · exact Or.inl (Or.inl q)
                · exact Or.inr q1.symm
            · rw [pk_un e0, hG j l]
              constructor
              · rintro (q | ⟨q1, q2, q3, q4⟩)
                · exact Or.inl q
                · exact Or.inr ⟨q1, q2, by omega, q4⟩
              · rintro (q | ⟨q1, q2, q3, q4⟩)
                · exact Or.inl q
                · exact Or.inr ⟨q1, q2, by omega, q4⟩)
          rw [es, hr] at this
          exact this
      refine br_f (nI_ge (by omega) (by omega)) (xv_may (xG := G) hs he hfi (by omega) n1 n7 n8 heq hon (fun w j hw a b => HB w j (by omega) a b) (fun q => br_f (by decide) ?_) (fun q => br_t rfl (nm_r (nI_1 i) (sk ?_))))
      · have q' := fbe.mp q
        have Wi : W i = ed_mt M (c - 1) xT xA xC st (eq = 1) N i e := by rw [hW]; unfold ed_wt; rw [if_pos q']
        have nt : ¬ N ≤ xC e - xC i := Int32.not_le.mpr q'.2.1
        rcases hc with rfl | rfl
        · have Wi2 : W i = ed_b (ed_nb xT st i e) := Wi.trans (ed_mt_1 q'.1 z nt q'.2.2.1)
          rcases Classical.em (ed_nb xT st i e) with y | y
          · exact br_f (fun w => (hL i (by omega)).mp w y) (br_f (by decide) (g120 1 (by rw [Wi2, ed_bt y])))
          · exact br_t ((hL i (by omega)).mpr y) (br_f (by decide) (g120 0 (by rw [Wi2, ed_bf y])))
        · have Wi2 : W i = ed_cn (ed_md (M 1) xT xA st (eq = 1) i e) (i + 1) (e - i - 1) := Wi.trans (ed_mt_2 q'.1 z nt)
          have mid : wpX_middlesOfRows (fun r_70 => (wX_findPatternOutput_120 post (wX_findPatternOutput_68 post (nI s) (nI e) (nI (3 - 1)) L xl xw xk (m + 1)) (nI s) (nI e) (nI (3 - 1)) L (nI (ed_su W f (i - f))) (nI i) r_70 xl xw xk xP xL xF xQ xT xA xB xC xM G kF kQ kT kA kB kC kM kG xS xZ)) (xl, xw, xk, xP, xL, xF, xQ, xT, xA, xB, xC, xM, G, kF, kQ, kT, kA, kB, kC, kM, kG, xS, xZ) (nI s) (nI i) (nI e) L :=
            xv_middles (xG := G) hs he hfi (by omega) n6 n7 heq (fun j a b => HB 1 j (by omega) a b) hL q'.2.2.1 (g120 _ Wi2)
          rcases Classical.em (nI i < L) with y | y
          · exact br_t y (br_t rfl mid)
          · exact br_f y (br_t rfl mid)
      · rw [hW]; unfold ed_wt; rw [if_neg (fun y => q (fbe.mpr y))]
  have := key (e - f) f xG (by omega) (Nat.le_refl _) (fun j l => ⟨Or.inl, fun q => q.elim id (fun y => by omega)⟩)
  rw [Nat.sub_self] at this
  exact this
end
end
section
/-! Y's pattern -/
/-- what Y adds for a first event -/
noncomputable def ed_gw (M : Nat → Nat → Prop) (last : Nat) (Ty A T : Nat → Int32) (st N : Int32) (eq on e j : Nat) : Nat :=
  @ite _ (on = 1 ∧ ∃ k, j < k ∧ k < e ∧ 0 < ed_mt M last Ty A T st (eq = 1) N j k) (Classical.propDecidable _) 0 (ed_mt M last Ty A T st (eq = 1) N j e)
section
variable {fT fL fK fW fB fH fO : Int32} {aT aL aQ aE aG aKQ aKE aKG aW aS aM aV aZ aB : Nat → Int32}
theorem yv_follow {post : Int32 → Prop} {s e f i k eq : Nat} {st : Int32} (hs : s < 6) (he : e < 64) (hfi : f ≤ i) (hik : i < k) (hke : k ≤ e) (q3 : aQ (100 * s + 3) = nI eq) (heq : eq ≤ 1) (hB : ∀ k, f ≤ k → k ≤ e + 1 → aB k = nI (ed_cn (fun j => aE (4 * j) = st) f (k - f))) (h : post (ed_bi (ed_nb (fun j => aE (4 * j)) st i k ∧ (eq = 1 → aE (4 * i + 1) = aE (4 * k + 1))))) : wpY_follow post (fT, fL, fK, fW, fB, fH, fO, aT, aL, aQ, aE, aG, aKQ, aKE, aKG, aW, aS, aM, aV, aZ, aB) (nI s) (nI i) (nI k) := by
  have w3 := ed_y s 3 hs (by omega)
  have c3 : (100 * nI s + 3).toNatClampNeg = 100 * s + 3 := w3.2
  have l1 := ed_cn_le (fun j => aE (4 * j) = st) f (k - f)
  have l2 := ed_cn_le (fun j => aE (4 * j) = st) f (i + 1 - f)
  have br : (aB k = aB (i + 1)) ↔ ed_nb (fun j => aE (4 * j)) st i k := by
    rw [hB k (by omega) (by omega), hB (i + 1) (by omega) (by omega), nI_eq (by omega) (by omega)]
    exact ed_nb_br (Ty := fun j => aE (4 * j)) (st := st) hfi hik
  unfold wpY_follow
  dsimp only
  rw [nI_1, nI_clamp (show k < 2 ^ 31 by omega), nI_clamp (show i + 1 < 2 ^ 31 by omega), c3, q3]
  refine ⟨vp_in_nI (by omega) (by omega), vp_in_nI (by omega) (by omega), ?_⟩
  by_cases z : aB k = aB (i + 1)
  · have nb := br.mp z
    refine br_t z ⟨w3.1, ?_⟩
    by_cases q : eq = 0
    · rw [ed_bi_t ⟨nb, fun y => by omega⟩] at h
      exact br_t (by rw [q]; rfl) h
    · have q1 : eq = 1 := by omega
      refine br_f (fun y => q ((nI_eq (b := 0) (by omega) (by omega)).mp y)) (yb_a (by omega) (yb_a (by omega) ?_))
      by_cases za : aE (4 * i + 1) = aE (4 * k + 1)
      · rw [ed_bi_t ⟨nb, fun _ => za⟩] at h
        exact br_t za h
      · rw [ed_bi_f (fun y => za (y.2 q1))] at h
        exact br_f za h
  · rw [ed_bi_f (fun y => z (br.mpr y.1))] at h
    exact br_f z h
theorem yv_matches {post : Int32 → Prop} {s e f i k c eq : Nat} {st N : Int32} {M : Nat → Nat → Prop} (hs : s < 6) (he : e < 64) (hfi : f ≤ i) (hik : i < k) (hke : k ≤ e) (hc : c = 2 ∨ c = 3) (q1 : aQ (100 * s + 1) = N) (q3 : aQ (100 * s + 3) = nI eq) (q20 : aQ (100 * s + 20) = nI c) (heq : eq ≤ 1) (HM : ∀ w j, w < c → f ≤ j → j ≤ e → aM (64 * w + j) = ed_bi (M w j)) (hB : ∀ k, f ≤ k → k ≤ e + 1 → aB k = nI (ed_cn (fun j => aE (4 * j) = st) f (k - f))) (h : post (nI (ed_mt M (c - 1) (fun j => aE (4 * j)) (fun j => aE (4 * j + 1)) (fun j => aE (4 * j + 3)) st (eq = 1) N i k))) : wpY_matches post (fT, fL, fK, fW, fB, fH, fO, aT, aL, aQ, aE, aG, aKQ, aKE, aKG, aW, aS, aM, aV, aZ, aB) (nI s) (nI i) (nI k) := by
  have w1 := ed_y s 1 hs (by omega)
  have c1 : (100 * nI s + 1).toNatClampNeg = 100 * s + 1 := w1.2
  have w20 := ed_y s 20 hs (by omega)
  have c20 : (100 * nI s + 20).toNatClampNeg = 100 * s + 20 := w20.2
  have e20 : nI c - 1 = nI (c - 1) := pk_sub (b := 1) (by omega)
  have ci : (nI i).toNatClampNeg = i := nI_clamp (by omega)
  have vi : vp_in (nI i) 192 := vp_in_nI (by omega) (by omega)
  have e64 : (64 : Int32) * nI (c - 1) + nI k = nI (64 * (c - 1) + k) := by rw [show (64 : Int32) * nI (c - 1) = nI (64 * (c - 1)) from pk_mul 64 _, nI_add]
  have m0 : aM i = ed_bi (M 0 i) := by have := HM 0 i (by omega) hfi (by omega); rwa [Nat.mul_zero, Nat.zero_add] at this
  have ml := HM (c - 1) k (by omega) (by omega) hke
  unfold wpY_matches
  dsimp only
  refine ⟨w20.1, nm_r (e' := nI (c - 1)) (by rw [c20, q20, e20]) ⟨vi, ?_⟩⟩
  rw [ci, m0, e64, nI_clamp (show 64 * (c - 1) + k < 2 ^ 31 by omega), ml, c1, q1]
  rcases Classical.em (M 0 i) with z0 | z0
  rotate_left
  · rw [ed_mt_0 (fun y => z0 y.1)] at h
    exact br_t (ed_bi_f z0) h
  refine br_f (by rw [ed_bi_t z0]; decide) ⟨vp_in_nI (by omega) (by omega), ?_⟩
  rcases Classical.em (M (c - 1) k) with zl | zl
  rotate_left
  · rw [ed_mt_0 (fun y => zl y.2.1)] at h
    exact br_t (ed_bi_f zl) h
  refine br_f (by rw [ed_bi_t zl]; decide) (yb_time (by omega) (yb_time (by omega) ⟨w1.1, ?_⟩))
  by_cases zt : aE (4 * k + 3) - aE (4 * i + 3) < N
  rotate_left
  · rw [ed_mt_0 (T := fun j => aE (4 * j + 3)) (f := i) (e := k) (fun y => y.2.2 (Int32.not_lt.mp zt))] at h
    exact br_f zt h
  refine br_t zt ?_
  have nt : ¬ N ≤ aE (4 * k + 3) - aE (4 * i + 3) := Int32.not_le.mpr zt
  rcases hc with rfl | rfl
  · refine br_t rfl (yv_follow hs he hfi hik hke q3 heq hB ?_)
    have em : ed_mt M (2 - 1) (fun j => aE (4 * j)) (fun j => aE (4 * j + 1)) (fun j => aE (4 * j + 3)) st (eq = 1) N i k = ed_b (ed_nb (fun j => aE (4 * j)) st i k ∧ (eq = 1 → aE (4 * i + 1) = aE (4 * k + 1))) := by
      unfold ed_mt
      rw [if_pos ⟨z0, zl, nt⟩, if_pos rfl]
    rw [em] at h
    rcases Classical.em (ed_nb (fun j => aE (4 * j)) st i k ∧ (eq = 1 → aE (4 * i + 1) = aE (4 * k + 1))) with y | y
    · rw [ed_bt y] at h; rw [ed_bi_t y]; exact br_f (by decide) h
    · rw [ed_bf y] at h; rw [ed_bi_f y]; exact br_t rfl h
  · have em : ed_mt M (3 - 1) (fun j => aE (4 * j)) (fun j => aE (4 * j + 1)) (fun j => aE (4 * j + 3)) st (eq = 1) N i k = ed_cn (ed_md (M 1) (fun j => aE (4 * j)) (fun j => aE (4 * j + 1)) st (eq = 1) i k) (i + 1) (k - i - 1) := ed_mt_2 z0 zl nt
    rw [em] at h
    have key : ∀ m j : Nat, j + m = k → i < j → wY_matches_97 post (nI s) (nI i) (nI k) fT fL fK fW fB fH fO aT aL aQ aE aG aKQ aKE aKG aW aS aM aV aZ aB (m + 1) (nI (ed_cn (ed_md (M 1) (fun j => aE (4 * j)) (fun j => aE (4 * j + 1)) st (eq = 1) i k) (i + 1) (j - i - 1))) (nI j) := by
      intro m
      induction m with
      | zero =>
        intro j hj hij
        have e0 : j = k := by omega
        subst e0
        exact br_t (nI_le (Nat.le_refl _) (by omega)) h
      | succ m ih =>
        intro j hj hij
        have e64j : (64 : Int32) + nI j = nI (64 + j) := nI_add 64 j
        have mj := HM 1 j (by omega) (by omega) (by omega)
        rw [Nat.mul_one] at mj
        have ec : ed_cn (ed_md (M 1) (fun j => aE (4 * j)) (fun j => aE (4 * j + 1)) st (eq = 1) i k) (i + 1) (j + 1 - i - 1) = ed_cn (ed_md (M 1) (fun j => aE (4 * j)) (fun j => aE (4 * j + 1)) st (eq = 1) i k) (i + 1) (j - i - 1) + ed_b (ed_md (M 1) (fun j => aE (4 * j)) (fun j => aE (4 * j + 1)) st (eq = 1) i k j) := by
          rw [show j + 1 - i - 1 = (j - i - 1) + 1 by omega, ed_cn, show i + 1 + (j - i - 1) = j by omega]
        have IH := ih (j + 1) (by omega) (by omega)
        rw [ec] at IH
        have no : ¬ ed_md (M 1) (fun j => aE (4 * j)) (fun j => aE (4 * j + 1)) st (eq = 1) i k j → wY_matches_97 post (nI s) (nI i) (nI k) fT fL fK fW fB fH fO aT aL aQ aE aG aKQ aKE aKG aW aS aM aV aZ aB (m + 1) (nI (ed_cn (ed_md (M 1) (fun j => aE (4 * j)) (fun j => aE (4 * j + 1)) st (eq = 1) i k) (i + 1) (j - i - 1))) (nI (j + 1)) := by
          intro y
          rw [ed_bf y, Nat.add_zero] at IH
          exact IH
        refine br_f (nI_ge (by omega) (by omega)) ?_
        rw [e64j, nI_clamp (by omega), mj]
        refine ⟨vp_in_nI (by omega) (by omega), ?_⟩
        rcases Classical.em (M 1 j) with z1 | z1
        rotate_left
        · exact br_t (ed_bi_f z1) (nm_r (nI_1 j) (no (fun y => z1 y.1)))
        refine br_f (by rw [ed_bi_t z1]; decide) (yv_follow hs he hfi hij (by omega) q3 heq hB ?_)
        rcases Classical.em (ed_nb (fun j => aE (4 * j)) st i j ∧ (eq = 1 → aE (4 * i + 1) = aE (4 * j + 1))) with y1 | y1
        rotate_left
        · rw [ed_bi_f y1]
          exact br_t rfl (nm_r (nI_1 j) (no (fun y => y1 ⟨y.2.1, y.2.2.1⟩)))
        rw [ed_bi_t y1]
        refine br_f (by decide) (yv_follow hs he (by omega) (by omega) hke q3 heq hB ?_)
        rcases Classical.em (ed_nb (fun j => aE (4 * j)) st j k ∧ (eq = 1 → aE (4 * j + 1) = aE (4 * k + 1))) with y2 | y2
        rotate_left
        · rw [ed_bi_f y2]
          exact br_t rfl (nm_r (nI_1 j) (no (fun y => y2 ⟨y.2.2.2.1, y.2.2.2.2⟩)))
        rw [ed_bi_t y2]
        rw [ed_bt ⟨z1, y1.1, y1.2, y2.1, y2.2⟩] at IH
        exact br_f (by decide) (nm_r (nI_1 _) (nm_r (nI_1 j) IH))
    have K := key (k - i - 1) (i + 1) (by omega) (by omega)
    rw [show i + 1 - i - 1 = 0 by omega] at K
    exact br_f (by decide) (nm_r (nI_1 i) ⟨_, K⟩)
theorem yv_56 {s e f : Nat} {st : Int32} (hs : s < 6) (he : e < 64) (hf : f ≤ e) (q2 : aQ (100 * s + 2) = st) : ∀ (m i : Nat) (B : Nat → Int32), i + m = e + 1 → f ≤ i → (∀ k, f ≤ k → k ≤ i → B k = nI (ed_cn (fun j => aE (4 * j) = st) f (k - f))) → ∃ B', (∀ k, f ≤ k → k ≤ e + 1 → B' k = nI (ed_cn (fun j => aE (4 * j) = st) f (k - f))) ∧ ∀ post : SY → Prop, (∃ n : Nat, wY_patternOf_117 post (nI s) (nI e) fT fL fK fW fB fH aT aL aQ aE aG aKQ aKE aKG aW aS aM aV aZ B' n (nI f) fO) → wY_patternOf_56 post (nI s) (nI e) (nI f) fT fL fK fW fB fH fO (m + 1) (nI i) aT aL aQ aE aG aKQ aKE aKG aW aS aM aV aZ B := by
  have w2 := ed_y s 2 hs (by omega)
  have c2 : (100 * nI s + 2).toNatClampNeg = 100 * s + 2 := w2.2
  intro m
  induction m with
  | zero =>
    intro i B hi hfi hB
    exact ⟨B, fun k a b => hB k a (by omega), fun post h => br_t (nI_lt (by omega) (by omega)) h⟩
  | succ m ih =>
    intro i B hi hfi hB
    have ci : (nI i).toNatClampNeg = i := nI_clamp (by omega)
    have e4 : (4 : Int32) * nI i = nI (4 * i) := pk_mul 4 i
    have ci1 : (nI i + 1).toNatClampNeg = i + 1 := by rw [nI_1, nI_clamp (by omega)]
    have v1 : vp_in (nI i + 1) 65 := by rw [nI_1]; exact vp_in_nI (by omega) (by omega)
    have ec : ed_cn (fun j => aE (4 * j) = st) f (i + 1 - f) = ed_cn (fun j => aE (4 * j) = st) f (i - f) + ed_b (aE (4 * i) = st) := by
      rw [show i + 1 - f = (i - f) + 1 by omega, ed_cn, show f + (i - f) = i by omega]
    obtain ⟨B', a1, a2⟩ := ih (i + 1) (upd B (i + 1) (nI (ed_cn (fun j => aE (4 * j) = st) f (i + 1 - f)))) (by omega) (by omega) (by
      intro k a b
      by_cases e0 : k = i + 1
      · subst e0; rw [pk_us]
      · rw [pk_un e0]; exact hB k a (by omega))
    refine ⟨B', a1, fun post h => br_f (nI_nlt (by omega) (by omega)) ⟨vp_in_nI (by omega) (by omega), ?_⟩⟩
    have H := a2 post h
    rw [e4, c2, q2, ci, ci1, nI_clamp (show 4 * i < 2 ^ 31 by omega), hB i hfi (Nat.le_refl _)]
    refine ⟨vp_in_nI (by omega) (by omega), w2.1, ?_⟩
    by_cases z : aE (4 * i) = st
    · rw [ec, ed_bt z] at H
      exact br_t z ⟨v1, nm_r (e' := upd B (i + 1) (nI (ed_cn (fun j => aE (4 * j) = st) f (i - f) + 1))) (by rw [nI_1]) (nm_r (nI_1 i) H)⟩
    · rw [ec, ed_bf z, Nat.add_zero] at H
      exact br_f z ⟨v1, nm_r (e' := upd B (i + 1) (nI (ed_cn (fun j => aE (4 * j) = st) f (i - f)))) (by rw [Int32.add_zero]) (nm_r (nI_1 i) H)⟩
theorem yv_pattern {s e f c eq on : Nat} {st N : Int32} {M : Nat → Nat → Prop} (hs : s < 6) (he : e < 64) (hf : f ≤ e) (hc : c = 2 ∨ c = 3) (q1 : aQ (100 * s + 1) = N) (q2 : aQ (100 * s + 2) = st) (q3 : aQ (100 * s + 3) = nI eq) (q4 : aQ (100 * s + 4) = nI on) (q9 : aQ (100 * s + 9) = nI f) (q20 : aQ (100 * s + 20) = nI c) (heq : eq ≤ 1) (hon : on ≤ 1) (hfO : fO = 0) (HM : ∀ w j, w < c → f ≤ j → j ≤ e → aM (64 * w + j) = ed_bi (M w j)) : (¬ M (c - 1) e → ∀ post : SY → Prop, post (fT, fL, fK, fW, fB, fH, fO, aT, aL, aQ, aE, aG, aKQ, aKE, aKG, aW, aS, aM, aV, aZ, aB) → wpY_patternOf post (fT, fL, fK, fW, fB, fH, fO, aT, aL, aQ, aE, aG, aKQ, aKE, aKG, aW, aS, aM, aV, aZ, aB) (nI s) (nI e)) ∧ (M (c - 1) e → ∃ B, ∀ post : SY → Prop, post (fT, fL, fK, fW, fB, ed_bi (¬ ed_su (ed_gw M (c - 1) (fun j => aE (4 * j)) (fun j => aE (4 * j + 1)) (fun j => aE (4 * j + 3)) st N eq on e) f (e - f) = 0), nI (ed_su (ed_gw M (c - 1) (fun j => aE (4 * j)) (fun j => aE (4 * j + 1)) (fun j => aE (4 * j + 3)) st N eq on e) f (e - f)), aT, aL, aQ, aE, aG, aKQ, aKE, aKG, aW, aS, aM, aV, aZ, B) → wpY_patternOf post (fT, fL, fK, fW, fB, fH, fO, aT, aL, aQ, aE, aG, aKQ, aKE, aKG, aW, aS, aM, aV, aZ, aB) (nI s) (nI e)) := by
  have w4 := ed_y s 4 hs (by omega)
  have c4 : (100 * nI s + 4).toNatClampNeg = 100 * s + 4 := w4.2
  have w9 := ed_y s 9 hs (by omega)
  have c9 : (100 * nI s + 9).toNatClampNeg = 100 * s + 9 := w9.2
  have w20 := ed_y s 20 hs (by omega)
  have c20 : (100 * nI s + 20).toNatClampNeg = 100 * s + 20 := w20.2
  have e20 : nI c - 1 = nI (c - 1) := pk_sub (b := 1) (by omega)
  have e64 : (64 : Int32) * nI (c - 1) + nI e = nI (64 * (c - 1) + e) := by rw [show (64 : Int32) * nI (c - 1) = nI (64 * (c - 1)) from pk_mul 64 _, nI_add]
  have ml := HM (c - 1) e (by omega) hf (Nat.le_refl _)
  have v64 : vp_in ((64 : Int32) * nI (c - 1) + nI e) 192 := by rw [e64]; exact vp_in_nI (by omega) (by omega)
  have c64 : ((64 : Int32) * nI (c - 1) + nI e).toNatClampNeg = 64 * (c - 1) + e := by rw [e64, nI_clamp (by omega)]
  constructor
  · intro z post h
    exact ⟨w20.1, nm_r (e' := nI (c - 1)) (by rw [c20, q20, e20]) ⟨v64, br_t (by rw [c64, ml, ed_bi_f z]) h⟩⟩
  intro z
  obtain ⟨B, hB, b2⟩ := yv_56 (fT := fT) (fL := fL) (fK := fK) (fW := fW) (fB := fB) (fH := fH) (fO := fO) (aT := aT) (aL := aL) (aQ := aQ) (aE := aE) (aG := aG) (aKQ := aKQ) (aKE := aKE) (aKG := aKG) (aW := aW) (aS := aS) (aM := aM) (aV := aV) (aZ := aZ) hs he hf q2 (e + 1 - f) f (upd aB f 0) (by omega) (Nat.le_refl _) (by
    intro k a b
    have : k = f := by omega
    subst this
    rw [pk_us, Nat.sub_self]; rfl)
  obtain ⟨W, hW⟩ : ∃ W, W = ed_gw M (c - 1) (fun j => aE (4 * j)) (fun j => aE (4 * j + 1)) (fun j => aE (4 * j + 3)) st N eq on e := ⟨_, rfl⟩
  rw [← hW]
  obtain ⟨mt, hmt⟩ : ∃ mt : Nat → Nat → Nat, mt = ed_mt M (c - 1) (fun j => aE (4 * j)) (fun j => aE (4 * j + 1)) (fun j => aE (4 * j + 3)) st (eq = 1) N := ⟨_, rfl⟩
  have Wg : ∀ j, (on = 1 ∧ ∃ k, j < k ∧ k < e ∧ 0 < mt j k) → W j = 0 := by
    intro j q
    rw [hmt] at q
    rw [hW]; unfold ed_gw; rw [if_pos q]
  have Wn : ∀ j, ¬ (on = 1 ∧ ∃ k, j < k ∧ k < e ∧ 0 < mt j k) → W j = mt j e := by
    intro j q
    rw [hmt] at q
    rw [hW, hmt]; unfold ed_gw; rw [if_neg q]
  have mle : ∀ j k, mt j k ≤ k + 1 := fun j k => by rw [hmt]; exact ed_mt_le _ _ _ _ _ _ _ _ _ _
  have Wle : ∀ j, W j ≤ e + 1 := by
    intro j
    rcases Classical.em (on = 1 ∧ ∃ k, j < k ∧ k < e ∧ 0 < mt j k) with q | q
    · rw [Wg j q]; omega
    · rw [Wn j q]; exact mle j e
  have mat : ∀ (x : Int32) (i k : Nat) (post : Int32 → Prop), f ≤ i → i < k → k ≤ e → post (nI (mt i k)) → wpY_matches post (fT, fL, fK, fW, fB, fH, x, aT, aL, aQ, aE, aG, aKQ, aKE, aKG, aW, aS, aM, aV, aZ, B) (nI s) (nI i) (nI k) := by
    intro x i k post h1 h2 h3 h
    rw [hmt] at h
    exact yv_matches hs he h1 h2 h3 hc q1 q3 q20 heq HM hB h
  refine ⟨B, fun post h => ⟨w20.1, nm_r (e' := nI (c - 1)) (by rw [c20, q20, e20]) ⟨v64, br_f (by rw [c64, ml, ed_bi_t z]; decide) ⟨w9.1, nm_r (e' := nI f) (by rw [c9]; exact q9) ⟨vp_in_nI (by omega) (by omega), nm_r (e' := upd aB f 0) (by rw [nI_clamp (by omega)]) ⟨e + 1 - f + 1, b2 post ?_⟩⟩⟩⟩⟩⟩
  have key : ∀ m i : Nat, i + m = e → f ≤ i → wY_patternOf_117 post (nI s) (nI e) fT fL fK fW fB fH aT aL aQ aE aG aKQ aKE aKG aW aS aM aV aZ B (m + 1) (nI i) (nI (ed_su W f (i - f))) := by
    intro m
    induction m with
    | zero =>
      intro i hi hfi
      have e0 : i = e := by omega
      subst e0
      have sl : ed_su W f (i - f) ≤ (i - f) * (i + 1) := ed_su_le (fun j _ _ => Wle j)
      have sl2 : (i - f) * (i + 1) ≤ 64 * 64 := Nat.mul_le_mul (by omega) (by omega)
      refine br_t (nI_le (Nat.le_refl _) (by omega)) ?_
      rcases Nat.eq_zero_or_pos (ed_su W f (i - f)) with y | y
      · rw [ed_bi_f (fun q => q y)] at h
        exact br_t (by rw [y]; decide) h
      · rw [ed_bi_t (by omega)] at h
        exact br_f (nI_nle y (by omega)) h
    | succ m ih =>
      intro i hi hfi
      have es : ed_su W f (i + 1 - f) = ed_su W f (i - f) + W i := by
        rw [show i + 1 - f = (i - f) + 1 by omega, ed_su, show f + (i - f) = i by omega]
      have IH := ih (i + 1) (by omega) (by omega)
      rw [es] at IH
      have g183 : ∀ fl : Int32, (fl = 0 → ¬ (on = 1 ∧ ∃ k, i < k ∧ k < e ∧ 0 < mt i k)) → (¬ fl = 0 → (on = 1 ∧ ∃ k, i < k ∧ k < e ∧ 0 < mt i k)) → wY_patternOf_183 post (wY_patternOf_117 post (nI s) (nI e) fT fL fK fW fB fH aT aL aQ aE aG aKQ aKE aKG aW aS aM aV aZ B (m + 1)) (nI s) (nI e) (nI i) fl fT fL fK fW fB fH (nI (ed_su W f (i - f))) aT aL aQ aE aG aKQ aKE aKG aW aS aM aV aZ B := by
        intro fl h1 h2
        by_cases y : fl = 0
        · refine br_t y (mat _ i e _ hfi (by omega) (Nat.le_refl _) (nm_r (nI_add _ _) (nm_r (nI_1 i) ?_)))
          rw [Wn i (h1 y)] at IH
          exact IH
        · refine br_f y (nm_r (nI_1 i) ?_)
          rw [Wg i (h2 y), Nat.add_zero] at IH
          exact IH
      have g132 : ∀ m' k : Nat, k + m' = e → i < k → ∀ fl : Int32, (fl = 0 ↔ ¬ (on = 1 ∧ ∃ q, i < q ∧ q < k ∧ 0 < mt i q)) → wY_patternOf_132 post (wY_patternOf_117 post (nI s) (nI e) fT fL fK fW fB fH aT aL aQ aE aG aKQ aKE aKG aW aS aM aV aZ B (m + 1)) (nI s) (nI e) (nI i) fT fL fK fW fB fH (nI (ed_su W f (i - f))) aT aL aQ aE aG aKQ aKE aKG aW aS aM aV aZ B (m' + 1) fl (nI k) := by
        intro m'
        induction m' with
        | zero =>
          intro k hk hik fl hfl
          have e0 : k = e := by omega
          subst e0
          exact br_t (nI_le (Nat.le_refl _) (by omega)) (g183 fl hfl.mp (fun y => Classical.byContradiction (fun w => y (hfl.mpr w))))
        | succ m' ih' =>
          intro k hk hik fl hfl
          refine br_f (nI_ge (by omega) (by omega)) ⟨w4.1, ?_⟩
          rw [c4, q4]
          by_cases o : on = 1
          · refine br_t (by rw [o]; rfl) ?_
            by_cases y : fl = 0
            · have no := hfl.mp y
              refine br_t y (mat _ i k _ hfi hik (by omega) ?_)
              have := mle i k
              rcases Nat.eq_zero_or_pos (mt i k) with w | w
              · refine br_t (by rw [w]; decide) (nm_r (nI_1 k) (ih' (k + 1) (by omega) (by omega) 0 ⟨fun _ => ?_, fun _ => rfl⟩))
                rintro ⟨_, q, a, b, d⟩
                by_cases e0 : q = k
                · subst e0; omega
                · exact no ⟨o, q, a, by omega, d⟩
              · refine br_f (nI_nle w (by omega)) (nm_r (nI_1 k) (ih' (k + 1) (by omega) (by omega) 1 ⟨fun q => absurd q (by decide), fun q => absurd ⟨o, k, hik, by omega, w⟩ q⟩))
            · obtain ⟨_, q, a, b, d⟩ := Classical.byContradiction (fun w => y (hfl.mpr w))
              exact br_f y (g183 fl (fun w => absurd w y) (fun _ => ⟨o, q, a, by omega, d⟩))
          · have y : fl = 0 := hfl.mpr (fun q => o q.1)
            exact br_f (fun q => o ((nI_eq (b := 1) (by omega) (by omega)).mp q)) (g183 fl (fun _ q => o q.1) (fun q => absurd y q))
      exact br_f (nI_ge (by omega) (by omega)) (nm_r (nI_1 i) ⟨_, g132 (e - i - 1) (i + 1) (by omega) (by omega) 0 ⟨fun _ => (fun ⟨_, q, a, b, _⟩ => by omega), fun _ => rfl⟩⟩)
  have K := key (e - f) f (by omega) (Nat.le_refl _)
  rw [Nat.sub_self] at K
  rw [hfO]
  exact ⟨_, K⟩
end
/-- X's and Y's count for a first event are the same -/
theorem ed_wt_gw {M : Nat → Nat → Prop} {last : Nat} {Ty A T : Nat → Int32} {st N : Int32} {eq on e j : Nat} {gb : Nat → Prop} (hon : on ≤ 1) (h : gb j ↔ ∃ k, j < k ∧ k < e ∧ 0 < ed_mt M last Ty A T st (eq = 1) N j k) : ed_wt M last Ty A T st N eq on gb e j = ed_gw M last Ty A T st N eq on e j := by
  unfold ed_wt ed_gw
  rcases Classical.em (on = 1 ∧ ∃ k, j < k ∧ k < e ∧ 0 < ed_mt M last Ty A T st (eq = 1) N j k) with g | g
  · rw [if_pos g, if_neg]
    rintro ⟨_, _, _, q | q⟩
    · omega
    · exact q (h.mpr g.2)
  · rw [if_neg g]
    rcases Classical.em (ed_fb M A T N eq on gb e j) with q | q
    · rw [if_pos q]
    · rw [if_neg q]
      symm
      by_cases a : eq = 1 → A j = A e
      · apply ed_mt_0
        rintro ⟨m0, _, nt⟩
        apply q
        refine ⟨m0, Int32.not_le.mp nt, a, ?_⟩
        by_cases o : on = 0
        · exact Or.inl o
        · exact Or.inr (fun y => g ⟨by omega, h.mp y⟩)
      · have q1 : eq = 1 := Classical.byContradiction (fun y => a (fun w => absurd w y))
        exact ed_mt_a q1 (fun y => a (fun _ => y))
end
section
/-! joins, both sides in one -/
section
variable {xl xw xk : Int32} {xP xL xF xQ xT xA xB xC xM xG kF kQ kT kA kB kC kM kG xS xZ : Nat → Int32}
variable {fT fL fK fW fB fH fO : Int32} {aT aL aQ aE aG aKQ aKE aKG aW aS aM aV aZ aB : Nat → Int32}
theorem xy_side {s e f sz ot l : Nat} {mem : Nat → Prop} (hs : s < 6) (he : e < 64) (hl : l < 32) (hot : ot ≤ 1) (hsz : sz ≤ 16) (q9 : aQ (100 * s + 9) = nI f) (HB : ∀ i, f ≤ i → i ≤ e → (bt (xM i) l = true ↔ mem i)) (HM : ∀ j, f ≤ j → j ≤ e → aM (64 * ot + j) = ed_bi (mem j)) (EV : ∀ j, j ≤ e → aE (4 * j + 1) = xA j ∧ aE (4 * j + 2) = xB j) : ∀ (m mb pr : Nat) (sum : Int32), f + m ≤ e + 1 → mb ≤ sz → pr + (f + m) ≤ e + 1 → ∃ pr' : Nat, ∃ sum' : Int32, pr' ≤ 64 ∧ (∀ post : Int64 → Prop, wX_sumOfSide_111 post (nI pr') sum' xl xw xk xP xL xF xQ xT xA xB xC xM xG kF kQ kT kA kB kC kM kG xS xZ → wX_sumOfSide_34 post (nI sz) (nI e) ((1 : Int32) <<< (nI l &&& 31)) (nI f) xl xw xk xP xL xF xQ xT xA xB xC xM xG kF kQ kT kA kB kC kM kG xS xZ (m + 1) (nI mb) (nI pr) sum (nI (f + m) + (-1))) ∧ (∀ post : SY → Prop, post (fT, fL, fK, fW, fB, ed_bi (¬ pr' = 0), sum', aT, aL, aQ, aE, aG, aKQ, aKE, aKG, aW, aS, aM, aV, aZ, aB) → wY_joinOf_55 post (nI s) (nI e) (nI ot) fT fL fK fW fB aT aL aQ aE aG aKQ aKE aKG aW aS aM aV aZ aB (m + 1) (nI (sz - mb)) (nI (f + m) + (-1)) (ed_bi (¬ pr = 0)) sum) := by
  have w9 := ed_y s 9 hs (by omega)
  have c9 : (100 * nI s + 9).toNatClampNeg = 100 * s + 9 := w9.2
  intro m
  induction m with
  | zero =>
    intro mb pr sum hm hmb hpr
    refine ⟨pr, sum, by omega, fun post h => br_t (ed_m1lt (by omega)) h, fun post h => ⟨w9.1, br_t ?_ h⟩⟩
    rw [c9, q9]; exact ed_m1lt (by omega)
  | succ m ih =>
    intro mb pr sum hm hmb hpr
    obtain ⟨i, hi⟩ : ∃ i, i = f + m := ⟨_, rfl⟩
    rw [show f + (m + 1) = i + 1 by omega, pk_m1]
    rw [← hi] at ih
    have ci : (nI i).toNatClampNeg = i := nI_clamp (by omega)
    have ce : (nI e).toNatClampNeg = e := nI_clamp (by omega)
    have vi : vp_in (nI i) 64 := vp_in_nI (by omega) (by omega)
    have ve : vp_in (nI e) 64 := vp_in_nI (by omega) (by omega)
    have nl : ¬ nI i < nI f := nI_nlt (by omega) (by omega)
    have nly : ¬ nI i < aQ (100 * nI s + 9).toNatClampNeg := by rw [c9, q9]; exact nl
    have e64 : (64 : Int32) * nI ot + nI i = nI (64 * ot + i) := by rw [show (64 : Int32) * nI ot = nI (64 * ot) from pk_mul 64 _, nI_add]
    have v64 : vp_in ((64 : Int32) * nI ot + nI i) 192 := by rw [e64]; exact vp_in_nI (by omega) (by omega)
    have m64 : aM ((64 : Int32) * nI ot + nI i).toNatClampNeg = ed_bi (mem i) := by rw [e64, nI_clamp (by omega)]; exact HM i (by omega) (by omega)
    by_cases full : mb = sz
    · subst full
      refine ⟨pr, sum, by omega, fun post h => br_f nl (br_t (nI_le (Nat.le_refl _) (by omega)) h), fun post h => ⟨w9.1, br_f nly (br_t ?_ h)⟩⟩
      rw [Nat.sub_self]; decide
    have nx : ¬ nI sz ≤ nI mb := nI_ge (by omega) (by omega)
    have ny : ¬ nI (sz - mb) ≤ 0 := nI_nle (by omega) (by omega)
    rcases Classical.em (mem i) with z | z
    rotate_left
    · obtain ⟨pr', sum', p1, p2, p3⟩ := ih mb pr sum (by omega) hmb (by omega)
      refine ⟨pr', sum', p1, fun post h => br_f nl (br_f nx ⟨vi, br_t ?_ (nm_e (p2 post h))⟩), fun post h => ⟨w9.1, br_f nly (br_f ny ⟨v64, br_t (by rw [m64, ed_bi_f z]) (nm_e (p3 post h))⟩)⟩⟩
      rw [ci]; exact (ed_bz hl (HB i (by omega) (by omega))).mpr z
    have bx : ¬ (xM (nI i).toNatClampNeg &&& ((1 : Int32) <<< (nI l &&& 31))) = 0 := by
      rw [ci]; exact fun q => (ed_bz hl (HB i (by omega) (by omega))).mp q z
    have bY : ¬ aM ((64 : Int32) * nI ot + nI i).toNatClampNeg = 0 := by rw [m64, ed_bi_t z]; decide
    have lf : nI (sz - mb) + (-1) = nI (sz - (mb + 1)) := by
      rw [show sz - mb = (sz - (mb + 1)) + 1 by omega, pk_m1]
    by_cases ie : i = e
    · obtain ⟨pr', sum', p1, p2, p3⟩ := ih (mb + 1) pr sum (by omega) (by omega) (by omega)
      refine ⟨pr', sum', p1, fun post h => br_f nl (br_f nx ⟨vi, br_f bx (nm_r (nI_1 mb) (br_t (by rw [ie]) (nm_e (p2 post h))))⟩), fun post h => ⟨w9.1, br_f nly (br_f ny ⟨v64, br_f bY (nm_r lf (br_t (by rw [ie]) (nm_e (p3 post h))))⟩)⟩⟩
    have ne : ¬ nI i = nI e := fun q => ie ((nI_eq (by omega) (by omega)).mp q)
    obtain ⟨a1, b1⟩ := EV i (by omega)
    obtain ⟨a2, b2⟩ := EV e (Nat.le_refl _)
    by_cases za : xA i = xA e
    · obtain ⟨pr', sum', p1, p2, p3⟩ := ih (mb + 1) (pr + 1) (sum + xB i) (by omega) (by omega) (by omega)
      rw [ed_bi_t (show ¬ pr + 1 = 0 by omega)] at p3
      refine ⟨pr', sum', p1, fun post h => br_f nl (br_f nx ⟨vi, br_f bx (nm_r (nI_1 mb) (br_f ne ⟨vi, ve, br_t (by rw [ci, ce]; exact za) (nm_r (nI_1 pr) ⟨vi, nm_r (e' := sum + xB i) (by rw [ci]) (nm_e (p2 post h))⟩)⟩))⟩), fun post h => ⟨w9.1, br_f nly (br_f ny ⟨v64, br_f bY (nm_r lf (br_f ne (yb_a (by omega) (yb_a (by omega) (br_t ?_ (yb_b (by omega) (nm_r (e' := sum + xB i) ?_ (nm_e (p3 post h)))))))))⟩)⟩⟩
      · rw [a1, a2]; exact za
      · rw [b1]
    · obtain ⟨pr', sum', p1, p2, p3⟩ := ih (mb + 1) pr sum (by omega) (by omega) (by omega)
      refine ⟨pr', sum', p1, fun post h => br_f nl (br_f nx ⟨vi, br_f bx (nm_r (nI_1 mb) (br_f ne ⟨vi, ve, br_f (by rw [ci, ce]; exact za) (nm_e (p2 post h))⟩))⟩), fun post h => ⟨w9.1, br_f nly (br_f ny ⟨v64, br_f bY (nm_r lf (br_f ne (yb_a (by omega) (yb_a (by omega) (br_f ?_ (nm_e (p3 post h)))))))⟩)⟩⟩
      rw [a1, a2]; exact za
theorem xy_join {s e f n m : Nat} {M : Nat → Nat → Prop} (hs : s < 6) (he : e < 64) (hf : f ≤ e) (hn : n ≤ 16) (hm : m ≤ 16) (n1 : xQ (99 * s + 1) = nI n) (n2 : xQ (99 * s + 2) = nI m) (n12 : xQ (99 * s + 12) = nI f) (q1 : aQ (100 * s + 1) = nI n) (q2 : aQ (100 * s + 2) = nI m) (q9 : aQ (100 * s + 9) = nI f) (HB : ∀ w i, w < 2 → f ≤ i → i ≤ e → (bt (xM i) (3 * s + w) = true ↔ M w i)) (HM : ∀ w j, w < 2 → f ≤ j → j ≤ e → aM (64 * w + j) = ed_bi (M w j)) (EV : ∀ j, j ≤ e → aE (4 * j + 1) = xA j ∧ aE (4 * j + 2) = xB j) : ∃ (hit : Prop) (fo : Int32), (∀ post : Int64 → Prop, (hit → post fo.toInt64) → (¬ hit → post 1099511627776) → wpX_findJoinOutput post (xl, xw, xk, xP, xL, xF, xQ, xT, xA, xB, xC, xM, xG, kF, kQ, kT, kA, kB, kC, kM, kG, xS, xZ) (nI s) (nI e)) ∧ (∀ post : SY → Prop, post (fT, fL, fK, fW, fB, ed_bi hit, fo, aT, aL, aQ, aE, aG, aKQ, aKE, aKG, aW, aS, aM, aV, aZ, aB) → wpY_joinOf post (fT, fL, fK, fW, fB, 0, 0, aT, aL, aQ, aE, aG, aKQ, aKE, aKG, aW, aS, aM, aV, aZ, aB) (nI s) (nI e)) := by
  have w1 := ed_x s 1 hs (by omega)
  have w2 := ed_x s 2 hs (by omega)
  have w12 := ed_x s 12 hs (by omega)
  have c1 : (nI s * 99 + 1).toNatClampNeg = 99 * s + 1 := w1.2
  have c2 : (nI s * 99 + 2).toNatClampNeg = 99 * s + 2 := w2.2
  have c12 : (nI s * 99 + 12).toNatClampNeg = 99 * s + 12 := w12.2
  have ce : (nI e).toNatClampNeg = e := nI_clamp (by omega)
  have ve : vp_in (nI e) 64 := vp_in_nI (by omega) (by omega)
  have ve2 : vp_in (nI e) 192 := vp_in_nI (by omega) (by omega)
  have e64 : (64 : Int32) + nI e = nI (64 + e) := nI_add 64 e
  have v64 : vp_in ((64 : Int32) + nI e) 192 := by rw [e64]; exact vp_in_nI (by omega) (by omega)
  have m0 : aM (nI e).toNatClampNeg = ed_bi (M 0 e) := by have := HM 0 e (by omega) hf (Nat.le_refl _); rw [Nat.mul_zero, Nat.zero_add] at this; rw [ce]; exact this
  have m1 : aM ((64 : Int32) + nI e).toNatClampNeg = ed_bi (M 1 e) := by have := HM 1 e (by omega) hf (Nat.le_refl _); rw [Nat.mul_one] at this; rw [e64, nI_clamp (by omega)]; exact this
  have d1 : (100 : Int32) * nI s + 1 + 0 = nI (100 * s + 1) := by rw [Int32.add_zero]; exact ed_yi s 1
  have d2 : (100 : Int32) * nI s + 1 + 1 = nI (100 * s + 2) := by rw [show (100 : Int32) * nI s + 1 = nI (100 * s + 1) from ed_yi s 1, nI_1]
  have side : ∀ sd ot sz : Nat, sd ≤ 1 → ot ≤ 1 → sd = ot → sz ≤ 16 → ∃ pr' : Nat, ∃ sum' : Int32, pr' ≤ 64 ∧ (∀ post : Int64 → Prop, (¬ pr' = 0 → post sum'.toInt64) → (pr' = 0 → post 1099511627776) → wpX_sumOfSide post (xl, xw, xk, xP, xL, xF, xQ, xT, xA, xB, xC, xM, xG, kF, kQ, kT, kA, kB, kC, kM, kG, xS, xZ) (nI s) (nI sd) (nI sz) (nI e)) ∧ (∀ post : SY → Prop, post (fT, fL, fK, fW, fB, ed_bi (¬ pr' = 0), sum', aT, aL, aQ, aE, aG, aKQ, aKE, aKG, aW, aS, aM, aV, aZ, aB) → ∃ k : Nat, wY_joinOf_55 post (nI s) (nI e) (nI ot) fT fL fK fW fB aT aL aQ aE aG aKQ aKE aKG aW aS aM aV aZ aB k (nI sz) (nI e) 0 0) := by
    intro sd ot sz h1 h2 h3 h4
    obtain ⟨pr', sum', p1, p2, p3⟩ := xy_side (xl := xl) (xw := xw) (xk := xk) (xP := xP) (xL := xL) (xF := xF) (xQ := xQ) (xT := xT) (xC := xC) (xG := xG) (kF := kF) (kQ := kQ) (kT := kT) (kA := kA) (kB := kB) (kC := kC) (kM := kM) (kG := kG) (xS := xS) (xZ := xZ) (fT := fT) (fL := fL) (fK := fK) (fW := fW) (fB := fB) (aT := aT) (aL := aL) (aG := aG) (aKQ := aKQ) (aKE := aKE) (aKG := aKG) (aW := aW) (aS := aS) (aV := aV) (aZ := aZ) (aB := aB) (l := 3 * s + sd) hs he (by omega) h2 h4 q9 (HB sd · (by omega)) (by subst h3; exact (HM sd · (by omega))) EV (e + 1 - f) 0 0 0 (by omega) (Nat.zero_le _) (by omega)
    rw [show f + (e + 1 - f) = e + 1 by omega, pk_m1] at p2 p3
    rw [ed_bi_f (show ¬ ¬ (0 : Nat) = 0 by omega)] at p3
    refine ⟨pr', sum', p1, fun post a b => ?_, fun post h => ⟨_, p3 post h⟩⟩
    unfold wpX_sumOfSide
    dsimp only
    refine xb_bit ⟨w12.1, nm_r (e' := nI f) (by rw [c12]; exact n12) ⟨_, p2 post ⟨fun q => b ((nI_eq (b := 0) (by omega) (by omega)).mp q), fun q => a (fun y => q (by rw [y]; rfl))⟩⟩⟩
  rcases Classical.em (M 0 e) with z0 | z0
  · obtain ⟨pr', sum', p1, p2, p3⟩ := side 1 1 m (by omega) (by omega) rfl hm
    refine ⟨¬ pr' = 0, sum', fun post a b => ?_, fun post h => ?_⟩
    · unfold wpX_findJoinOutput
      dsimp only
      refine nm_e ⟨ve, xb_bit (w := 0) ?_⟩
      rw [ce]
      refine br_f (fun q => (ed_bz (by omega) (HB 0 e (by omega) hf (Nat.le_refl _))).mp q z0) ⟨w2.1, ?_⟩
      rw [c2, n2]
      exact p2 post a (fun y => b (fun q => q y))
    · have ne : ¬ aM (nI e).toNatClampNeg = 0 := by rw [m0, ed_bi_t z0]; decide
      refine ⟨ve2, br_f ne ⟨ve2, br_f ne ⟨?_, ?_⟩⟩⟩
      · rw [d2]; exact vp_in_nI (by omega) (by omega)
      · exact nm_r (e' := nI m) (by rw [d2, nI_clamp (by omega)]; exact q2) (p3 post h)
  rcases Classical.em (M 1 e) with z1 | z1
  · obtain ⟨pr', sum', p1, p2, p3⟩ := side 0 0 n (by omega) (by omega) rfl hn
    refine ⟨¬ pr' = 0, sum', fun post a b => ?_, fun post h => ?_⟩
    · unfold wpX_findJoinOutput
      dsimp only
      refine nm_e ⟨ve, xb_bit (w := 0) ?_⟩
      rw [ce]
      refine br_t ((ed_bz (by omega) (HB 0 e (by omega) hf (Nat.le_refl _))).mpr z0) ⟨ve, xb_bit (w := 1) ?_⟩
      refine br_f (fun q => (ed_bz (by omega) (HB 1 e (by omega) hf (Nat.le_refl _))).mp q z1) ⟨w1.1, ?_⟩
      rw [c1, n1]
      exact p2 post a (fun y => b (fun q => q y))
    · refine ⟨ve2, br_t (by rw [m0, ed_bi_f z0]) ⟨v64, br_f (by rw [m1, ed_bi_t z1]; decide) ⟨ve2, br_t (by rw [m0, ed_bi_f z0]) ⟨?_, ?_⟩⟩⟩⟩
      · rw [d1]; exact vp_in_nI (by omega) (by omega)
      · exact nm_r (e' := nI n) (by rw [d1, nI_clamp (by omega)]; exact q1) (p3 post h)
  · refine ⟨False, 0, fun post a b => ?_, fun post h => ?_⟩
    · unfold wpX_findJoinOutput
      dsimp only
      refine nm_e ⟨ve, xb_bit (w := 0) ?_⟩
      rw [ce]
      refine br_t ((ed_bz (by omega) (HB 0 e (by omega) hf (Nat.le_refl _))).mpr z0) ⟨ve, xb_bit (w := 1) ?_⟩
      exact br_t ((ed_bz (by omega) (HB 1 e (by omega) hf (Nat.le_refl _))).mpr z1) (b id)
    · rw [ed_bi_f id] at h
      exact ⟨ve2, br_t (by rw [m0, ed_bi_f z0]) ⟨v64, br_t (by rw [m1, ed_bi_f z1]) h⟩⟩
end
end
section
/-! what an event does to a slot's own relation -/
theorem ed_lx_cv {x : Nat → Int32} {s w : Nat} : ed_cv (fun j => x (99 * s + j)) (24 + 25 * w) ↔ ed_cv x (99 * s + 24 + 25 * w) := by
  constructor
  · intro h; exact ed_cv_cg h (fun j _ => by simp only [Nat.add_assoc])
  · intro h; exact ed_cv_cg h (fun j _ => by simp only [Nat.add_assoc])
theorem ed_lx_ce {x y : Nat → Int32} {s w : Nat} (h : ed_ce (fun j => x (99 * s + j)) (24 + 25 * w) (fun j => y (100 * s + j)) (24 + 25 * w)) : ed_ce x (99 * s + 24 + 25 * w) y (100 * s + 24 + 25 * w) :=
  ed_ce_cg h (fun j _ => by simp only [Nat.add_assoc]) (fun j _ => by simp only [Nat.add_assoc])
theorem ed_lx_me {x : Nat → Int32} {s w : Nat} {a b ty t : Int32} (h : ed_cv (fun j => x (99 * s + j)) (24 + 25 * w)) : ed_me x (99 * s + 24 + 25 * w) a b ty t ↔ ed_me (fun j => x (99 * s + j)) (24 + 25 * w) a b ty t :=
  ed_me_cg h (fun j _ => by simp only [Nat.add_assoc])
/-- the event e has gone to the slot: bits of e, began bits -/
theorem ed_step {f g c r e hi s : Nat} {x y ty a b t tm tg tm' tg' : Nat → Int32} (he : e < hi) (H : ed_Qs f g c r e hi (fun j => x (99 * s + j)) (fun j => y (100 * s + j)) ty a b t (fun i w => bt (tm i) (3 * s + w)) (fun i => bt (tg i) s)) (m1 : ∀ j, j ≠ e → tm' j = tm j) (m2 : ∀ l, bt (tm' e) l = true ↔ (bt (tm e) l = true ∨ ∃ w, w < c ∧ l = 3 * s + w ∧ ed_me x (99 * s + 24 + 25 * w) (a e) (b e) (ty e) (t e))) (g1 : ∀ j, e ≤ j → j < hi → bt (tg' j) s = bt (tg j) s) (g2 : ∀ eq on : Nat, x (99 * s) = 2 → eq ≤ 1 → on ≤ 1 → x (99 * s + 7) = nI eq → x (99 * s + 8) = nI on → ∀ j, f ≤ j → j < e → (bt (tg' j) s = true ↔ (bt (tg j) s = true ∨ 0 < ed_wt (ed_M (fun j => x (99 * s + j)) ty a b t) (c - 1) ty a t (x (99 * s + 6)) (x (99 * s + 1)) eq on (fun j => bt (tg j) s = true) e j))) : ed_Qs f g c r (e + 1) hi (fun j => x (99 * s + j)) (fun j => y (100 * s + j)) ty a b t (fun i w => bt (tm' i) (3 * s + w)) (fun i => bt (tg' i) s) := by
  obtain ⟨⟨hf, hg, hr1, hr8, hc⟩, n, Q, ho, hv, hm, hz, hq⟩ := H
  refine ⟨⟨by omega, by omega, hr1, hr8, hc⟩, n, Q, ho, hv, ?_, ?_, ?_⟩
  · intro i w h1 h2 h3
    by_cases e0 : i = e
    · subst e0
      dsimp only
      rw [m2]
      have hz0 : bt (tm i) (3 * s + w) = false := (hz i (Nat.le_refl _) he).1 w (by omega)
      rw [hz0]
      constructor
      · rintro (q | ⟨w', q1, q2, q3⟩)
        · exact absurd q (by decide)
        · have : w' = w := by omega
          subst this
          exact (ed_lx_me (hv w' q1)).mp q3
      · intro q
        exact Or.inr ⟨w, h3, rfl, (ed_lx_me (hv w h3)).mpr q⟩
    · dsimp only
      rw [m1 i e0]
      exact hm i w h1 (by omega) h3
  · intro i h1 h2
    dsimp only
    rw [m1 i (by omega), g1 i (by omega) h2]
    exact hz i (by omega) h2
  · rcases hq with hq | hq | hq
    · exact Or.inl hq
    · obtain ⟨z0, zc, eq, on, z1, z2, z3, z4, z5, z6, z7, z8, zb⟩ := hq
      refine Or.inr (Or.inl ⟨z0, zc, eq, on, z1, z2, z3, z4, z5, z6, z7, z8, fun i h1 h2 => ?_⟩)
      by_cases e0 : i = e
      · subst e0
        dsimp only
        have hz2 : bt (tg i) s = false := (hz i (Nat.le_refl _) he).2
        rw [g1 i (Nat.le_refl _) he, hz2]
        exact ⟨fun q => absurd q (by decide), fun ⟨k, q1, q2, _⟩ => by omega⟩
      · have ie : i < e := by omega
        have zi := zb i h1 ie
        dsimp only at zi ⊢
        have zx : x (99 * s) = 2 := z0
        rw [g2 eq on zx z1 z2 z5 z7 i h1 (by omega), ed_wt_gw z2 zi, zi]
        unfold ed_gw
        constructor
        · rintro (⟨k, q1, q2, q3⟩ | q)
          · exact ⟨k, q1, by omega, q3⟩
          · rcases Classical.em (on = 1 ∧ ∃ k, i < k ∧ k < e ∧ 0 < ed_mt (ed_M (fun j => x (99 * s + j)) ty a b t) (c - 1) ty a t (x (99 * s + 6)) (eq = 1) (x (99 * s + 1)) i k) with y | y
            · rw [if_pos y] at q; omega
            · rw [if_neg y] at q; exact ⟨e, ie, Nat.lt_succ_self _, q⟩
        · rintro ⟨k, q1, q2, q3⟩
          by_cases ke : k = e
          · subst ke
            rcases Classical.em (on = 1 ∧ ∃ q, i < q ∧ q < k ∧ 0 < ed_mt (ed_M (fun j => x (99 * s + j)) ty a b t) (c - 1) ty a t (x (99 * s + 6)) (eq = 1) (x (99 * s + 1)) i q) with y | y
            · exact Or.inl y.2
            · exact Or.inr (by rw [if_neg y]; exact q3)
          · exact Or.inl ⟨k, q1, by omega, q3⟩
    · exact Or.inr (Or.inr hq)
theorem ed_vw_cg {mem : Nat → Prop} {T A T' A' : Nat → Int32} {kind : Nat} {N : Int32} {e i : Nat} (hT : ∀ j, j ≤ e → T' j = T j) (hA : ∀ j, j ≤ e → A' j = A j) (hi : i ≤ e) : ed_vw mem T' A' kind N e i ↔ ed_vw mem T A kind N e i := by
  unfold ed_vw
  rw [hT e (Nat.le_refl _), hT i hi, hA i hi]
  have c1 : (∀ j, i ≤ j → j ≤ e → mem j → T' (ed_nx mem e (e - j)) - T' j < N) ↔ (∀ j, i ≤ j → j ≤ e → mem j → T (ed_nx mem e (e - j)) - T j < N) := by
    constructor
    · intro g j a b c; rw [← hT j b, ← hT _ (ed_nx_le mem e (e - j))]; exact g j a b c
    · intro g j a b c; rw [hT j b, hT _ (ed_nx_le mem e (e - j))]; exact g j a b c
  have c2 : (∀ j, i < j → j ≤ e → mem j → A' j ≠ A i) ↔ (∀ j, i < j → j ≤ e → mem j → A j ≠ A i) := by
    constructor
    · intro g j a b c; rw [← hA j b]; exact g j a b c
    · intro g j a b c; rw [hA j b]; exact g j a b c
  rw [c1, c2]
/-! longs -/
theorem ed_l64 (x y : Int32) : x.toInt64 ≤ y.toInt64 ↔ x ≤ y := by
  rw [Int64.le_iff_toInt_le, Int32.le_iff_toInt_le, Int32.toInt_toInt64, Int32.toInt_toInt64]
theorem ed_no (x : Int32) : ¬ x.toInt64 = 1099511627776 := by
  intro h
  have h2 := congrArg Int64.toInt h
  rw [Int32.toInt_toInt64, show (1099511627776 : Int64).toInt = 1099511627776 by decide] at h2
  have := x.toInt_lt
  omega
theorem ed_l32 (x : Int32) : x.toInt64.toInt32 = x := by simp
end
section
/-! counting, giving, routing -/
def ed_W (h hi : Nat) (xw : Int32) (fg ty a b t : Nat → Int32) (fW fB : Int32) (aW : Nat → Int32) : Prop :=
  ∃ bg w : Nat, xw = nI w ∧ hi = h + w ∧ fB = nI bg ∧ fW = nI (bg + w) ∧ bg + 1 ≤ h ∧ (∀ j, j < w → aW (3 * (bg + j)) = ty (h + j) ∧ aW (3 * (bg + j) + 1) = a (h + j) ∧ aW (3 * (bg + j) + 2) = b (h + j) ∧ t (h + j) = fg 2)
def ed_MM (k h : Nat) (hs : Nat → Nat) (xw : Int32) (xF xQ xT xA xB xC xM xG : Nat → Int32) (fW fB : Int32) (aQ aE aG aW : Nat → Int32) : Prop :=
  ∃ hi, ed_C k h hi hs xF xQ xT xA xB xC xM xG aQ aE aG ∧ ed_W h hi xw xF xT xA xB xC fW fB aW
theorem ed_C_slot2 {k h hi s : Nat} {hs : Nat → Nat} {fg x ty a b t tm tg y ev g x' y' tm' tg' : Nat → Int32} (hs6 : s < 6) (ex : ∀ j, j < 594 → (j < 99 * s ∨ 99 * s + 99 ≤ j) → x' j = x j) (ey : ∀ j, j < 600 → (j < 100 * s ∨ 100 * s + 100 ≤ j) → y' j = y j) (em : ∀ i, i < hi → ∀ l, (l < 3 * s ∨ 3 * s + 3 ≤ l) → bt (tm' i) l = bt (tm i) l) (eg : ∀ i, i < hi → ∀ l, l ≠ s → bt (tg' i) l = bt (tg i) l) (Q : ed_S s (hs s) hi x' ty a b t tm' tg' y') (H : ed_C k h hi hs fg x ty a b t tm tg y ev g) : ed_C k h hi hs fg x' ty a b t tm' tg' y' ev g := by
  have z := ed_C_slot (hs s) (H.2.2.2.2 s hs6).1 hs6 ex ey em eg Q H
  have e : (fun j => if j = s then hs s else hs j) = hs := by
    funext j
    by_cases q : j = s
    · rw [if_pos q, q]
    · rw [if_neg q]
  rw [e] at z
  exact z
theorem ed_C_fg {k h hi : Nat} {hs : Nat → Nat} {fg x ty a b t tm tg y ev g fg' g' : Nat → Int32} (f0 : fg' 0 = fg 0) (f2 : fg' 2 = fg 2) (y0 : g' 0 = g 0) (y2 : g' 2 = g 2) (e1 : fg' 1 = g' 1) (e3 : fg' 3 = g' 3) (H : ed_C k h hi hs fg x ty a b t tm tg y ev g) : ed_C k h hi hs fg' x ty a b t tm tg y ev g' := by
  obtain ⟨⟨h0, h0', _, h2, _⟩, hh, ⟨now, tn, a1, a2, a3, a4⟩, h4, h5⟩ := H
  exact ⟨⟨f0.trans h0, y0.trans h0', e1, (f2.trans h2).trans y2.symm, e3⟩, hh, ⟨now, tn, f2.trans a1, a2, a3, a4⟩, h4, h5⟩
theorem ed_Q_ext {hs hi : Nat} {lx ly ty a b t ty' a' b' t' : Nat → Int32} {mb mb' : Nat → Nat → Bool} {gb gb' : Nat → Bool} (hl : hs ≤ hi) (e3 : ∀ i, i < hi → ty' i = ty i ∧ a' i = a i ∧ b' i = b i ∧ t' i = t i) (e4 : ∀ i, i < hi → (∀ w, w < 3 → mb' i w = mb i w) ∧ gb' i = gb i) (z1 : ∀ w, w < 3 → mb' hi w = false) (z2 : gb' hi = false) (h : ed_Q hs hi lx ly ty a b t mb gb) : ed_Q hs (hi + 1) lx ly ty' a' b' t' mb' gb' := by
  have h' := ed_Q_cg (lx' := lx) (ly' := ly) (ty' := ty') (a' := a') (b' := b') (t' := t') (mb' := mb') (gb' := gb') hl (fun _ _ => rfl) (fun _ _ => rfl) (fun i q => e3 i (by omega)) e4 h
  obtain ⟨h0, h'⟩ := h'
  refine ⟨h0, ?_⟩
  rcases h' with h' | ⟨f, g, c, r, q1, q2, q3, q4, q5, q6, hz, q8⟩
  · exact Or.inl h'
  · refine Or.inr ⟨f, g, c, r, q1, q2, q3, q4, q5, q6, fun i h1 h2 => ?_, q8⟩
    by_cases e0 : i = hi
    · subst e0; exact ⟨z1, z2⟩
    · exact hz i h1 (by omega)
theorem ed_C_add {k h hi : Nat} {hs : Nat → Nat} {fg x ty a b t tm tg y ev g : Nat → Int32} {v1 v2 v3 : Int32} (h64 : hi < 64) (H : ed_C k h hi hs fg x ty a b t tm tg y ev g) : ed_C k h (hi + 1) hs fg x (upd ty hi v1) (upd a hi v2) (upd b hi v3) (upd t hi (fg 2)) (upd tm hi 0) (upd tg hi 0) y ev g := by
  obtain ⟨h0, ⟨hh, _⟩, ⟨now, tn, a1, a2, a3, a4⟩, h4, h5⟩ := H
  refine ⟨h0, ⟨by omega, by omega⟩, ⟨now, fun i => if i = hi then now else tn i, a1, a2, ?_, ?_⟩, ?_, ?_⟩
  · intro i hi'
    dsimp only
    by_cases e : i = hi
    · subst e; rw [pk_us, if_pos rfl]; exact ⟨a1, Nat.le_refl _⟩
    · rw [pk_un e, if_neg e]; exact a3 i (by omega)
  · intro i j hij hj
    dsimp only
    by_cases e : j = hi
    · subst e
      rw [if_pos rfl]
      by_cases e2 : i = j
      · rw [if_pos e2]; exact Nat.le_refl _
      · rw [if_neg e2]; exact (a3 i (by omega)).2
    · rw [if_neg e, if_neg (by omega)]; exact a4 i j hij (by omega)
  · intro i hi'
    rw [pk_un (by omega), pk_un (by omega), pk_un (by omega), pk_un (by omega)]
    exact h4 i hi'
  · intro s hs6
    obtain ⟨p1, p2⟩ := h5 s hs6
    refine ⟨p1, ?_⟩
    unfold ed_S at p2 ⊢
    refine ed_Q_ext (by omega) ?_ ?_ ?_ ?_ p2
    · intro i hi'
      rw [pk_un (by omega), pk_un (by omega), pk_un (by omega), pk_un (by omega)]
      exact ⟨rfl, rfl, rfl, rfl⟩
    · intro i hi'
      rw [pk_un (by omega), pk_un (by omega)]
      exact ⟨fun _ _ => rfl, rfl⟩
    · intro w _; rw [pk_us]; exact b_0 _
    · rw [pk_us]; exact b_0 _
section
variable {xl xw xk : Int32} {xP xL xF xQ xT xA xB xC xM xG kF kQ kT kA kB kC kM kG xS xZ : Nat → Int32}
variable {fT fL fK fW fB fH fO : Int32} {aT aL aQ aE aG aKQ aKE aKG aW aS aM aV aZ aB : Nat → Int32}
theorem xy_count {k s e f g c r hi : Nat} {hs : Nat → Nat} {fo : Int32} (h6 : s < 6) (he : e < 64) (hge : g ≤ e) (hss : hs s = e + 1) (H : ed_Qs f g c r (e + 1) hi (fun j => xQ (99 * s + j)) (fun j => aQ (100 * s + j)) xT xA xB xC (fun i w => bt (xM i) (3 * s + w)) (fun i => bt (xG i) s)) (e0 : xQ (99 * s) = aQ (100 * s)) (hC : ed_C k (e + 1) hi hs xF xQ xT xA xB xC xM xG aQ aE aG) (hW : ed_W (e + 1) hi xw xF xT xA xB xC fW fB aW) (hfH : ¬ fH = 0) (hlt : aQ (100 * s + 6) < fO) (hfo : fO = fo) : ∃ xw' xF' xQ' xT' xA' xB' xC' xM' xG' fW' aQ' aG' aW', ed_MM k (e + 1) hs xw' xF' xQ' xT' xA' xB' xC' xM' xG' fW' fB aQ' aE aG' aW' ∧ (∀ post : SX → Prop, post (xl, xw', xk, xP, xL, xF', xQ', xT', xA', xB', xC', xM', xG', kF, kQ, kT, kA, kB, kC, kM, kG, xS, xZ) → wpX_countOutput post (xl, xw, xk, xP, xL, xF, xQ, xT, xA, xB, xC, xM, xG, kF, kQ, kT, kA, kB, kC, kM, kG, xS, xZ) (nI s) fo) ∧ (∀ post : SY → Prop, post (fT, fL, fK, fW', fB, fH, fO, aT, aL, aQ', aE, aG', aKQ, aKE, aKG, aW', aS, aM, aV, aZ, aB) → wY_ask_137 post (nI s) fT fL fK fW fB fH fO aT aL aQ aE aG aKQ aKE aKG aW aS aM aV aZ aB) := by
  subst hfo
  have H' := H
  obtain ⟨⟨hf, hg, hr1, hr8, hc⟩, ⟨n12, n14, n23, n10⟩, ⟨q9, q10, q11, q12, q13, q14, q23, qc⟩, ho, hv, hm, hz, hq⟩ := H'
  have hhi := hC.2.1
  have hcs := (hC.2.2.2.2 s h6).1
  have n14 : xQ (99 * s + 14) = nI g := n14
  have n10 : xQ (99 * s + 10) = nI r := n10
  have m14 : aQ (100 * s + 11) = nI g := (q14.symm).trans n14
  have m10 : aQ (100 * s + 7) = nI r := (q10.symm).trans n10
  have q13 : xQ (99 * s + 13) = aQ (100 * s + 10) := q13
  have q11 : xQ (99 * s + 11) = aQ (100 * s + 8) := q11
  have q9 : xQ (99 * s + 9) = aQ (100 * s + 6) := q9
  have w13 := ed_x s 13 h6 (by omega)
  have w10 := ed_x s 10 h6 (by omega)
  have w14 := ed_x s 14 h6 (by omega)
  have w11 := ed_x s 11 h6 (by omega)
  have c13 : (nI s * 99 + 13).toNatClampNeg = 99 * s + 13 := w13.2
  have c10 : (nI s * 99 + 10).toNatClampNeg = 99 * s + 10 := w10.2
  have c14 : (nI s * 99 + 14).toNatClampNeg = 99 * s + 14 := w14.2
  have c11 : (nI s * 99 + 11).toNatClampNeg = 99 * s + 11 := w11.2
  have y6 := ed_y s 6 h6 (by omega)
  have y10 := ed_y s 10 h6 (by omega)
  have y7 := ed_y s 7 h6 (by omega)
  have y11 := ed_y s 11 h6 (by omega)
  have y8 := ed_y s 8 h6 (by omega)
  have d6 : (100 * nI s + 6).toNatClampNeg = 100 * s + 6 := y6.2
  have d10 : (100 * nI s + 10).toNatClampNeg = 100 * s + 10 := y10.2
  have d7 : (100 * nI s + 7).toNatClampNeg = 100 * s + 7 := y7.2
  have d11 : (100 * nI s + 11).toNatClampNeg = 100 * s + 11 := y11.2
  have d8 : (100 * nI s + 8).toNatClampNeg = 100 * s + 8 := y8.2
  have r0 : ¬ nI r = 0 := nI_ne0 (by omega) (by omega)
  obtain ⟨v, hv'⟩ : ∃ v, v = aQ (100 * s + 10) + 1 := ⟨_, rfl⟩
  have x4_13 : upd xQ (99 * s + 13) v (99 * s + 13) = v := pk_us
  have x4_10 : upd xQ (99 * s + 13) v (99 * s + 10) = nI r := by rw [pk_un (by omega)]; exact n10
  have x4_14 : upd xQ (99 * s + 13) v (99 * s + 14) = nI g := by rw [pk_un (by omega)]; exact n14
  have y4_10 : upd aQ (100 * s + 10) v (100 * s + 10) = v := pk_us
  have y4_7 : upd aQ (100 * s + 10) v (100 * s + 7) = nI r := by rw [pk_un (by omega)]; exact m10
  -- the two walks, opened
  have XO : ∀ post : SX → Prop, ((v - v / nI r * nI r = 0 → (¬ (8 : Int32) = 0 ∧ (vp_in ((nI s * 99 + 15) + (nI g - nI g / 8 * 8)) 594 ∧ ∀ q, q = upd (upd xQ (99 * s + 13) v) ((nI s * 99 + 15) + (nI g - nI g / 8 * 8)).toNatClampNeg fO → ∀ q2, q2 = upd q (99 * s + 14) (q (99 * s + 14) + 1) → ((q2 (99 * s + 11) = 4 → post (xl, xw, xk, xP, xL, upd xF 3 (xF 3 + 1), q2, xT, xA, xB, xC, xM, xG, kF, kQ, kT, kA, kB, kC, kM, kG, xS, xZ)) ∧ (¬ q2 (99 * s + 11) = 4 → wpX_addEvent post (xl, xw, xk, xP, xL, upd xF 3 (xF 3 + 1), q2, xT, xA, xB, xC, xM, xG, kF, kQ, kT, kA, kB, kC, kM, kG, xS, xZ) (q2 (99 * s + 11)) (nI s) fO))))) ∧ (¬ v - v / nI r * nI r = 0 → post (xl, xw, xk, xP, xL, xF, upd xQ (99 * s + 13) v, xT, xA, xB, xC, xM, xG, kF, kQ, kT, kA, kB, kC, kM, kG, xS, xZ))) → wpX_countOutput post (xl, xw, xk, xP, xL, xF, xQ, xT, xA, xB, xC, xM, xG, kF, kQ, kT, kA, kB, kC, kM, kG, xS, xZ) (nI s) fO := by
    intro post h
    unfold wpX_countOutput
    dsimp only
    refine nm_e ⟨w13.1, w13.1, nm_r (e' := upd xQ (99 * s + 13) v) (by rw [c13, q13, hv']) ?_⟩
    rw [c13, c10, c14, c11, x4_13, x4_10, x4_14]
    refine ⟨w13.1, w10.1, r0, fun a => ⟨w14.1, (h.1 a).1, (h.1 a).2.1, fun q hq => ⟨w14.1, w14.1, fun q2 hq2 => nm_e ⟨w11.1, fun b => ((h.1 a).2.2 q hq q2 hq2).1 b, fun b => ⟨w11.1, ((h.1 a).2.2 q hq q2 hq2).2 b⟩⟩⟩⟩, fun a => h.2 a⟩
  have YO : ∀ post : SY → Prop, ((v - v / nI r * nI r = 0 → wpY_give post (fT, fL, fK, fW, fB, fH, fO, aT, aL, upd aQ (100 * s + 10) v, aE, aG, aKQ, aKE, aKG, aW, aS, aM, aV, aZ, aB) (nI s)) ∧ (¬ v - v / nI r * nI r = 0 → post (fT, fL, fK, fW, fB, fH, fO, aT, aL, upd aQ (100 * s + 10) v, aE, aG, aKQ, aKE, aKG, aW, aS, aM, aV, aZ, aB))) → wY_ask_137 post (nI s) fT fL fK fW fB fH fO aT aL aQ aE aG aKQ aKE aKG aW aS aM aV aZ aB := by
    intro post h
    refine br_f hfH ⟨y6.1, ?_⟩
    rw [d6]
    refine br_t hlt ⟨y10.1, y10.1, nm_r (e' := upd aQ (100 * s + 10) v) (by rw [d10, hv']) ?_⟩
    rw [d10, d7, y4_10, y4_7]
    exact ⟨y10.1, y7.1, r0, h⟩
  by_cases zr : v - v / nI r * nI r = 0
  rotate_left
  · refine ⟨xw, xF, upd xQ (99 * s + 13) v, xT, xA, xB, xC, xM, xG, fW, upd aQ (100 * s + 10) v, aG, aW, ⟨hi, ?_, hW⟩, fun post h => XO post (br_f zr h), fun post h => YO post (br_f zr h)⟩
    refine ed_C_slot2 (tm := xM) (tg := xG) h6 ?_ ?_ (fun _ _ _ _ => rfl) (fun _ _ _ _ => rfl) ?_ hC
    · intro j _ hj; exact pk_un (by omega)
    · intro j _ hj; exact pk_un (by omega)
    · rw [hss]
      refine ⟨?_, Or.inr ⟨f, g, c, r, ed_Qs_upd (by omega) ?_ ?_ (fun i _ => ⟨rfl, rfl, rfl, rfl⟩) (fun i _ => ⟨fun _ _ => rfl, rfl⟩) hg ⟨hr1, hr8⟩ ?_ ?_ ?_ ?_ ?_ ?_ ?_ ?_ H⟩⟩
      · show upd xQ _ _ (99 * s) = upd aQ _ _ (100 * s)
        simp (disch := omega) only [pk_us, pk_un]; exact e0
      · intro j h1 h2; (try dsimp only); simp (disch := omega) only [pk_us, pk_un]
      · intro j h1 h2; (try dsimp only); simp (disch := omega) only [pk_us, pk_un]
      · (try dsimp only); simp (disch := omega) only [pk_us, pk_un]; exact n14
      · (try dsimp only); simp (disch := omega) only [pk_us, pk_un]; exact n10
      · (try dsimp only); simp (disch := omega) only [pk_us, pk_un]; exact q9
      · (try dsimp only); simp (disch := omega) only [pk_us, pk_un]; exact n10.trans m10.symm
      · (try dsimp only); simp (disch := omega) only [pk_us, pk_un]; exact q11
      · (try dsimp only); simp (disch := omega) only [pk_us, pk_un]
      · (try dsimp only); simp (disch := omega) only [pk_us, pk_un]; exact n14.trans m14.symm
      · intro j h1 h2; (try dsimp only); simp (disch := omega) only [pk_us, pk_un]; exact ho j h1 h2
  have hg8 : g % 8 < 8 := Nat.mod_lt _ (by omega)
  have eg : nI g - nI g / 8 * 8 = nI (g % 8) := pk_rem (d := 8) (by omega) (by omega) (by omega)
  have eg2 : nI g &&& 7 = nI (g % 8) := pk_andN (by omega) 3 (by decide)
  have ix : (nI s * 99 + 15) + (nI g - nI g / 8 * 8) = nI (99 * s + 15 + g % 8) := by
    rw [eg, show nI s * 99 + 15 = nI (99 * s + 15) from ed_xi s 15, nI_add]
  have iy : (100 * nI s + 12) + (nI g &&& 7) = nI (100 * s + 12 + g % 8) := by
    rw [eg2, show (100 : Int32) * nI s + 12 = nI (100 * s + 12) from ed_yi s 12, nI_add]
  obtain ⟨Q2, hQ2⟩ : ∃ Q2, Q2 = upd (upd (upd xQ (99 * s + 13) v) (99 * s + 15 + g % 8) fO) (99 * s + 14) (nI (g + 1)) := ⟨_, rfl⟩
  obtain ⟨P2, hP2⟩ : ∃ P2, P2 = upd (upd (upd aQ (100 * s + 10) v) (100 * s + 12 + g % 8) fO) (100 * s + 11) (nI (g + 1)) := ⟨_, rfl⟩
  have Q211 : Q2 (99 * s + 11) = xQ (99 * s + 11) := by rw [hQ2]; simp (disch := omega) only [pk_us, pk_un]
  have P28 : P2 (100 * s + 8) = aQ (100 * s + 8) := by rw [hP2]; simp (disch := omega) only [pk_us, pk_un]
  have hC2 : ed_C k (e + 1) hi hs (upd xF 3 (xF 3 + 1)) Q2 xT xA xB xC xM xG P2 aE (upd aG 3 (aG 3 + 1)) := by
    refine ed_C_fg (fg := xF) (g := aG) (pk_un (by omega)) (pk_un (by omega)) (pk_un (by omega)) (pk_un (by omega)) ?_ ?_ (ed_C_slot2 (tm := xM) (tg := xG) h6 ?_ ?_ (fun _ _ _ _ => rfl) (fun _ _ _ _ => rfl) ?_ hC)
    · simp (disch := omega) only [pk_us, pk_un]; exact hC.1.2.2.1
    · simp (disch := omega) only [pk_us, pk_un]; rw [hC.1.2.2.2.2]
    · intro j _ hj; rw [hQ2]; simp (disch := omega) only [pk_us, pk_un]
    · intro j _ hj; rw [hP2]; simp (disch := omega) only [pk_us, pk_un]
    · rw [hss, hQ2, hP2]
      refine ⟨?_, Or.inr ⟨f, g + 1, c, r, ed_Qs_upd (by omega) ?_ ?_ (fun i _ => ⟨rfl, rfl, rfl, rfl⟩) (fun i _ => ⟨fun _ _ => rfl, rfl⟩) (by omega) ⟨hr1, hr8⟩ ?_ ?_ ?_ ?_ ?_ ?_ ?_ ?_ H⟩⟩
      · show upd _ _ _ (99 * s) = upd _ _ _ (100 * s)
        simp (disch := omega) only [pk_us, pk_un]; exact e0
      · intro j h1 h2; (try dsimp only); simp (disch := omega) only [pk_us, pk_un]
      · intro j h1 h2; (try dsimp only); simp (disch := omega) only [pk_us, pk_un]
      · (try dsimp only); simp (disch := omega) only [pk_us, pk_un]
      · (try dsimp only); simp (disch := omega) only [pk_us, pk_un]; exact n10
      · (try dsimp only); simp (disch := omega) only [pk_us, pk_un]; exact q9
      · (try dsimp only); simp (disch := omega) only [pk_us, pk_un]; exact n10.trans m10.symm
      · (try dsimp only); simp (disch := omega) only [pk_us, pk_un]; exact q11
      · (try dsimp only); simp (disch := omega) only [pk_us, pk_un]
      · (try dsimp only); simp (disch := omega) only [pk_us, pk_un]
      · intro j h1 h2
        (try dsimp only)
        by_cases ej : j = g % 8
        · subst ej
          rw [← Nat.add_assoc, ← Nat.add_assoc]
          simp (disch := omega) only [pk_us, pk_un]
        · simp (disch := omega) only [pk_us, pk_un]
          refine ho j h1 ?_
          rcases Nat.lt_or_ge j g with q | q
          · exact q
          · have : j = g := by omega
            subst this
            exact absurd (Nat.mod_eq_of_lt h1).symm ej
  have XG : ∀ post : SX → Prop, ((xQ (99 * s + 11) = 4 → post (xl, xw, xk, xP, xL, upd xF 3 (xF 3 + 1), Q2, xT, xA, xB, xC, xM, xG, kF, kQ, kT, kA, kB, kC, kM, kG, xS, xZ)) ∧ (¬ xQ (99 * s + 11) = 4 → wpX_addEvent post (xl, xw, xk, xP, xL, upd xF 3 (xF 3 + 1), Q2, xT, xA, xB, xC, xM, xG, kF, kQ, kT, kA, kB, kC, kM, kG, xS, xZ) (xQ (99 * s + 11)) (nI s) fO)) → wpX_countOutput post (xl, xw, xk, xP, xL, xF, xQ, xT, xA, xB, xC, xM, xG, kF, kQ, kT, kA, kB, kC, kM, kG, xS, xZ) (nI s) fO := by
    intro post h
    refine XO post (br_t zr ⟨by decide, ?_⟩)
    rw [ix, nI_clamp (by omega)]
    refine ⟨vp_in_nI (by omega) (by omega), nm_e (nm_r (e' := Q2) ?_ ?_)⟩
    · rw [hQ2]
      congr 1
      simp (disch := omega) only [pk_us, pk_un]
      rw [n14, nI_1]
    · rw [Q211]; exact h
  have YG : ∀ post : SY → Prop, ((aQ (100 * s + 8) = 4 → post (fT, fL, fK, fW, fB, fH, fO, aT, aL, P2, aE, upd aG 3 (aG 3 + 1), aKQ, aKE, aKG, aW, aS, aM, aV, aZ, aB)) ∧ (¬ aQ (100 * s + 8) = 4 → (((upd aG 3 (aG 3 + 1) 0 + fW - fB) < 64 → (vp_in (3 * fW) 192 ∧ ∀ a1, a1 = upd aW (3 * fW).toNatClampNeg (aQ (100 * s + 8)) → (vp_in (3 * fW + 1) 192 ∧ ∀ a2, a2 = upd a1 (3 * fW + 1).toNatClampNeg (nI s) → (∀ f2, f2 = fW + 1 → (vp_in (3 * fW + 2) 192 ∧ ∀ a3, a3 = upd a2 (3 * fW + 2).toNatClampNeg fO → post (fT, fL, fK, f2, fB, fH, fO, aT, aL, P2, aE, upd aG 3 (aG 3 + 1), aKQ, aKE, aKG, a3, aS, aM, aV, aZ, aB)))))) ∧ (¬ (upd aG 3 (aG 3 + 1) 0 + fW - fB) < 64 → ∀ g2, g2 = upd (upd aG 3 (aG 3 + 1)) 1 (upd aG 3 (aG 3 + 1) 1 + 1) → post (fT, fL, fK, fW, fB, fH, fO, aT, aL, P2, aE, g2, aKQ, aKE, aKG, aW, aS, aM, aV, aZ, aB))))) → wY_ask_137 post (nI s) fT fL fK fW fB fH fO aT aL aQ aE aG aKQ aKE aKG aW aS aM aV aZ aB := by
    intro post h
    refine YO post (br_t zr ?_)
    unfold wpY_give
    dsimp only
    have z11 : upd aQ (100 * s + 10) v (100 * s + 11) = nI g := by simp (disch := omega) only [pk_us, pk_un]; exact m14
    rw [d11, d8, z11, iy, nI_clamp (by omega)]
    refine ⟨y11.1, vp_in_nI (by omega) (by omega), nm_e ⟨y11.1, y11.1, nm_r (e' := P2) ?_ (nm_e ⟨y8.1, nm_r (e' := aQ (100 * s + 8)) P28 h⟩)⟩⟩
    rw [hP2]
    congr 1
    simp (disch := omega) only [pk_us, pk_un]
    rw [m14, nI_1]
  by_cases z4 : xQ (99 * s + 11) = 4
  · refine ⟨xw, upd xF 3 (xF 3 + 1), Q2, xT, xA, xB, xC, xM, xG, fW, P2, upd aG 3 (aG 3 + 1), aW, ⟨hi, hC2, ?_⟩, fun post h => XG post (br_t z4 h), fun post h => YG post (br_t (q11.symm.trans z4) h)⟩
    obtain ⟨bg, w, b1, b2, b3, b4, b5, b6⟩ := hW
    refine ⟨bg, w, b1, b2, b3, b4, b5, fun j hj => ?_⟩
    rw [pk_un (show (2 : Nat) ≠ 3 by omega)]
    exact b6 j hj
  have z4y : ¬ aQ (100 * s + 8) = 4 := fun q => z4 (q11.trans q)
  obtain ⟨bg, w, b1, b2, b3, b4, b5, b6⟩ := hW
  have f0 : upd xF 3 (xF 3 + 1) 0 = nI (e + 1) := by simp (disch := omega) only [pk_us, pk_un]; exact hC.1.1
  have g0 : upd aG 3 (aG 3 + 1) 0 = nI (e + 1) := by simp (disch := omega) only [pk_us, pk_un]; exact hC.1.2.1
  have exh : upd xF 3 (xF 3 + 1) 0 + xw = nI hi := by rw [f0, b1, nI_add, b2]
  have eyh : upd aG 3 (aG 3 + 1) 0 + fW - fB = nI hi := by
    rw [g0, b4, b3, nI_add, pk_sub (by omega)]
    congr 1; omega
  by_cases z64 : hi < 64
  · have lx : nI hi < 64 := nI_lt (b := 64) z64 (by omega)
    have chi : (nI hi).toNatClampNeg = hi := nI_clamp (by omega)
    have vhi : vp_in (nI hi) 64 := vp_in_nI z64 (by omega)
    have e3 : (3 : Int32) * fW = nI (3 * (bg + w)) := by rw [b4]; exact pk_mul 3 _
    have e31 : (3 : Int32) * fW + 1 = nI (3 * (bg + w) + 1) := by rw [e3, nI_1]
    have e32 : (3 : Int32) * fW + 2 = nI (3 * (bg + w) + 2) := by rw [e3]; exact nI_add _ 2
    refine ⟨nI (w + 1), upd xF 3 (xF 3 + 1), Q2, upd xT hi (xQ (99 * s + 11)), upd xA hi (nI s), upd xB hi fO, upd xC hi (upd xF 3 (xF 3 + 1) 2), upd xM hi 0, upd xG hi 0, nI (bg + w + 1), P2, upd aG 3 (aG 3 + 1), upd (upd (upd aW (3 * (bg + w)) (aQ (100 * s + 8))) (3 * (bg + w) + 1) (nI s)) (3 * (bg + w) + 2) fO, ⟨hi + 1, ed_C_add z64 hC2, ?_⟩, fun post h => XG post (br_f z4 ?_), fun post h => YG post (br_f z4y ?_)⟩
    · refine ⟨bg, w + 1, rfl, by omega, b3, rfl, b5, fun j hj => ?_⟩
      by_cases ej : j = w
      · subst ej
        rw [← b2]
        simp (disch := omega) only [pk_us, pk_un]
        exact ⟨q11.symm, trivial, trivial, trivial⟩
      · have := b6 j (by omega)
        simp (disch := omega) only [pk_us, pk_un]
        exact this
    · unfold wpX_addEvent
      dsimp only
      refine nm_r exh ?_
      rw [chi]
      exact br_t lx ⟨vhi, nm_e ⟨vhi, nm_e ⟨vhi, nm_e ⟨vhi, nm_e ⟨vhi, nm_e ⟨vhi, nm_e (nm_r (e' := nI (w + 1)) (by rw [b1, nI_1]) h)⟩⟩⟩⟩⟩⟩
    · rw [eyh]
      refine br_t lx ⟨by rw [e3]; exact vp_in_nI (by omega) (by omega), nm_r (e' := upd aW (3 * (bg + w)) (aQ (100 * s + 8))) (by rw [e3, nI_clamp (by omega)]) ⟨by rw [e31]; exact vp_in_nI (by omega) (by omega), nm_r (e' := upd (upd aW (3 * (bg + w)) (aQ (100 * s + 8))) (3 * (bg + w) + 1) (nI s)) (by rw [e31, nI_clamp (by omega)]) (nm_r (e' := nI (bg + w + 1)) (by rw [b4, nI_1]) ⟨by rw [e32]; exact vp_in_nI (by omega) (by omega), nm_r (e' := upd (upd (upd aW (3 * (bg + w)) (aQ (100 * s + 8))) (3 * (bg + w) + 1) (nI s)) (3 * (bg + w) + 2) fO) (by rw [e32, nI_clamp (by omega)]) h⟩)⟩⟩
  · have hi64 : hi = 64 := by omega
    have lx : ¬ nI hi < 64 := by rw [hi64]; decide
    refine ⟨xw, upd (upd xF 3 (xF 3 + 1)) 1 (upd xF 3 (xF 3 + 1) 1 + 1), Q2, xT, xA, xB, xC, xM, xG, fW, P2, upd (upd aG 3 (aG 3 + 1)) 1 (upd aG 3 (aG 3 + 1) 1 + 1), aW, ⟨hi, ed_C_fg (fg := upd xF 3 (xF 3 + 1)) (g := upd aG 3 (aG 3 + 1)) (pk_un (by omega)) (pk_un (by omega)) (pk_un (by omega)) (pk_un (by omega)) ?_ ?_ hC2, ?_⟩, fun post h => XG post (br_f z4 ?_), fun post h => YG post (br_f z4y ?_)⟩
    · simp (disch := omega) only [pk_us, pk_un]; rw [hC.1.2.2.1]
    · simp (disch := omega) only [pk_us, pk_un]; rw [hC.1.2.2.2.2]
    · refine ⟨bg, w, b1, b2, b3, b4, b5, fun j hj => ?_⟩
      simp (disch := omega) only [pk_us, pk_un]
      exact b6 j hj
    · unfold wpX_addEvent
      dsimp only
      exact nm_r exh (br_f lx (nm_e h))
    · rw [eyh]
      exact br_f lx (nm_e h)
end
end
section
/-! the output that an event finds, both sides -/
theorem ed_gw_cg {M : Nat → Nat → Prop} {last : Nat} {Ty A T Ty' A' T' : Nat → Int32} {st N : Int32} {eq on e j : Nat} (hl : last ≤ 2) (hl1 : 1 ≤ last) (hj : j < e) (h : ∀ i, i ≤ e → Ty' i = Ty i ∧ A' i = A i ∧ T' i = T i) : ed_gw M last Ty' A' T' st N eq on e j = ed_gw M last Ty A T st N eq on e j := by
  have mm : ∀ k, j < k → k ≤ e → ed_mt M last Ty' A' T' st (eq = 1) N j k = ed_mt M last Ty A T st (eq = 1) N j k := fun k a b =>
    ed_mt_cg a hl hl1 (fun _ _ _ _ _ => Iff.rfl) (fun i hi => h i (by omega))
  have c : (on = 1 ∧ ∃ k, j < k ∧ k < e ∧ 0 < ed_mt M last Ty' A' T' st (eq = 1) N j k) ↔ (on = 1 ∧ ∃ k, j < k ∧ k < e ∧ 0 < ed_mt M last Ty A T st (eq = 1) N j k) := by
    constructor
    · rintro ⟨o, k, a, b, d⟩; exact ⟨o, k, a, b, by rw [← mm k a (by omega)]; exact d⟩
    · rintro ⟨o, k, a, b, d⟩; exact ⟨o, k, a, b, by rw [mm k a (by omega)]; exact d⟩
  unfold ed_gw
  rw [mm e hj (Nat.le_refl _)]
  rcases Classical.em (on = 1 ∧ ∃ k, j < k ∧ k < e ∧ 0 < ed_mt M last Ty A T st (eq = 1) N j k) with y | y
  · rw [if_pos y, if_pos (c.mpr y)]
  · rw [if_neg y, if_neg (fun q => y (c.mp q))]
section
variable {xl xw xk : Int32} {xP xL xF xQ xT xA xB xC xM xG kF kQ kT kA kB kC kM kG xS xZ : Nat → Int32}
variable {fT fL fK fW fB fH fO : Int32} {aT aL aQ aE aG aKQ aKE aKG aW aS aM aV aZ aB : Nat → Int32}
theorem yd_w {s e c : Nat} {post : SY → Prop} {fH' fO' : Int32} {V Z : Nat → Int32} (hs : s < 6) (hc : c ≤ 3) (c20 : aQ (100 * s + 20) = nI c) (q0 : aQ (100 * s) = 1) (w : ∀ post : SY → Prop, post (fT, fL, fK, fW, fB, fH', fO', aT, aL, aQ, aE, aG, aKQ, aKE, aKG, aW, aS, aM, V, Z, aB) → wpY_windowOf post (fT, fL, fK, fW, fB, fH, fO, aT, aL, aQ, aE, aG, aKQ, aKE, aKG, aW, aS, aM, aV, aZ, aB) (nI s) (nI e)) (t : wY_ask_137 post (nI s) fT fL fK fW fB fH' fO' aT aL aQ aE aG aKQ aKE aKG aW aS aM V Z aB) : wY_ask_12 post (nI s) (nI e) 1 (nI c) fT fL fK fW fB fH fO aT aL aQ aE aG aKQ aKE aKG aW aS aM aV aZ aB := by
  have w20 := ed_y s 20 hs (by omega)
  have d20 : (100 * nI s + 20).toNatClampNeg = 100 * s + 20 := w20.2
  have w0 := ed_y0 s hs
  refine ⟨w20.1, br_t (by rw [d20, c20]; exact nI_le (Nat.le_refl _) (by omega)) ⟨w0.1, br_t (by rw [w0.2]; exact q0) (w _ ⟨w0.1, br_f (by rw [w0.2, q0]; decide) ⟨w0.1, br_f (by rw [w0.2, q0]; decide) t⟩⟩)⟩⟩
theorem yd_p {s e c : Nat} {post : SY → Prop} {fH' fO' : Int32} {B : Nat → Int32} (hs : s < 6) (hc : c ≤ 3) (c20 : aQ (100 * s + 20) = nI c) (q0 : aQ (100 * s) = 2) (w : ∀ post : SY → Prop, post (fT, fL, fK, fW, fB, fH', fO', aT, aL, aQ, aE, aG, aKQ, aKE, aKG, aW, aS, aM, aV, aZ, B) → wpY_patternOf post (fT, fL, fK, fW, fB, fH, fO, aT, aL, aQ, aE, aG, aKQ, aKE, aKG, aW, aS, aM, aV, aZ, aB) (nI s) (nI e)) (t : wY_ask_137 post (nI s) fT fL fK fW fB fH' fO' aT aL aQ aE aG aKQ aKE aKG aW aS aM aV aZ B) : wY_ask_12 post (nI s) (nI e) 1 (nI c) fT fL fK fW fB fH fO aT aL aQ aE aG aKQ aKE aKG aW aS aM aV aZ aB := by
  have w20 := ed_y s 20 hs (by omega)
  have d20 : (100 * nI s + 20).toNatClampNeg = 100 * s + 20 := w20.2
  have w0 := ed_y0 s hs
  refine ⟨w20.1, br_t (by rw [d20, c20]; exact nI_le (Nat.le_refl _) (by omega)) ⟨w0.1, br_f (by rw [w0.2, q0]; decide) ⟨w0.1, br_t (by rw [w0.2]; exact q0) (w _ ⟨w0.1, br_f (by rw [w0.2, q0]; decide) t⟩)⟩⟩⟩
theorem yd_j {s e c : Nat} {post : SY → Prop} {fH' fO' : Int32} (hs : s < 6) (hc : c ≤ 3) (c20 : aQ (100 * s + 20) = nI c) (q0 : aQ (100 * s) = 3) (w : ∀ post : SY → Prop, post (fT, fL, fK, fW, fB, fH', fO', aT, aL, aQ, aE, aG, aKQ, aKE, aKG, aW, aS, aM, aV, aZ, aB) → wpY_joinOf post (fT, fL, fK, fW, fB, fH, fO, aT, aL, aQ, aE, aG, aKQ, aKE, aKG, aW, aS, aM, aV, aZ, aB) (nI s) (nI e)) (t : wY_ask_137 post (nI s) fT fL fK fW fB fH' fO' aT aL aQ aE aG aKQ aKE aKG aW aS aM aV aZ aB) : wY_ask_12 post (nI s) (nI e) 1 (nI c) fT fL fK fW fB fH fO aT aL aQ aE aG aKQ aKE aKG aW aS aM aV aZ aB := by
  have w20 := ed_y s 20 hs (by omega)
  have d20 : (100 * nI s + 20).toNatClampNeg = 100 * s + 20 := w20.2
  have w0 := ed_y0 s hs
  refine ⟨w20.1, br_t (by rw [d20, c20]; exact nI_le (Nat.le_refl _) (by omega)) ⟨w0.1, br_f (by rw [w0.2, q0]; decide) ⟨w0.1, br_f (by rw [w0.2, q0]; decide) ⟨w0.1, br_t (by rw [w0.2]; exact q0) (w _ t)⟩⟩⟩⟩
theorem xd_1 {s e : Nat} {post : Int64 → SX → Prop} (hs : s < 6) (q0 : xQ (99 * s) = 1) (h : wpX_findWindowOutput post (xl, xw, xk, xP, xL, xF, xQ, xT, xA, xB, xC, xM, xG, kF, kQ, kT, kA, kB, kC, kM, kG, xS, xZ) (nI s) (nI e)) : wpX_findOutput post (xl, xw, xk, xP, xL, xF, xQ, xT, xA, xB, xC, xM, xG, kF, kQ, kT, kA, kB, kC, kM, kG, xS, xZ) (nI s) (nI e) := by
  have w0 := ed_x s 0 hs (by omega)
  have c0 : (nI s * 99 + 0).toNatClampNeg = 99 * s := w0.2
  exact ⟨w0.1, nm_r (e' := 1) (by rw [c0]; exact q0) (br_f (by decide) (br_f (by decide) (br_t rfl h)))⟩
theorem xd_2 {s e : Nat} {post : Int64 → SX → Prop} (hs : s < 6) (q0 : xQ (99 * s) = 2) (h : wpX_findPatternOutput post (xl, xw, xk, xP, xL, xF, xQ, xT, xA, xB, xC, xM, xG, kF, kQ, kT, kA, kB, kC, kM, kG, xS, xZ) (nI s) (nI e)) : wpX_findOutput post (xl, xw, xk, xP, xL, xF, xQ, xT, xA, xB, xC, xM, xG, kF, kQ, kT, kA, kB, kC, kM, kG, xS, xZ) (nI s) (nI e) := by
  have w0 := ed_x s 0 hs (by omega)
  have c0 : (nI s * 99 + 0).toNatClampNeg = 99 * s := w0.2
  exact ⟨w0.1, nm_r (e' := 2) (by rw [c0]; exact q0) (br_f (by decide) (br_f (by decide) (br_f (by decide) (br_t rfl h))))⟩
theorem xd_3 {s e : Nat} {post : Int64 → SX → Prop} (hs : s < 6) (q0 : xQ (99 * s) = 3) (h : wpX_findJoinOutput (fun r => post r (xl, xw, xk, xP, xL, xF, xQ, xT, xA, xB, xC, xM, xG, kF, kQ, kT, kA, kB, kC, kM, kG, xS, xZ)) (xl, xw, xk, xP, xL, xF, xQ, xT, xA, xB, xC, xM, xG, kF, kQ, kT, kA, kB, kC, kM, kG, xS, xZ) (nI s) (nI e)) : wpX_findOutput post (xl, xw, xk, xP, xL, xF, xQ, xT, xA, xB, xC, xM, xG, kF, kQ, kT, kA, kB, kC, kM, kG, xS, xZ) (nI s) (nI e) := by
  have w0 := ed_x s 0 hs (by omega)
  have c0 : (nI s * 99 + 0).toNatClampNeg = 99 * s := w0.2
  exact ⟨w0.1, nm_r (e' := 3) (by rw [c0]; exact q0) (br_f (by decide) (br_f (by decide) (br_f (by decide) (br_f (by decide) (br_t rfl h)))))⟩
/-- what the began bits may have become -/
def ed_GG (s e f c hi : Nat) (xQ xT xA xB xC xG G : Nat → Int32) : Prop :=
  (∀ j, e ≤ j → j < hi → bt (G j) s = bt (xG j) s) ∧ (∀ i l, l ≠ s → bt (G i) l = bt (xG i) l) ∧ (∀ eq on : Nat, xQ (99 * s) = 2 → eq ≤ 1 → on ≤ 1 → xQ (99 * s + 7) = nI eq → xQ (99 * s + 8) = nI on → ∀ j, f ≤ j → j < e → (bt (G j) s = true ↔ (bt (xG j) s = true ∨ 0 < ed_wt (ed_M (fun j => xQ (99 * s + j)) xT xA xB xC) (c - 1) xT xA xC (xQ (99 * s + 6)) (xQ (99 * s + 1)) eq on (fun j => bt (xG j) s = true) e j)))
theorem xy_find {s e f g c r hi : Nat} {tn : Nat → Nat} {mb0 : Nat → Nat → Bool} (hs : s < 6) (he : e < hi) (hi64 : hi ≤ 64) (e0 : xQ (99 * s) = aQ (100 * s)) (H : ed_Qs f g c r e hi (fun j => xQ (99 * s + j)) (fun j => aQ (100 * s + j)) xT xA xB xC mb0 (fun i => bt (xG i) s)) (EV : ∀ j, j ≤ e → aE (4 * j) = xT j ∧ aE (4 * j + 1) = xA j ∧ aE (4 * j + 2) = xB j ∧ aE (4 * j + 3) = xC j) (HT : ∀ j, j ≤ e → xC j = nI (tn j)) (Hmo : ∀ a b, a ≤ b → b ≤ e → tn a ≤ tn b) (Hb : tn e < 2 ^ 30) (HB : ∀ w i, w < c → f ≤ i → i ≤ e → (bt (xM i) (3 * s + w) = true ↔ ed_M (fun j => xQ (99 * s + j)) xT xA xB xC w i)) (HM : ∀ w j, w < c → f ≤ j → j ≤ e → aM (64 * w + j) = ed_bi (ed_M (fun j => xQ (99 * s + j)) xT xA xB xC w j)) : ∃ (hit : Prop) (fo : Int32), (∀ post : Int64 → SX → Prop, (∀ G Z, ed_GG s e f c hi xQ xT xA xB xC xG G → ((hit → post fo.toInt64 (xl, xw, xk, xP, xL, xF, xQ, xT, xA, xB, xC, xM, G, kF, kQ, kT, kA, kB, kC, kM, kG, xS, Z)) ∧ (¬ hit → post 1099511627776 (xl, xw, xk, xP, xL, xF, xQ, xT, xA, xB, xC, xM, G, kF, kQ, kT, kA, kB, kC, kM, kG, xS, Z)))) → wpX_findOutput post (xl, xw, xk, xP, xL, xF, xQ, xT, xA, xB, xC, xM, xG, kF, kQ, kT, kA, kB, kC, kM, kG, xS, xZ) (nI s) (nI e)) ∧ (∃ fo' V Z B, (hit → fo' = fo) ∧ ∀ post : SY → Prop, wY_ask_137 post (nI s) fT fL fK fW fB (ed_bi hit) fo' aT aL aQ aE aG aKQ aKE aKG aW aS aM V Z B → wY_ask_12 post (nI s) (nI e) 1 (nI c) fT fL fK fW fB 0 0 aT aL aQ aE aG aKQ aKE aKG aW aS aM aV aZ aB) := by
  obtain ⟨⟨hf, hg, hr1, hr8, hc⟩, ⟨n12, n14, n23, n10⟩, ⟨q9, q10, q11, q12, q13, q14, q23, qc⟩, ho, hv, hm, hz, hq⟩ := H
  have he64 : e < 64 := by omega
  have n12 : xQ (99 * s + 12) = nI f := n12
  have n23 : xQ (99 * s + 23) = nI c := n23
  have m9 : aQ (100 * s + 9) = nI f := q12.symm.trans n12
  have m20 : aQ (100 * s + 20) = nI c := q23.symm.trans n23
  have same : xQ (99 * s) ≠ 2 → ed_GG s e f c hi xQ xT xA xB xC xG xG := fun n2 => ⟨fun _ _ _ => rfl, fun _ _ _ => rfl, fun _ _ y => absurd y n2⟩
  rcases hq with hq | hq | hq
  · obtain ⟨z0, zc, kind, to, gr, k1, k2, k3, k4, k5, k6, k7, k8, k9, k10, k11⟩ := hq
    subst zc
    have z0 : xQ (99 * s) = 1 := z0
    have y0 : aQ (100 * s) = 1 := e0.symm.trans z0
    have k6 : xQ (99 * s + 1) = aQ (100 * s + 2) := k6
    obtain ⟨mem, hmem⟩ : ∃ mem : Nat → Prop, mem = fun i => ed_M (fun j => xQ (99 * s + j)) xT xA xB xC 0 i := ⟨_, rfl⟩
    have HB0 : ∀ i, f ≤ i → i ≤ e → (bt (xM i) (3 * s + 0) = true ↔ mem i) := fun i a b => by rw [hmem]; exact HB 0 i (by omega) a b
    have HM0 : ∀ j, f ≤ j → j ≤ e → aM j = ed_bi (mem j) := fun j a b => by
      have := HM 0 j (by omega) a b
      rw [Nat.mul_zero, Nat.zero_add] at this
      rw [hmem]; exact this
    have nG : xQ (99 * s) ≠ 2 := by rw [z0]; decide
    obtain ⟨Y0, Y1, Y2⟩ := yv_window (fT := fT) (fL := fL) (fK := fK) (fW := fW) (fB := fB) (fH := 0) (fO := 0) (aT := aT) (aL := aL) (aQ := aQ) (aE := aE) (aG := aG) (aKQ := aKQ) (aKE := aKE) (aKG := aKG) (aW := aW) (aS := aS) (aV := aV) (aZ := aZ) (aB := aB) (s := s) (kind := kind) (gr := gr) (to := to) (N := aQ (100 * s + 2)) hs he64 hf k5 rfl k9 k11 m9 k1 k2 k3 (fun a b => by rw [← k6]; exact k7 a b) HM0
    rw [← k6] at Y1 Y2
    have XW : ∀ post : Int64 → SX → Prop, _ → _ → _ → wpX_findWindowOutput post (xl, xw, xk, xP, xL, xF, xQ, xT, xA, xB, xC, xM, xG, kF, kQ, kT, kA, kB, kC, kM, kG, xS, xZ) (nI s) (nI e) := fun post => xv_window (post := post) (mem := mem) (kind := kind) (gr := gr) (to := to) (N := xQ (99 * s + 1)) hs he64 hf n12 rfl k4 k8 k10 k1 k2 k3 k7 HB0
    rcases Classical.em (mem e) with me | me
    rotate_left
    · refine ⟨False, 0, fun post h => xd_1 hs z0 (XW post (fun _ => (h xG xZ (same nG)).2 id) (fun a => absurd a me) (fun a => absurd a me)), 0, aV, aZ, aB, fun q => q.elim, fun post t => ?_⟩
      rw [ed_bi_f id] at t
      exact yd_w hs (by omega) m20 y0 (Y0 me) t
    rcases Classical.em (kind = 3 → ed_cn mem f (e + 1 - f) % (xQ (99 * s + 1)).toNatClampNeg = 0) with kb | kb
    rotate_left
    · have k3' : kind = 3 := Classical.byContradiction (fun q => kb (fun w => absurd w q))
      have nb : ¬ ed_cn mem f (e + 1 - f) % (xQ (99 * s + 1)).toNatClampNeg = 0 := fun q => kb (fun _ => q)
      obtain ⟨V, Yv⟩ := Y1 me k3' nb
      refine ⟨False, 0, fun post h => xd_1 hs z0 (XW post (fun a => absurd me a) (fun _ _ _ => (h xG xZ (same nG)).2 id) (fun _ b => absurd b kb)), 0, V, aZ, aB, fun q => q.elim, fun post t => ?_⟩
      rw [ed_bi_f id] at t
      exact yd_w hs (by omega) m20 y0 Yv t
    · obtain ⟨V, Z, n, s1, s2, Yv⟩ := Y2 me kb
      refine ⟨True, ed_tt to Z n, fun post h => xd_1 hs z0 (XW post (fun a => absurd me a) (fun _ a b => absurd (kb a) b) (fun _ _ Z' n' s1' s2' => ?_)), ed_tt to Z n, V, Z, aB, fun _ => rfl, fun post t => ?_⟩
      · have el : ed_bs (ed_px mem xC xA kind (xQ (99 * s + 1)) (gr = 1) e) xB f (e + 1 - f) = ed_bs (fun j => ed_vw mem (fun j => aE (4 * j + 3)) (fun j => aE (4 * j + 1)) kind (xQ (99 * s + 1)) e j ∧ (gr = 1 → aE (4 * j + 1) = aE (4 * e + 1))) (fun j => aE (4 * j + 2)) f (e + 1 - f) := by
          refine ed_bs_cg (fun i a b => ?_) (fun i a b => (EV i (by omega)).2.2.1.symm)
          rw [ed_pxy k1 HT Hmo Hb he64 (by omega), ed_vw_cg (T := xC) (A := xA) (fun j hj => (EV j hj).2.2.2) (fun j hj => (EV j hj).2.1) (by omega), (EV i (by omega)).2.1, (EV e (Nat.le_refl _)).2.1]
        obtain ⟨en, eZ⟩ := ed_st_eq s1' s1 (by rw [el])
        subst en
        have := (h xG Z' (same nG)).1 trivial
        rw [ed_tt_cg s2' eZ]
        exact this
      · rw [ed_bi_t trivial] at t
        exact yd_w hs (by omega) m20 y0 Yv t
  · obtain ⟨z0, zc, eq, on, z1, z2, z3, z4, z5, z6, z7, z8, zb⟩ := hq
    have z0 : xQ (99 * s) = 2 := z0
    have y0 : aQ (100 * s) = 2 := e0.symm.trans z0
    have z3 : xQ (99 * s + 1) = aQ (100 * s + 1) := z3
    have z4 : xQ (99 * s + 6) = aQ (100 * s + 2) := z4
    have z5 : xQ (99 * s + 7) = nI eq := z5
    have z7 : xQ (99 * s + 8) = nI on := z7
    obtain ⟨M, hM⟩ : ∃ M : Nat → Nat → Prop, M = ed_M (fun j => xQ (99 * s + j)) xT xA xB xC := ⟨_, rfl⟩
    have uq : ∀ a b : Nat, a ≤ 1 → b ≤ 1 → xQ (99 * s + 7) = nI a → xQ (99 * s + 8) = nI b → a = eq ∧ b = on := by
      intro a b h1 h2 h3 h4
      exact ⟨(nI_eq (by omega) (by omega)).mp (h3.symm.trans z5), (nI_eq (by omega) (by omega)).mp (h4.symm.trans z7)⟩
    have HBM : ∀ w i, w < c → f ≤ i → i ≤ e → (bt (xM i) (3 * s + w) = true ↔ M w i) := by rw [hM]; exact HB
    have HMM : ∀ w j, w < c → f ≤ j → j ≤ e → aM (64 * w + j) = ed_bi (M w j) := by rw [hM]; exact HM
    obtain ⟨Y0, Y1⟩ := yv_pattern (fT := fT) (fL := fL) (fK := fK) (fW := fW) (fB := fB) (fH := 0) (fO := 0) (aT := aT) (aL := aL) (aQ := aQ) (aE := aE) (aG := aG) (aKQ := aKQ) (aKE := aKE) (aKG := aKG) (aW := aW) (aS := aS) (aV := aV) (aZ := aZ) (aB := aB) (M := M) (st := xQ (99 * s + 6)) (N := xQ (99 * s + 1)) hs he64 hf zc z3.symm z4.symm z6 z8 m9 m20 z1 z2 rfl HMM
    have XP : ∀ post : Int64 → SX → Prop, _ → _ → wpX_findPatternOutput post (xl, xw, xk, xP, xL, xF, xQ, xT, xA, xB, xC, xM, xG, kF, kQ, kT, kA, kB, kC, kM, kG, xS, xZ) (nI s) (nI e) := fun post => xv_pattern (post := post) (M := M) (st := xQ (99 * s + 6)) (N := xQ (99 * s + 1)) hs he64 hf n12 rfl rfl z5 z7 n23 zc z1 z2 HBM
    rcases Classical.em (M (c - 1) e) with me | me
    rotate_left
    · have gg : ed_GG s e f c hi xQ xT xA xB xC xG xG := by
        refine ⟨fun _ _ _ => rfl, fun _ _ _ => rfl, fun a b _ h1 h2 h3 h4 j _ _ => ⟨Or.inl, fun q => q.elim id (fun w => ?_)⟩⟩
        rw [← hM] at w
        unfold ed_wt at w
        rw [ed_mt_0 (fun y => me y.2.1)] at w
        simp at w
      refine ⟨False, 0, fun post h => xd_2 hs z0 (XP post (fun _ => (h xG xZ gg).2 id) (fun a => absurd a me)), 0, aV, aZ, aB, fun q => q.elim, fun post t => ?_⟩
      rw [ed_bi_f id] at t
      exact yd_p hs hc m20 y0 (Y0 me) t
    · obtain ⟨B, Yv⟩ := Y1 me
      have es : ed_su (ed_wt M (c - 1) xT xA xC (xQ (99 * s + 6)) (xQ (99 * s + 1)) eq on (fun j => bt (xG j) s = true) e) f (e - f) = ed_su (ed_gw M (c - 1) (fun j => aE (4 * j)) (fun j => aE (4 * j + 1)) (fun j => aE (4 * j + 3)) (xQ (99 * s + 6)) (xQ (99 * s + 1)) eq on e) f (e - f) := by
        have l2 : c - 1 ≤ 2 := by omega
        have l1 : 1 ≤ c - 1 := by omega
        refine ed_su_cg (fun i a b => ?_)
        have ie : i < e := by omega
        have zi := zb i a ie
        dsimp only at zi
        rw [← hM] at zi
        rw [ed_wt_gw z2 zi]
        exact (ed_gw_cg l2 l1 ie (fun j hj => ⟨(EV j hj).1, (EV j hj).2.1, (EV j hj).2.2.2⟩)).symm
      rw [← es] at Yv
      refine ⟨¬ ed_su (ed_wt M (c - 1) xT xA xC (xQ (99 * s + 6)) (xQ (99 * s + 1)) eq on (fun j => bt (xG j) s = true) e) f (e - f) = 0, nI (ed_su (ed_wt M (c - 1) xT xA xC (xQ (99 * s + 6)) (xQ (99 * s + 1)) eq on (fun j => bt (xG j) s = true) e) f (e - f)), fun post h => xd_2 hs z0 (XP post (fun a => absurd me a) (fun _ G hG => ?_)), _, aV, aZ, B, fun _ => rfl, fun post t => yd_p hs hc m20 y0 Yv t⟩
      have gg : ed_GG s e f c hi xQ xT xA xB xC xG G := by
        refine ⟨fun j a b => ?_, fun i l hl => ?_, fun a b _ h1 h2 h3 h4 j j1 j2 => ?_⟩
        · rw [Bool.eq_iff_iff, hG j s]
          exact ⟨fun q => q.elim id (fun w => by omega), Or.inl⟩
        · rw [Bool.eq_iff_iff, hG i l]
          exact ⟨fun q => q.elim id (fun w => absurd w.1 hl), Or.inl⟩
        · obtain ⟨rfl, rfl⟩ := uq a b h1 h2 h3 h4
          rw [hG j s, ← hM]
          exact ⟨fun q => q.elim Or.inl (fun w => Or.inr w.2.2.2), fun q => q.elim Or.inl (fun w => Or.inr ⟨rfl, j1, j2, w⟩)⟩
      have hh := h G xZ gg
      exact ⟨fun q => hh.2 (fun w => w q), fun q => hh.1 q⟩
  · obtain ⟨z0, zc, n, m, k1, k2, k3, k4, k5, k6, k7, k8⟩ := hq
    subst zc
    have z0 : xQ (99 * s) = 3 := z0
    have y0 : aQ (100 * s) = 3 := e0.symm.trans z0
    have nG : xQ (99 * s) ≠ 2 := by rw [z0]; decide
    obtain ⟨hit, fo, X1, Y1⟩ := xy_join (xl := xl) (xw := xw) (xk := xk) (xP := xP) (xL := xL) (xF := xF) (xQ := xQ) (xT := xT) (xA := xA) (xB := xB) (xC := xC) (xM := xM) (xG := xG) (kF := kF) (kQ := kQ) (kT := kT) (kA := kA) (kB := kB) (kC := kC) (kM := kM) (kG := kG) (xS := xS) (xZ := xZ) (fT := fT) (fL := fL) (fK := fK) (fW := fW) (fB := fB) (aT := aT) (aL := aL) (aQ := aQ) (aE := aE) (aG := aG) (aKQ := aKQ) (aKE := aKE) (aKG := aKG) (aW := aW) (aS := aS) (aM := aM) (aV := aV) (aZ := aZ) (aB := aB) hs he64 hf k2 k4 k5 k7 n12 k6 k8 m9 HB HM (fun j hj => ⟨(EV j hj).2.1, (EV j hj).2.2.1⟩)
    refine ⟨hit, fo, fun post h => xd_3 hs z0 (X1 _ (fun q => (h xG xZ (same nG)).1 q) (fun q => (h xG xZ (same nG)).2 q)), fo, aV, aZ, aB, fun _ => rfl, fun post t => yd_j hs hc m20 y0 Y1 t⟩
end
end
section
/-! one event and one question, both sides -/
section
variable {xl xw xk : Int32} {xP xL xF xQ xT xA xB xC xM xG kF kQ kT kA kB kC kM kG xS xZ : Nat → Int32}
variable {fT fL fK fW fB fH fO : Int32} {aT aL aQ aE aG aKQ aKE aKG aW aS aM aV aZ aB : Nat → Int32}
theorem xy_ask {k s e : Nat} {hs : Nat → Nat} {postX : SX → Prop} (hk : k ≤ 3072) (h6 : s < 6) (hss : hs s = e) (hMM : ed_MM k (e + 1) hs xw xF xQ xT xA xB xC xM xG fW fB aQ aE aG aW) (hq : ¬ xQ (99 * s) = 0) (h : ∀ (xw' : Int32) (xF' xQ' xT' xA' xB' xC' xM' xG' xS' xZ' : Nat → Int32), (∃ fW' fH' fO' aQ' aG' aW' aS' aM' aV' aZ' aB', ed_MM k (e + 1) (fun j => if j = s then e + 1 else hs j) xw' xF' xQ' xT' xA' xB' xC' xM' xG' fW' fB aQ' aE aG' aW' ∧ ∀ postY : SY → Prop, postY (fT, fL, fK, fW', fB, fH', fO', aT, aL, aQ', aE, aG', aKQ, aKE, aKG, aW', aS', aM', aV', aZ', aB') → wpY_ask postY (fT, fL, fK, fW, fB, fH, fO, aT, aL, aQ, aE, aG, aKQ, aKE, aKG, aW, aS, aM, aV, aZ, aB) (nI s) (nI e)) → postX (xl, xw', xk, xP, xL, xF', xQ', xT', xA', xB', xC', xM', xG', kF, kQ, kT, kA, kB, kC, kM, kG, xS', xZ')) : wpX_ask postX (xl, xw, xk, xP, xL, xF, xQ, xT, xA, xB, xC, xM, xG, kF, kQ, kT, kA, kB, kC, kM, kG, xS, xZ) (nI s) (nI e) := by
  obtain ⟨hi, hC, hW⟩ := hMM
  obtain ⟨e0, hS⟩ := (show ed_S s e hi xQ xT xA xB xC xM xG aQ by have := ed_C_s hC h6; rw [hss] at this; exact this)
  have e0 : xQ (99 * s) = aQ (100 * s) := e0
  rcases hS with z | ⟨f, g, c, r, H⟩
  · exact absurd z hq
  have hhi := hC.2.1
  have he : e < hi := by omega
  have he64 : e < 64 := by omega
  have H' := H
  obtain ⟨⟨hf, hge, hr1, hr8, hc⟩, ⟨n12, n14, n23, n10⟩, ⟨q9, q10, q11, q12, q13, q14, q23, qc⟩, ho, hv, hm, hz, _⟩ := H'
  have n12 : xQ (99 * s + 12) = nI f := n12
  have n23 : xQ (99 * s + 23) = nI c := n23
  have q9 : xQ (99 * s + 9) = aQ (100 * s + 6) := q9
  have m9 : aQ (100 * s + 9) = nI f := q12.symm.trans n12
  have m20 : aQ (100 * s + 20) = nI c := q23.symm.trans n23
  have cvx : ∀ w, w < c → ed_cv xQ (99 * s + 24 + 25 * w) := fun w hw => ed_lx_cv.mp (hv w hw)
  have cex : ∀ w, w < c → ed_ce xQ (99 * s + 24 + 25 * w) aQ (100 * s + 24 + 25 * w) := fun w hw => ed_lx_ce (qc w (by omega))
  obtain ⟨now, tn, t1, t2, t3, t4⟩ := hC.2.2.1
  have EV : ∀ j, j ≤ e → aE (4 * j) = xT j ∧ aE (4 * j + 1) = xA j ∧ aE (4 * j + 2) = xB j ∧ aE (4 * j + 3) = xC j := fun j hj => hC.2.2.2.1 j (by omega)
  obtain ⟨st, M', hM', yk⟩ := yv_tab (fT := fT) (fL := fL) (fK := fK) (fW := fW) (fB := fB) (fH := fH) (fO := fO) (aT := aT) (aL := aL) (aQ := aQ) (aE := aE) (aG := aG) (aKQ := aKQ) (aKE := aKE) (aKG := aKG) (aW := aW) (aS := aS) (aM := aM) (aV := aV) (aZ := aZ) (aB := aB) h6 hc he64 hf m20 m9 (fun w hw => ed_MY_ok (cex w hw) (cvx w hw))
  have HM : ∀ w j, w < c → f ≤ j → j ≤ e → M' (64 * w + j) = ed_bi (ed_M (fun j => xQ (99 * s + j)) xT xA xB xC w j) := by
    intro w j hw a b
    rw [hM' w j hw a b]
    exact ed_bi_cg ((ed_MY_iff (cex w hw) (cvx w hw) (EV j b)).trans (ed_lx_me (hv w hw)))
  unfold wpX_ask
  dsimp only
  refine xb_hasQ h6 (fun z => absurd z hq) (fun _ => br_f (by decide) (xv_note h6 he64 hc n23 cvx (fun Mx st1 m1 m2 => ?_)))
  have HB : ∀ w i, w < c → f ≤ i → i ≤ e → (bt (Mx i) (3 * s + w) = true ↔ ed_M (fun j => xQ (99 * s + j)) xT xA xB xC w i) := by
    intro w i hw a b
    by_cases ei : i = e
    · subst ei
      have z : bt (xM i) (3 * s + w) = false := (hz i (Nat.le_refl _) he).1 w (by omega)
      rw [m2, z]
      constructor
      · rintro (q | ⟨w', q1, q2, q3⟩)
        · exact absurd q (by decide)
        · have : w' = w := by omega
          subst this
          exact (ed_lx_me (hv w' q1)).mp q3
      · intro q
        exact Or.inr ⟨w, hw, rfl, (ed_lx_me (hv w hw)).mpr q⟩
    · rw [m1 i ei]
      exact hm i w a (by omega) hw
  obtain ⟨hit, fo, X1, fo', V, Z, B, hfo, Y1⟩ := xy_find (xl := xl) (xw := xw) (xk := xk) (xP := xP) (xL := xL) (xF := xF) (xM := Mx) (kF := kF) (kQ := kQ) (kT := kT) (kA := kA) (kB := kB) (kC := kC) (kM := kM) (kG := kG) (xS := st1) (xZ := xZ) (fT := fT) (fL := fL) (fK := fK) (fW := fW) (fB := fB) (aT := aT) (aL := aL) (aG := aG) (aKQ := aKQ) (aKE := aKE) (aKG := aKG) (aW := aW) (aS := st) (aM := M') (aV := aV) (aZ := aZ) (aB := aB) (tn := tn) h6 he hhi.2 e0 H EV (fun j hj => (t3 j (by omega)).1) (fun a b h1 h2 => t4 a b h1 (by omega)) (by have := (t3 e he).2; omega) HB HM
  dsimp only
  refine X1 _ (fun G Z' gg => ?_)
  have Hs := ed_step he H m1 m2 gg.1 gg.2.2
  have hC' : ed_C k (e + 1) hi (fun j => if j = s then e + 1 else hs j) xF xQ xT xA xB xC Mx G aQ aE aG := by
    refine ed_C_slot (tm := xM) (tg := xG) (x := xQ) (y := aQ) (e + 1) (Nat.le_refl _) h6 (fun _ _ _ => rfl) (fun _ _ _ => rfl) ?_ (fun i _ l hl => gg.2.1 i l hl) ⟨e0, Or.inr ⟨f, g, c, r, Hs⟩⟩ hC
    intro i _ l hl
    by_cases ei : i = e
    · subst ei
      rw [Bool.eq_iff_iff, m2 l]
      exact ⟨fun q => q.elim id (fun ⟨w, w1, w2, _⟩ => by omega), Or.inl⟩
    · rw [m1 i ei]
  have w9 := ed_x s 9 h6 (by omega)
  have c9 : (nI s * 99 + 9).toNatClampNeg = 99 * s + 9 := w9.2
  have y6 := ed_y s 6 h6 (by omega)
  have d6 : (100 * nI s + 6).toNatClampNeg = 100 * s + 6 := y6.2
  refine ⟨fun yes => br_f (ed_no fo) ⟨w9.1, ?_⟩, fun no => br_t rfl (h _ _ _ _ _ _ _ _ _ _ _ ⟨fW, ed_bi hit, fo', aQ, aG, aW, st, M', V, Z, B, ⟨hi, hC', hW⟩, fun postY hp => yk _ (Y1 _ (br_t (ed_bi_f no) hp))⟩)⟩
  have hf1 : fo' = fo := hfo yes
  subst hf1
  have nz : ¬ ed_bi hit = 0 := by rw [ed_bi_t yes]; decide
  rw [c9]
  by_cases zl : fo' ≤ xQ (99 * s + 9)
  · refine br_t ((ed_l64 _ _).mpr zl) (h _ _ _ _ _ _ _ _ _ _ _ ⟨fW, ed_bi hit, fo', aQ, aG, aW, st, M', V, Z, B, ⟨hi, hC', hW⟩, fun postY hp => yk _ (Y1 _ (br_f nz ⟨y6.1, br_f ?_ hp⟩))⟩)
    rw [d6, ← q9]; exact Int32.not_lt.mpr zl
  · refine br_f (fun q => zl ((ed_l64 _ _).mp q)) ?_
    rw [ed_l32]
    obtain ⟨xw', xF', xQ', xT', xA', xB', xC', xM', xG', fW', aQ', aG', aW', a1, a2, a3⟩ := xy_count (xl := xl) (xk := xk) (xP := xP) (xL := xL) (kF := kF) (kQ := kQ) (kT := kT) (kA := kA) (kB := kB) (kC := kC) (kM := kM) (kG := kG) (xS := st1) (xZ := Z') (fT := fT) (fL := fL) (fK := fK) (fH := ed_bi hit) (fO := fo') (aT := aT) (aL := aL) (aKQ := aKQ) (aKE := aKE) (aKG := aKG) (aS := st) (aM := M') (aV := V) (aZ := Z) (aB := B) (fo := fo') (hs := fun j => if j = s then e + 1 else hs j) h6 he64 hge (if_pos rfl) Hs e0 hC' hW nz (by rw [← q9]; exact Int32.not_le.mp zl) rfl
    exact a2 _ (h _ _ _ _ _ _ _ _ _ _ _ ⟨fW', ed_bi hit, fo', aQ', aG', aW', st, M', V, Z, B, a1, fun postY hp => yk _ (Y1 _ (a3 _ hp))⟩)
end
theorem ed_C_hs {k h hi : Nat} {hs hs' : Nat → Nat} {fg x ty a b t tm tg y ev g : Nat → Int32} (e : ∀ s, s < 6 → hs' s = hs s) (H : ed_C k h hi hs fg x ty a b t tm tg y ev g) : ed_C k h hi hs' fg x ty a b t tm tg y ev g := by
  obtain ⟨h1, h2, h3, h4, h5⟩ := H
  refine ⟨h1, h2, h3, h4, fun s hs6 => ?_⟩
  rw [e s hs6]
  exact h5 s hs6
section
variable {xl xk : Int32} {xP xL kF kQ kT kA kB kC kM kG : Nat → Int32}
variable {fT fL fK fB : Int32} {aT aL aE aKQ aKE aKG : Nat → Int32}
theorem xy_slots {k e : Nat} {post : Int32 → SX → Prop} {J : (Int32 → Int32 → Int32 → Int32 → (Nat → Int32) → (Nat → Int32) → (Nat → Int32) → (Nat → Int32) → (Nat → Int32) → (Nat → Int32) → (Nat → Int32) → (Nat → Int32) → (Nat → Int32) → (Nat → Int32) → (Nat → Int32) → (Nat → Int32) → (Nat → Int32) → (Nat → Int32) → (Nat → Int32) → (Nat → Int32) → (Nat → Int32) → (Nat → Int32) → (Nat → Int32) → (Nat → Int32) → Prop)} {x4 x5 : Int32} (hk : k ≤ 3072) : ∀ (m i : Nat) (hs : Nat → Nat) (xw : Int32) (xF xQ xT xA xB xC xM xG xS xZ : Nat → Int32) (fW fH fO : Int32) (aQ aG aW aS aM aV aZ aB : Nat → Int32), i + m = 6 → (∀ s, s < 6 → hs s = if s < i then e + 1 else e) → ed_MM k (e + 1) hs xw xF xQ xT xA xB xC xM xG fW fB aQ aE aG aW → (∀ (xw' : Int32) (xF' xQ' xT' xA' xB' xC' xM' xG' xS' xZ' : Nat → Int32), (∃ fW' fH' fO' aQ' aG' aW' aS' aM' aV' aZ' aB', ed_MM k (e + 1) (fun _ => e + 1) xw' xF' xQ' xT' xA' xB' xC' xM' xG' fW' fB aQ' aE aG' aW' ∧ ∀ postY : SY → Prop, postY (fT, fL, fK, fW', fB, fH', fO', aT, aL, aQ', aE, aG', aKQ, aKE, aKG, aW', aS', aM', aV', aZ', aB') → wY_happen_67 postY (nI e) (m + 1) (nI i) fT fL fK fW fB fH fO aT aL aQ aE aG aKQ aKE aKG aW aS aM aV aZ aB) → J (x5 + 1) xl xw' xk xP xL xF' xQ' xT' xA' xB' xC' xM' xG' kF kQ kT kA kB kC kM kG xS' xZ') → wX_send_85 post J x4 x5 (nI e) (m + 1) (nI i) xl xw xk xP xL xF xQ xT xA xB xC xM xG kF kQ kT kA kB kC kM kG xS xZ := by
  intro m
  induction m with
  | zero =>
    intro i hs xw xF xQ xT xA xB xC xM xG xS xZ fW fH fO aQ aG aW aS aM aV aZ aB hi hhs hM h
    have e0 : i = 6 := by omega
    subst e0
    refine br_t (by decide) (nm_e (h _ _ _ _ _ _ _ _ _ _ _ ⟨fW, fH, fO, aQ, aG, aW, aS, aM, aV, aZ, aB, ?_, fun postY hp => br_t (by decide) hp⟩))
    obtain ⟨hi', hC, hW⟩ := hM
    exact ⟨hi', ed_C_hs (fun s h6 => by rw [hhs s h6, if_pos h6]) hC, hW⟩
  | succ m ih =>
    intro i hs xw xF xQ xT xA xB xC xM xG xS xZ fW fH fO aQ aG aW aS aM aV aZ aB hi hhs hM h
    have h6 : i < 6 := by omega
    have n6 : ¬ (6 : Int32) ≤ nI i := ed_n6 h6
    have hss : hs i = e := by rw [hhs i h6, if_neg (by omega)]
    have w0 := ed_y0 i h6
    have hhs' : ∀ s, s < 6 → (fun j => if j = i then e + 1 else hs j) s = if s < i + 1 then e + 1 else e := by
      intro s hs6
      dsimp only
      by_cases q : s = i
      · rw [if_pos q, if_pos (by omega)]
      · rw [if_neg q, hhs s hs6]
        by_cases q2 : s < i
        · rw [if_pos q2, if_pos (by omega)]
        · rw [if_neg q2, if_neg (by omega)]
    have e0 : xQ (99 * i) = aQ (100 * i) := by
      obtain ⟨hi', hC, _⟩ := hM
      exact (ed_C_s hC h6).1
    refine br_f n6 ?_
    by_cases z : xQ (99 * i) = 0
    · have zy : aQ (100 * i) = 0 := e0.symm.trans z
      unfold wpX_ask
      dsimp only
      refine xb_hasQ h6 (fun _ => br_t rfl (nm_r (nI_1 i) (ih (i + 1) (fun j => if j = i then e + 1 else hs j) _ _ _ _ _ _ _ _ _ _ _ fW fH fO aQ aG aW aS aM aV aZ aB (by omega) hhs' ?_ ?_))) (fun q => absurd z q)
      · obtain ⟨hi', hC, hW⟩ := hM
        exact ⟨hi', ed_C_slot (tm := xM) (tg := xG) (x := xQ) (y := aQ) (e + 1) (Nat.le_refl _) h6 (fun _ _ _ => rfl) (fun _ _ _ => rfl) (fun _ _ _ _ => rfl) (fun _ _ _ _ => rfl) ⟨e0, Or.inl z⟩ hC, hW⟩
      · rintro xw' xF' xQ' xT' xA' xB' xC' xM' xG' xS' xZ' ⟨fW', fH', fO', aQ', aG', aW', aS', aM', aV', aZ', aB', b1, b2⟩
        exact h _ _ _ _ _ _ _ _ _ _ _ ⟨fW', fH', fO', aQ', aG', aW', aS', aM', aV', aZ', aB', b1, fun postY hp => br_f n6 ⟨w0.1, br_t (by rw [w0.2]; exact zy) (nm_r (nI_1 i) (b2 postY hp))⟩⟩
    · have zy : ¬ aQ (100 * i) = 0 := fun q => z (e0.trans q)
      refine xy_ask (fT := fT) (fL := fL) (fK := fK) (fH := fH) (fO := fO) (aT := aT) (aL := aL) (aKQ := aKQ) (aKE := aKE) (aKG := aKG) (aS := aS) (aM := aM) (aV := aV) (aZ := aZ) (aB := aB) hk h6 hss hM z ?_
      rintro xw1 xF1 xQ1 xT1 xA1 xB1 xC1 xM1 xG1 xS1 xZ1 ⟨fW1, fH1, fO1, aQ1, aG1, aW1, aS1, aM1, aV1, aZ1, aB1, c1, c2⟩
      refine nm_r (nI_1 i) (ih (i + 1) (fun j => if j = i then e + 1 else hs j) _ _ _ _ _ _ _ _ _ _ _ fW1 fH1 fO1 aQ1 aG1 aW1 aS1 aM1 aV1 aZ1 aB1 (by omega) hhs' c1 ?_)
      rintro xw' xF' xQ' xT' xA' xB' xC' xM' xG' xS' xZ' ⟨fW', fH', fO', aQ', aG', aW', aS', aM', aV', aZ', aB', b1, b2⟩
      exact h _ _ _ _ _ _ _ _ _ _ _ ⟨fW', fH', fO', aQ', aG', aW', aS', aM', aV', aZ', aB', b1, fun postY hp => br_f n6 ⟨w0.1, br_f (by rw [w0.2]; exact zy) (c2 _ (nm_r (nI_1 i) (b2 postY hp)))⟩⟩
end
end
section
/-! send -/
def ed_PR (k h : Nat) (xw : Int32) (xF xQ xT xA xB xC xM xG : Nat → Int32) (fW fB : Int32) (aQ aE aG aW : Nat → Int32) : Prop :=
  ∃ w bg : Nat, ed_C k h (h + w + 1) (fun _ => h) xF xQ xT xA xB xC xM xG aQ aE aG ∧ xw = nI (w + 1) ∧ fB = nI bg ∧ fW = nI (bg + w) ∧ bg ≤ h ∧ xC h = xF 2 ∧ (∀ j, j < w → aW (3 * (bg + j)) = xT (h + 1 + j) ∧ aW (3 * (bg + j) + 1) = xA (h + 1 + j) ∧ aW (3 * (bg + j) + 2) = xB (h + 1 + j) ∧ xC (h + 1 + j) = xF 2)
section
variable {xl xw xk : Int32} {xP xL xF xQ xT xA xB xC xM xG kF kQ kT kA kB kC kM kG xS xZ : Nat → Int32}
variable {fT fL fK fW fB fH fO : Int32} {aT aL aQ aE aG aKQ aKE aKG aW aS aM aV aZ aB : Nat → Int32}
theorem xy_turn {k h τ n : Nat} {post : Int32 → SX → Prop} {x4 : Int32} (hk : k ≤ 3072) (hτ : τ < 64) (P : ed_PR k h xw xF xQ xT xA xB xC xM xG fW fB aQ aE aG aW) (hn : ∀ (xw' : Int32) (xF' xQ' xT' xA' xB' xC' xM' xG' xS' xZ' : Nat → Int32), (∃ fW' fH' fO' aQ' aE' aG' aW' aS' aM' aV' aZ' aB', ed_MM k (h + 1) (fun _ => h + 1) xw' xF' xQ' xT' xA' xB' xC' xM' xG' fW' fB aQ' aE' aG' aW' ∧ ∀ postY : SY → Prop, postY (fT, fL, fK, fW', fB, fH', fO', aT, aL, aQ', aE', aG', aKQ, aKE, aKG, aW', aS', aM', aV', aZ', aB') → wpY_happen postY (fT, fL, fK, fW, fB, fH, fO, aT, aL, aQ, aE, aG, aKQ, aKE, aKG, aW, aS, aM, aV, aZ, aB) (xT h) (xA h) (xB h)) → wX_send_40 post x4 n (nI (τ + 1)) xl xw' xk xP xL xF' xQ' xT' xA' xB' xC' xM' xG' kF kQ kT kA kB kC kM kG xS' xZ') : wX_send_40 post x4 (n + 1) (nI τ) xl xw xk xP xL xF xQ xT xA xB xC xM xG kF kQ kT kA kB kC kM kG xS xZ := by
  obtain ⟨w, bg, hC, b1, b2, b3, b4, b5, b6⟩ := P
  obtain ⟨⟨f0, g0, f1, f2, f3⟩, ⟨hh, hi64⟩, ⟨now, tn, t1, t2, t3, t4⟩, hE, hS⟩ := hC
  have e4 : (4 : Int32) * nI h = nI (4 * h) := pk_mul 4 h
  have e41 : (4 : Int32) * nI h + 1 = nI (4 * h + 1) := by rw [e4, nI_1]
  have e42 : (4 : Int32) * nI h + 2 = nI (4 * h + 2) := by rw [e4]; exact nI_add _ 2
  have e43 : (4 : Int32) * nI h + 3 = nI (4 * h + 3) := by rw [e4]; exact nI_add _ 3
  have MM1 : ed_MM k (h + 1) (fun _ => h) (nI w) (upd xF 0 (nI (h + 1))) xQ xT xA xB xC xM xG fW fB aQ (upd (upd (upd (upd aE (4 * h) (xT h)) (4 * h + 1) (xA h)) (4 * h + 2) (xB h)) (4 * h + 3) (upd aG 0 (nI (h + 1)) 2)) (upd aG 0 (nI (h + 1))) aW := by
    refine ⟨h + w + 1, ⟨⟨pk_us, pk_us, ?_, ?_, ?_⟩, ⟨by omega, hi64⟩, ⟨now, tn, ?_, t2, t3, t4⟩, ?_, fun s h6 => ⟨Nat.le_succ h, (hS s h6).2⟩⟩, ⟨bg, w, rfl, by omega, b2, b3, by omega, ?_⟩⟩
    · simp (disch := omega) only [pk_us, pk_un]; exact f1
    · simp (disch := omega) only [pk_us, pk_un]; exact f2
    · simp (disch := omega) only [pk_us, pk_un]; exact f3
    · simp (disch := omega) only [pk_us, pk_un]; exact t1
    · intro i hi
      by_cases e : i = h
      · subst e; simp (disch := omega) only [pk_us, pk_un]; exact ⟨trivial, trivial, trivial, f2.symm.trans b5.symm⟩
      · simp (disch := omega) only [pk_us, pk_un]; exact hE i (by omega)
    · intro j hj; simp (disch := omega) only [pk_us, pk_un]; exact b6 j hj
  refine br_f (nI_ge (b := 64) hτ (by omega)) (br_f (by rw [b1]; exact nI_nle (by omega) (by omega)) (nm_r f0 (nm_r (e' := nI w) (by rw [b1]; exact nI_pred w) (nm_r (e' := upd xF 0 (nI (h + 1))) (by rw [f0, nI_1]) ⟨7, ?_⟩))))
  refine xy_slots (e := h) (fT := fT) (fL := fL) (fK := fK) (fB := fB) (aT := aT) (aL := aL) (aE := upd (upd (upd (upd aE (4 * h) (xT h)) (4 * h + 1) (xA h)) (4 * h + 2) (xB h)) (4 * h + 3) (upd aG 0 (nI (h + 1)) 2)) (aKQ := aKQ) (aKE := aKE) (aKG := aKG) hk 6 0 (fun _ => h) _ _ _ _ _ _ _ _ _ _ _ fW fH fO aQ (upd aG 0 (nI (h + 1))) aW aS aM aV aZ aB (by omega) (fun s _ => by rw [if_neg (by omega)]) MM1 ?_
  rintro xw' xF' xQ' xT' xA' xB' xC' xM' xG' xS' xZ' ⟨fW', fH', fO', aQ', aG', aW', aS', aM', aV', aZ', aB', c1, c2⟩
  rw [nI_1]
  refine hn _ _ _ _ _ _ _ _ _ _ _ ⟨fW', fH', fO', aQ', _, aG', aW', aS', aM', aV', aZ', aB', c1, fun postY hp => ?_⟩
  refine nm_r (e' := upd aG 0 (nI (h + 1))) (by rw [g0, nI_1]) (nm_r g0 ⟨by rw [e4]; exact vp_in_nI (by omega) (by omega), nm_r (e' := upd aE (4 * h) (xT h)) (by rw [e4, nI_clamp (by omega)]) ⟨by rw [e41]; exact vp_in_nI (by omega) (by omega), nm_r (e' := upd (upd aE (4 * h) (xT h)) (4 * h + 1) (xA h)) (by rw [e41, nI_clamp (by omega)]) ⟨by rw [e42]; exact vp_in_nI (by omega) (by omega), nm_r (e' := upd (upd (upd aE (4 * h) (xT h)) (4 * h + 1) (xA h)) (4 * h + 2) (xB h)) (by rw [e42, nI_clamp (by omega)]) ⟨by rw [e43]; exact vp_in_nI (by omega) (by omega), nm_r (e' := upd (upd (upd (upd aE (4 * h) (xT h)) (4 * h + 1) (xA h)) (4 * h + 2) (xB h)) (4 * h + 3) (upd aG 0 (nI (h + 1)) 2)) (by rw [e43, nI_clamp (by omega)]) ⟨7, c2 postY hp⟩⟩⟩⟩⟩)
end
section
variable {xl xk : Int32} {xP xL kF kQ kT kA kB kC kM kG : Nat → Int32}
variable {fT fL fK : Int32} {aT aL aKQ aKE aKG : Nat → Int32}
theorem xy_loop {k : Nat} {post : Int32 → SX → Prop} {x4 : Int32} (hk : k ≤ 3072) : ∀ (d h τ : Nat) (xw : Int32) (xF xQ xT xA xB xC xM xG xS xZ : Nat → Int32) (fW fB fH fO : Int32) (aQ aE aG aW aS aM aV aZ aB : Nat → Int32), h + d = 64 → τ ≤ h → ed_MM k h (fun _ => h) xw xF xQ xT xA xB xC xM xG fW fB aQ aE aG aW → (∀ (xw' : Int32) (xF' xQ' xT' xA' xB' xC' xM' xG' xS' xZ' : Nat → Int32), (∃ fW' fB' fH' fO' aQ' aE' aG' aW' aS' aM' aV' aZ' aB', (ed_B k xF' xQ' xT' xA' xB' xC' xM' xG' aQ' aE' aG' ∧ xw' = 0 ∧ xF' 3 = aG' 3) ∧ ∀ postY : Int32 → SY → Prop, postY (aG' 3 - x4) (fT, fL, fK, fW', fB', fH', fO', aT, aL, aQ', aE', aG', aKQ, aKE, aKG, aW', aS', aM', aV', aZ', aB') → ∃ n : Nat, wY_send_47 postY x4 n fT fL fK fW fB fH fO aT aL aQ aE aG aKQ aKE aKG aW aS aM aV aZ aB) → post (xF' 3 - x4) (xl, xw', xk, xP, xL, xF', xQ', xT', xA', xB', xC', xM', xG', kF, kQ, kT, kA, kB, kC, kM, kG, xS', xZ')) → wX_send_40 post x4 (d + 1) (nI τ) xl xw xk xP xL xF xQ xT xA xB xC xM xG kF kQ kT kA kB kC kM kG xS xZ := by
  intro d
  induction d with
  | zero =>
    intro h τ xw xF xQ xT xA xB xC xM xG xS xZ fW fB fH fO aQ aE aG aW aS aM aV aZ aB hd hτ hM hf
    obtain ⟨hi, hC, bg, w, b1, b2, b3, b4, b5, b6⟩ := hM
    have hh := hC.2.1
    have w0 : w = 0 := by omega
    subst w0
    have e : hi = h := by omega
    subst e
    have q := hf xw xF xQ xT xA xB xC xM xG xS xZ ⟨fW, fB, fH, fO, aQ, aE, aG, aW, aS, aM, aV, aZ, aB, ⟨⟨hi, hC⟩, b1, hC.1.2.2.2.2⟩, fun postY hp => ⟨1, br_t (by rw [b4, b3]; exact nI_le (Nat.le_refl _) (by omega)) hp⟩⟩
    exact br_c (fun _ => q) (fun _ => br_t (by rw [b1]; decide) q)
  | succ d ih =>
    intro h τ xw xF xQ xT xA xB xC xM xG xS xZ fW fB fH fO aQ aE aG aW aS aM aV aZ aB hd hτ hM hf
    obtain ⟨hi, hC, bg, w, b1, b2, b3, b4, b5, b6⟩ := hM
    have hh := hC.2.1
    rcases Nat.eq_zero_or_pos w with w0 | w0
    · subst w0
      have e : hi = h := by omega
      subst e
      have q := hf xw xF xQ xT xA xB xC xM xG xS xZ ⟨fW, fB, fH, fO, aQ, aE, aG, aW, aS, aM, aV, aZ, aB, ⟨⟨hi, hC⟩, b1, hC.1.2.2.2.2⟩, fun postY hp => ⟨1, br_t (by rw [b4, b3]; exact nI_le (Nat.le_refl _) (by omega)) hp⟩⟩
      exact br_c (fun _ => q) (fun _ => br_t (by rw [b1]; decide) q)
    · obtain ⟨w, rfl⟩ : ∃ v, w = v + 1 := ⟨w - 1, by omega⟩
      obtain ⟨p0, p1, p2, p3⟩ := b6 0 (by omega)
      have p0 : aW (3 * bg) = xT h := p0
      have p1 : aW (3 * bg + 1) = xA h := p1
      have p2 : aW (3 * bg + 2) = xB h := p2
      have p3 : xC h = xF 2 := p3
      have PR : ed_PR k h xw xF xQ xT xA xB xC xM xG fW (nI (bg + 1)) aQ aE aG aW := by
        refine ⟨w, bg + 1, by rw [show h + w + 1 = hi by omega]; exact hC, b1, rfl, by rw [b4]; congr 1; omega, by omega, p3, fun j hj => ?_⟩
        have := b6 (j + 1) (by omega)
        rw [show bg + (j + 1) = bg + 1 + j by omega, show h + (j + 1) = h + 1 + j by omega] at this
        exact this
      refine xy_turn (fT := fT) (fL := fL) (fK := fK) (fH := fH) (fO := fO) (aT := aT) (aL := aL) (aKQ := aKQ) (aKE := aKE) (aKG := aKG) (aS := aS) (aM := aM) (aV := aV) (aZ := aZ) (aB := aB) hk (by omega) PR ?_
      rintro xw1 xF1 xQ1 xT1 xA1 xB1 xC1 xM1 xG1 xS1 xZ1 ⟨fW1, fH1, fO1, aQ1, aE1, aG1, aW1, aS1, aM1, aV1, aZ1, aB1, c1, c2⟩
      refine ih (h + 1) (τ + 1) _ _ _ _ _ _ _ _ _ _ _ fW1 (nI (bg + 1)) fH1 fO1 aQ1 aE1 aG1 aW1 aS1 aM1 aV1 aZ1 aB1 (by omega) (by omega) c1 ?_
      rintro xw' xF' xQ' xT' xA' xB' xC' xM' xG' xS' xZ' ⟨fW', fB', fH', fO', aQ', aE', aG', aW', aS', aM', aV', aZ', aB', r1, r2⟩
      refine hf _ _ _ _ _ _ _ _ _ _ _ ⟨fW', fB', fH', fO', aQ', aE', aG', aW', aS', aM', aV', aZ', aB', r1, fun postY hp => ?_⟩
      obtain ⟨n, hn⟩ := r2 postY hp
      have e3 : (3 : Int32) * nI bg = nI (3 * bg) := pk_mul 3 bg
      have e31 : nI (3 * bg) + 1 = nI (3 * bg + 1) := nI_1 _
      have e32 : nI (3 * bg) + 2 = nI (3 * bg + 2) := nI_add _ 2
      refine ⟨n + 1, br_f (by rw [b4, b3]; exact nI_ge (by omega) (by omega)) (nm_r (e' := nI (bg + 1)) (by rw [b3, nI_1]) (nm_r (e' := nI (3 * bg)) (by rw [b3, e3]) ?_))⟩
      rw [e31, e32, nI_clamp (by omega), nI_clamp (by omega), nI_clamp (by omega), p0, p1, p2]
      exact ⟨vp_in_nI (by omega) (by omega), vp_in_nI (by omega) (by omega), vp_in_nI (by omega) (by omega), c2 _ hn⟩
end
theorem i_vc_send {k : Nat} {u : SX} {v : SY} (I : i_Rel k u v) (hk : k + 6 ≤ 3072) (v1 : Int32) (v2 : Int32) (v3 : Int32) : wpX_send (fun r u' => wpY_send (fun r' v' => r' = r ∧ i_Rel (k + 6) u' v') v v1 v2 v3) u v1 v2 v3 := by
  obtain ⟨xl, xw, xk, xP, xL, xF, xQ, xT, xA, xB, xC, xM, xG, kF, kQ, kT, kA, kB, kC, kM, kG, xS, xZ⟩ := u
  obtain ⟨fT, fL, fK, fW, fB, fH, fO, aT, aL, aQ, aE, aG, aKQ, aKE, aKG, aW, aS, aM, aV, aZ, aB⟩ := v
  have I' := i_up I
  obtain ⟨hP, hL, hw, ⟨h, hC⟩, hK⟩ := I
  have hC0 := hC
  obtain ⟨⟨f0, g0, f1, f2, f3⟩, ⟨_, hi64⟩, _⟩ := hC0
  by_cases z0 : v1 < 0
  · exact br_t z0 (br_t z0 ⟨rfl, I'⟩)
  by_cases z3 : 3 < v1
  · exact br_f z0 (br_t z3 (br_f z0 (br_t z3 ⟨rfl, I'⟩)))
  by_cases zh : h < 64
  rotate_left
  · have e : h = 64 := by omega
    subst e
    exact br_f z0 (br_f z3 (br_f (by rw [f0]; decide) (br_f z0 (br_f z3 (br_t g0 ⟨rfl, I'⟩)))))
  have xlt : xF 0 < 64 := by rw [f0]; exact nI_lt (b := 64) zh (by omega)
  have ylt : ¬ aG 0 = 64 := by
    rw [g0]; intro q
    have := (nI_eq (b := 64) (by omega) (by omega)).mp q
    omega
  have chi : (nI h).toNatClampNeg = h := nI_clamp (by omega)
  have vhi : vp_in (nI h) 64 := vp_in_nI zh (by omega)
  have exh : xF 0 + xw = nI h := by rw [f0, hw, Int32.add_zero]
  unfold wpX_send
  dsimp only
  refine br_f z0 (br_f z3 (br_t xlt (nm_e ?_)))
  unfold wpX_addEvent
  dsimp only
  refine nm_r exh ?_
  rw [chi]
  refine br_t (nI_lt (b := 64) zh (by omega)) ⟨vhi, nm_e ⟨vhi, nm_e ⟨vhi, nm_e ⟨vhi, nm_e ⟨vhi, nm_e ⟨vhi, nm_e (nm_r (e' := nI 1) (by rw [hw]; rfl) ⟨64 - (h + 1) + 1 + 1, ?_⟩)⟩⟩⟩⟩⟩⟩
  have hCa := ed_C_add (v1 := v1) (v2 := v2) (v3 := v3) zh hC
  refine xy_turn (τ := 0) (h := h) (fT := fT) (fL := fL) (fK := fK) (fW := 0) (fB := 0) (fH := fH) (fO := fO) (aT := aT) (aL := aL) (aQ := aQ) (aE := aE) (aG := aG) (aKQ := aKQ) (aKE := aKE) (aKG := aKG) (aW := aW) (aS := aS) (aM := aM) (aV := aV) (aZ := aZ) (aB := aB) (k := k) (by omega) (by omega) ⟨0, 0, hCa, rfl, rfl, rfl, Nat.zero_le _, pk_us, fun j hj => absurd hj (Nat.not_lt_zero _)⟩ ?_
  rintro xw1 xF1 xQ1 xT1 xA1 xB1 xC1 xM1 xG1 xS1 xZ1 ⟨fW1, fH1, fO1, aQ1, aE1, aG1, aW1, aS1, aM1, aV1, aZ1, aB1, c1, c2⟩
  rw [pk_us, pk_us, pk_us] at c2
  refine xy_loop (fT := fT) (fL := fL) (fK := fK) (aT := aT) (aL := aL) (aKQ := aKQ) (aKE := aKE) (aKG := aKG) (k := k) (by omega) (64 - (h + 1)) (h + 1) (0 + 1) _ _ _ _ _ _ _ _ _ _ _ fW1 0 fH1 fO1 aQ1 aE1 aG1 aW1 aS1 aM1 aV1 aZ1 aB1 (by omega) (by omega) c1 ?_
  rintro xw' xF' xQ' xT' xA' xB' xC' xM' xG' xS' xZ' ⟨fW', fB', fH', fO', aQ', aE', aG', aW', aS', aM', aV', aZ', aB', ⟨r0, r1, r2⟩, r3⟩
  unfold wpY_send
  dsimp only
  refine br_f z0 (br_f z3 (br_f ylt (nm_r (e' := xF 3) f3.symm (c2 _ (r3 _ ⟨by rw [r2], hP, hL, r1, ed_B_up (by omega) r0, ed_K_up (by omega) hK⟩)))))
end
