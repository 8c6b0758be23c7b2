/-! the pure machine of a condition -/
def ed_tk (op : Int32) : Nat := if op ≤ 4 then 0 else if op = 12 then 1 else 2
theorem ed_tk_le (op : Int32) : ed_tk op ≤ 2 := by
  unfold ed_tk
  split
  · omega
  · split <;> omega
def ed_dp (o : Nat → Int32) : Nat → Nat
  | 0 => 0
  | i + 1 => ed_dp o i + 1 - ed_tk (o i)
theorem ed_dp_le (o : Nat → Int32) : ∀ i, ed_dp o i ≤ i
  | 0 => Nat.le_refl _
  | i + 1 => by have := ed_dp_le o i; rw [ed_dp]; omega
theorem ed_dp_cg {o o' : Nat → Int32} : ∀ {n : Nat}, (∀ i, i < n → o i = o' i) → ed_dp o n = ed_dp o' n
  | 0, _ => rfl
  | n + 1, h => by rw [ed_dp, ed_dp, ed_dp_cg (n := n) (fun i hi => h i (by omega)), h n (by omega)]
def ed_cb (op x y : Int32) : Int32 :=
  if op = 5 then x + y else if op = 6 then x - y else if op = 7 then x * y
  else if op = 8 then (if x < y then 1 else 0) else if op = 9 then (if x = y then 1 else 0)
  else if op = 10 then (if x = 0 then 0 else if y = 0 then 0 else 1)
  else if op = 11 then (if x = 0 then (if y = 0 then 0 else 1) else 1)
  else if op = 12 then (if y = 0 then 1 else 0)
  else (if y = 0 then 0 else x - x / y * y)
def ed_rs (op v a b ty t x y : Int32) : Int32 :=
  if op = 0 then v else if op = 1 then a else if op = 2 then b else if op = 3 then ty else if op = 4 then t else ed_cb op x y
def ed_pe (o v : Nat → Int32) (a b ty t : Int32) : Nat → Nat → Int32
  | 0 => fun _ => 0
  | i + 1 => upd (ed_pe o v a b ty t i) (ed_dp o i - ed_tk (o i)) (ed_rs (o i) (v i) a b ty t (ed_pe o v a b ty t i (ed_dp o i - 2)) (ed_pe o v a b ty t i (ed_dp o i - 1)))
theorem ed_pe_cg {o o' v v' : Nat → Int32} {a b ty t : Int32} : ∀ {n : Nat}, (∀ i, i < n → o i = o' i) → (∀ i, i < n → v i = v' i) → ed_pe o v a b ty t n = ed_pe o' v' a b ty t n
  | 0, _, _ => rfl
  | n + 1, h, g => by
    rw [ed_pe, ed_pe, ed_pe_cg (n := n) (fun i hi => h i (by omega)) (fun i hi => g i (by omega)), h n (by omega), g n (by omega), ed_dp_cg (n := n) (fun i hi => h i (by omega))]
/-- so far the program never took off more than there is -/
def ed_go (o : Nat → Int32) (n : Nat) : Prop := ∀ i, i < n → (∃ k, k ≤ 13 ∧ o i = nI k) ∧ ed_tk (o i) ≤ ed_dp o i
def ed_ok (o : Nat → Int32) (n : Nat) : Prop := n ≤ 12 ∧ ed_go o n ∧ ed_dp o n = 1
theorem ed_go_cg {o o' : Nat → Int32} {n : Nat} (h : ∀ i, i < n → o i = o' i) (g : ed_go o n) : ed_go o' n := by
  intro i hi
  rw [← h i hi, ← ed_dp_cg (n := i) (fun j hj => h j (by omega))]
  exact g i hi
theorem ed_ok_cg {o o' : Nat → Int32} {n : Nat} (h : ∀ i, i < n → o i = o' i) (g : ed_ok o n) : ed_ok o' n :=
  ⟨g.1, ed_go_cg h g.2.1, by rw [← ed_dp_cg h]; exact g.2.2⟩
/-- stack arrays that agree below the depth go on to agree -/
theorem ed_pe_s {o v S : Nat → Int32} {a b ty t r : Int32} {i : Nat} (g : ed_tk (o i) ≤ ed_dp o i) (hS : ∀ j, j < ed_dp o i → S j = ed_pe o v a b ty t i j) (hr : r = ed_rs (o i) (v i) a b ty t (ed_pe o v a b ty t i (ed_dp o i - 2)) (ed_pe o v a b ty t i (ed_dp o i - 1))) : ∀ j, j < ed_dp o (i + 1) → upd S (ed_dp o i - ed_tk (o i)) r j = ed_pe o v a b ty t (i + 1) j := by
  intro j hj
  rw [ed_pe]
  by_cases e : j = ed_dp o i - ed_tk (o i)
  · subst e; rw [pk_us, pk_us]; exact hr
  · rw [pk_un e, pk_un e]
    rw [ed_dp] at hj
    exact hS j (by omega)
/-! windows -/
noncomputable def ed_nx (mem : Nat → Prop) (e : Nat) : Nat → Nat
  | 0 => e
  | d + 1 => @ite _ (mem (e - d)) (Classical.propDecidable _) (e - d) (ed_nx mem e d)
theorem ed_nx_t {mem : Nat → Prop} {e d : Nat} (h : mem (e - d)) : ed_nx mem e (d + 1) = e - d := by rw [ed_nx, if_pos h]
theorem ed_nx_f {mem : Nat → Prop} {e d : Nat} (h : ¬ mem (e - d)) : ed_nx mem e (d + 1) = ed_nx mem e d := by rw [ed_nx, if_neg h]
theorem ed_nx_le (mem : Nat → Prop) (e : Nat) : ∀ d, ed_nx mem e d ≤ e
  | 0 => Nat.le_refl _
  | d + 1 => by
    rcases Classical.em (mem (e - d)) with p | p
    · rw [ed_nx_t p]; omega
    · rw [ed_nx_f p]; exact ed_nx_le mem e d
def ed_cd (mem : Nat → Prop) (T : Nat → Int32) (kind : Nat) (N : Int32) (e i : Nat) : Prop :=
  (kind = 1 ∨ kind = 3 → nI (ed_cn mem (i + 1) (e - i)) < N) ∧ (kind = 2 → T e - T i < N) ∧ (kind = 5 → T (ed_nx mem e (e - i)) - T i < N)
def ed_px (mem : Nat → Prop) (T A : Nat → Int32) (kind : Nat) (N : Int32) (gr : Prop) (e i : Nat) : Prop :=
  mem i ∧ (∀ j, i ≤ j → j ≤ e → mem j → ed_cd mem T kind N e j) ∧ (kind = 4 → ∀ j, i < j → j ≤ e → mem j → A j ≠ A i) ∧ (gr → A i = A e)
def ed_vw (mem : Nat → Prop) (T A : Nat → Int32) (kind : Nat) (N : Int32) (e i : Nat) : Prop :=
  mem i ∧ (kind = 0 ∨ (kind = 2 ∧ T e - T i < N) ∨ ((kind = 1 ∨ kind = 3) ∧ nI (ed_cn mem (i + 1) (e - i)) < N) ∨ (kind = 5 ∧ ∀ j, i ≤ j → j ≤ e → mem j → T (ed_nx mem e (e - j)) - T j < N) ∨ (kind = 4 ∧ ∀ j, i < j → j ≤ e → mem j → A j ≠ A i))
theorem ed_cn_mono (P : Nat → Prop) (e : Nat) : ∀ {i j : Nat}, i ≤ j → j ≤ e → ed_cn P (j + 1) (e - j) ≤ ed_cn P (i + 1) (e - i) := by
  intro i j h
  induction h with
  | refl => intro _; exact Nat.le_refl _
  | @step m hm ih =>
    intro hj
    have a := ih (by omega)
    have b := ed_cn_front P (m + 1) (e - m - 1)
    rw [show e - m - 1 + 1 = e - m by omega] at b
    show ed_cn P (m + 1 + 1) (e - (m + 1)) ≤ _
    rw [show e - (m + 1) = e - m - 1 by omega]
    omega
theorem ed_pxy {mem : Nat → Prop} {T A : Nat → Int32} {kind : Nat} {N : Int32} {gr : Prop} {e i : Nat} {t : Nat → Nat} (hk : kind ≤ 5) (hT : ∀ j, j ≤ e → T j = nI (t j)) (hm : ∀ a b, a ≤ b → b ≤ e → t a ≤ t b) (hb : t e < 2 ^ 30) (he : e < 64) (hi : i ≤ e) : ed_px mem T A kind N gr e i ↔ (ed_vw mem T A kind N e i ∧ (gr → A i = A e)) := by
  have q0 : kind = 0 ∨ kind = 1 ∨ kind = 2 ∨ kind = 3 ∨ kind = 4 ∨ kind = 5 := by omega
  have a13 : ∀ j, i ≤ j → j ≤ e → nI (ed_cn mem (i + 1) (e - i)) < N → nI (ed_cn mem (j + 1) (e - j)) < N := by
    intro j h1 h2 h
    have l1 := ed_cn_mono mem e h1 h2
    have l2 := ed_cn_le mem (i + 1) (e - i)
    exact Int32.lt_of_le_of_lt (nI_le l1 (by omega)) h
  have a2 : ∀ j, i ≤ j → j ≤ e → T e - T i < N → T e - T j < N := by
    intro j h1 h2 h
    have l1 := hm i j h1 h2
    have l2 := hm j e h2 (Nat.le_refl _)
    rw [hT e (Nat.le_refl _), hT i hi, pk_sub (by omega)] at h
    rw [hT e (Nat.le_refl _), hT j h2, pk_sub (by omega)]
    exact Int32.lt_of_le_of_lt (nI_le (by omega) (by omega)) h
  unfold ed_px ed_vw ed_cd
  constructor
  · rintro ⟨m, c, l, g⟩
    have ci := c i (Nat.le_refl _) hi m
    refine ⟨⟨m, ?_⟩, g⟩
    rcases q0 with q | q | q | q | q | q
    · exact Or.inl q
    · exact Or.inr (Or.inr (Or.inl ⟨Or.inl q, ci.1 (Or.inl q)⟩))
    · exact Or.inr (Or.inl ⟨q, ci.2.1 q⟩)
    · exact Or.inr (Or.inr (Or.inl ⟨Or.inr q, ci.1 (Or.inr q)⟩))
    · exact Or.inr (Or.inr (Or.inr (Or.inr ⟨q, l q⟩)))
    · exact Or.inr (Or.inr (Or.inr (Or.inl ⟨q, fun j h1 h2 h3 => (c j h1 h2 h3).2.2 q⟩)))
  · rintro ⟨⟨m, c⟩, g⟩
    refine ⟨m, fun j h1 h2 h3 => ⟨fun z => ?_, fun z => ?_, fun z => ?_⟩, fun z => ?_, g⟩
    · rcases c with c | c | c | c | c
      · omega
      · omega
      · exact a13 j h1 h2 c.2
      · omega
      · omega
    · rcases c with c | c | c | c | c
      · omega
      · exact a2 j h1 h2 c.2
      · omega
      · omega
      · omega
    · rcases c with c | c | c | c | c
      · omega
      · omega
      · omega
      · exact c.2 j h1 h2 h3
      · omega
    · rcases c with c | c | c | c | c
      · omega
      · omega
      · omega
      · omega
      · exact c.2
/-! totals over a sorted array -/
noncomputable def ed_df (S : Nat → Int32) : Nat → Nat
  | 0 => 0
  | n + 1 => ed_df S n + ed_b (n = 0 ∨ S n ≠ S (n - 1))
theorem ed_df_cg {S T : Nat → Int32} : ∀ {n : Nat}, (∀ j, j < n → S j = T j) → ed_df S n = ed_df T n
  | 0, _ => rfl
  | n + 1, h => by
    rw [ed_df, ed_df, ed_df_cg (n := n) (fun j hj => h j (by omega)), h n (by omega), h (n - 1) (by omega)]
theorem ed_df_le (S : Nat → Int32) : ∀ n, ed_df S n ≤ n
  | 0 => Nat.le_refl _
  | n + 1 => by have := ed_df_le S n; have := ed_ble (n = 0 ∨ S n ≠ S (n - 1)); rw [ed_df]; omega
theorem ed_sm_cg {S T : Nat → Int32} : ∀ {n : Nat}, (∀ j, j < n → S j = T j) → ed_sm S n = ed_sm T n
  | 0, _ => rfl
  | n + 1, h => by rw [ed_sm, ed_sm, ed_sm_cg (n := n) (fun j hj => h j (by omega)), h n (by omega)]
noncomputable def ed_tt (how : Nat) (S : Nat → Int32) (n : Nat) : Int32 :=
  if how = 0 then nI n else if how = 1 then ed_sm S n else if how = 2 then S 0 else if how = 3 then S (n - 1) else if how = 4 then nI (ed_df S n) else S ((n - 1) / 2)
theorem ed_tt_cg {S T : Nat → Int32} {n how : Nat} (h0 : 0 < n) (h : ∀ j, j < n → S j = T j) : ed_tt how S n = ed_tt how T n := by
  unfold ed_tt
  rw [ed_sm_cg h, ed_df_cg h, h 0 h0, h (n - 1) (by omega), h ((n - 1) / 2) (by omega)]
/-! batches -/
theorem ed_batch {x c n : Nat} (hn : 1 ≤ n) (h1 : 1 ≤ x) (h2 : x ≤ n) (h : x % n = c % n) : x = n ↔ c % n = 0 := by
  constructor
  · intro e; rw [e, Nat.mod_self] at h; exact h.symm
  · intro e
    rw [e] at h
    rcases Nat.lt_or_ge x n with l | l
    · rw [Nat.mod_eq_of_lt l] at h; omega
    · omega
/-! patterns -/
def ed_nb (Ty : Nat → Int32) (st : Int32) (f k : Nat) : Prop := ∀ j, f < j → j < k → Ty j ≠ st
def ed_md (M1 : Nat → Prop) (Ty A : Nat → Int32) (st : Int32) (eq : Prop) (f e m : Nat) : Prop :=
  M1 m ∧ ed_nb Ty st f m ∧ (eq → A f = A m) ∧ ed_nb Ty st m e ∧ (eq → A m = A e)
noncomputable def ed_mt (M : Nat → Nat → Prop) (last : Nat) (Ty A T : Nat → Int32) (st : Int32) (eq : Prop) (N : Int32) (f e : Nat) : Nat :=
  @ite _ (M 0 f ∧ M last e ∧ ¬ N ≤ T e - T f) (Classical.propDecidable _)
    (if last = 1 then ed_b (ed_nb Ty st f e ∧ (eq → A f = A e)) else ed_cn (ed_md (M 1) Ty A st eq f e) (f + 1) (e - f - 1)) 0
theorem ed_mt_le (M : Nat → Nat → Prop) (last : Nat) (Ty A T : Nat → Int32) (st : Int32) (eq : Prop) (N : Int32) (f e : Nat) : ed_mt M last Ty A T st eq N f e ≤ e + 1 := by
  unfold ed_mt
  split
  · split
    · have := ed_ble (ed_nb Ty st f e ∧ (eq → A f = A e)); omega
    · have := ed_cn_le (ed_md (M 1) Ty A st eq f e) (f + 1) (e - f - 1); omega
  · omega
theorem ed_cn_split (P : Nat → Prop) (f a : Nat) : ∀ d, ed_cn P f (a + d) = ed_cn P f a + ed_cn P (f + a) d
  | 0 => rfl
  | d + 1 => by
    have := ed_cn_split P f a d
    rw [← Nat.add_assoc, ed_cn, this, ed_cn, Nat.add_assoc f a d]
    omega
theorem ed_nb_br {Ty : Nat → Int32} {st : Int32} {f0 f k : Nat} (h0 : f0 ≤ f) (hk : f < k) : ed_cn (fun j => Ty j = st) f0 (k - f0) = ed_cn (fun j => Ty j = st) f0 (f + 1 - f0) ↔ ed_nb Ty st f k := by
  have e := ed_cn_split (fun j => Ty j = st) f0 (f + 1 - f0) (k - f - 1)
  rw [show f + 1 - f0 + (k - f - 1) = k - f0 by omega, show f0 + (f + 1 - f0) = f + 1 by omega] at e
  rw [e]
  constructor
  · intro z j h1 h2 h3
    have := ed_cn_ge (P := fun j => Ty j = st) (f := f + 1) (i := j) h3 (by omega) (d := k - f - 1) (by omega)
    omega
  · intro z
    rw [ed_cn_0 (P := fun j => Ty j = st) (f := f + 1) (d := k - f - 1) (fun i h1 h2 => z i (by omega) (by omega))]
    omega
def ed_su (F : Nat → Nat) (f : Nat) : Nat → Nat
  | 0 => 0
  | d + 1 => ed_su F f d + F (f + d)
theorem ed_su_le {F : Nat → Nat} {f b : Nat} : ∀ {d : Nat}, (∀ i, f ≤ i → i < f + d → F i ≤ b) → ed_su F f d ≤ d * b
  | 0, _ => by simp [ed_su]
  | d + 1, h => by
    have a := ed_su_le (d := d) (fun i x y => h i x (by omega))
    have c := h (f + d) (by omega) (by omega)
    rw [ed_su, Nat.succ_mul]; omega
theorem ed_su_cg {F G : Nat → Nat} {f : Nat} : ∀ {d : Nat}, (∀ i, f ≤ i → i < f + d → F i = G i) → ed_su F f d = ed_su G f d
  | 0, _ => rfl
  | d + 1, h => by rw [ed_su, ed_su, ed_su_cg (d := d) (fun i x y => h i x (by omega)), h (f + d) (by omega) (by omega)]
/-- X's rows for a first event that may begin: the number of matches -/
theorem ed_mt_1 {M : Nat → Nat → Prop} {Ty A T : Nat → Int32} {st N : Int32} {eq : Prop} {f e : Nat} (h0 : M 0 f) (h1 : M 1 e) (hT : ¬ N ≤ T e - T f) (ha : eq → A f = A e) : ed_mt M 1 Ty A T st eq N f e = ed_b (ed_nb Ty st f e) := by
  unfold ed_mt
  rw [if_pos ⟨h0, h1, hT⟩, if_pos rfl]
  exact ed_bcg ⟨fun z => z.1, fun z => ⟨z, ha⟩⟩
theorem ed_mt_2 {M : Nat → Nat → Prop} {Ty A T : Nat → Int32} {st N : Int32} {eq : Prop} {f e : Nat} (h0 : M 0 f) (h1 : M 2 e) (hT : ¬ N ≤ T e - T f) : ed_mt M 2 Ty A T st eq N f e = ed_cn (ed_md (M 1) Ty A st eq f e) (f + 1) (e - f - 1) := by
  unfold ed_mt
  rw [if_pos ⟨h0, h1, hT⟩, if_neg (by omega)]
theorem ed_mt_0 {M : Nat → Nat → Prop} {last : Nat} {Ty A T : Nat → Int32} {st N : Int32} {eq : Prop} {f e : Nat} (h : ¬ (M 0 f ∧ M last e ∧ ¬ N ≤ T e - T f)) : ed_mt M last Ty A T st eq N f e = 0 := by
  unfold ed_mt
  rw [if_neg h]
theorem ed_mt_a {M : Nat → Nat → Prop} {last : Nat} {Ty A T : Nat → Int32} {st N : Int32} {eq : Prop} {f e : Nat} (he : eq) (h : A f ≠ A e) : ed_mt M last Ty A T st eq N f e = 0 := by
  unfold ed_mt
  split
  · split
    · exact ed_bf (fun z => h (z.2 he))
    · exact ed_cn_0 (fun i _ _ z => h ((z.2.2.1 he).trans (z.2.2.2.2 he)))
  · rfl
