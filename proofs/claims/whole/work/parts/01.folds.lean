/-! pasted from kit/rows: bits of an Int32; branches by naturals -/
def bt (x : Int32) (i : Nat) : Bool := x.toBitVec.getLsbD i
theorem b_ext {x y : Int32} (h : ∀ i, i < 32 → bt x i = bt y i) : x = y := Int32.toBitVec_inj.mp (BitVec.eq_of_getLsbD_eq (fun i hi => h i hi))
theorem b_or (x y : Int32) (i : Nat) : bt (x ||| y) i = (bt x i || bt y i) := by unfold bt; rw [Int32.toBitVec_or, BitVec.getLsbD_or]
theorem b_and (x y : Int32) (i : Nat) : bt (x &&& y) i = (bt x i && bt y i) := by unfold bt; rw [Int32.toBitVec_and, BitVec.getLsbD_and]
theorem b_xor (x y : Int32) (i : Nat) : bt (x ^^^ y) i = (bt x i ^^ bt y i) := by unfold bt; rw [Int32.toBitVec_xor, BitVec.getLsbD_xor]
theorem b_big {x : Int32} {i : Nat} (h : 32 ≤ i) : bt x i = false := BitVec.getLsbD_of_ge _ _ h
theorem b_255 (i : Nat) : bt 255 i = decide (i < 8) := by
  rcases Nat.lt_or_ge i 32 with h | h
  · exact (by decide +kernel : ∀ i, i < 32 → bt 255 i = decide (i < 8)) i h
  · rw [b_big h, decide_eq_false (by omega)]
theorem b_65535 (i : Nat) : bt 65535 i = decide (i < 16) := by
  rcases Nat.lt_or_ge i 32 with h | h
  · exact (by decide +kernel : ∀ i, i < 32 → bt 65535 i = decide (i < 16)) i h
  · rw [b_big h, decide_eq_false (by omega)]
theorem b_m1 : ∀ i, i < 32 → bt (-1) i = true := by decide +kernel
theorem b_0 (i : Nat) : bt 0 i = false := BitVec.getLsbD_zero
theorem s_l : ∀ n, n < 32 → ((nI n &&& 31).toBitVec.smod 32).toNat = n := by decide +kernel
theorem s_u : ∀ n, n < 32 → (((nI n).toUInt32 &&& Int32.toUInt32 31).toBitVec % 32).toNat = n := by decide +kernel
theorem b_shl (n : Nat) (hn : n < 32) (x : Int32) {i : Nat} (hi : i < 32) : bt (x <<< (nI n &&& 31)) i = (decide (n ≤ i) && bt x (i - n)) := by
  unfold bt
  rw [Int32.toBitVec_shiftLeft]
  show (x.toBitVec <<< ((nI n &&& 31).toBitVec.smod 32).toNat).getLsbD i = _
  rw [s_l n hn, BitVec.getLsbD_shiftLeft]
  rcases Nat.lt_or_ge i n with h | h
  · simp [h, Nat.not_le.mpr h]
  · simp [hi, h, Nat.not_lt.mpr h]
theorem b_ushr (n : Nat) (hn : n < 32) (x : Int32) (i : Nat) : bt ((x.toUInt32 >>> ((nI n).toUInt32 &&& Int32.toUInt32 31)).toInt32) i = bt x (n + i) := by
  show (x.toUInt32 >>> ((nI n).toUInt32 &&& Int32.toUInt32 31)).toBitVec.getLsbD i = x.toUInt32.toBitVec.getLsbD (n + i)
  rw [UInt32.toBitVec_shiftRight]
  show (x.toUInt32.toBitVec >>> (((nI n).toUInt32 &&& Int32.toUInt32 31).toBitVec % 32).toNat).getLsbD i = _
  rw [s_u n hn, BitVec.getLsbD_ushiftRight]
theorem b_sshr (n : Nat) (hn : n < 32) (x : Int32) {i : Nat} (hi : i < 32) : bt (x >>> (nI n &&& 31)) i = if n + i < 32 then bt x (n + i) else bt x 31 := by
  unfold bt
  rw [Int32.toBitVec_shiftRight]
  show (x.toBitVec.sshiftRight ((nI n &&& 31).toBitVec.smod 32).toNat).getLsbD i = _
  rw [s_l n hn, BitVec.getLsbD_sshiftRight, BitVec.msb_eq_getLsbD_last]
  simp [hi]
theorem pk_us {f : Nat → Int32} {k : Nat} {x : Int32} : upd f k x k = x := if_pos rfl
theorem pk_un {f : Nat → Int32} {k j : Nat} {x : Int32} (h : j ≠ k) : upd f k x j = f j := if_neg h
theorem pk_sub {a b : Nat} (h : b ≤ a) : nI a - nI b = nI (a - b) := by
  obtain ⟨c, rfl⟩ : ∃ c, a = c + b := ⟨a - b, by omega⟩
  rw [← nI_add, Int32.add_sub_cancel, Nat.add_sub_cancel]
theorem pk_ix (x : Int32) {n : Nat} (hn : n < 2 ^ 31) : x < 0 ∨ nI n ≤ x ∨ ∃ j : Nat, j < n ∧ x = nI j := by
  by_cases h : x < 0
  · exact Or.inl h
  · obtain ⟨j, hj, rfl⟩ := nI_of h
    by_cases h2 : j < n
    · exact Or.inr (Or.inr ⟨j, h2, rfl⟩)
    · exact Or.inr (Or.inl (nI_le (by omega) hj))
theorem pk_le {x y : Int32} {A B : Prop} (a b : Nat) (f : a ≤ b → A) (g : b < a → B) (hx : x = nI a := by rfl) (hy : y = nI b := by rfl) (ha : a < 2 ^ 31 := by omega) (hb : b < 2 ^ 31 := by omega) : (x ≤ y → A) ∧ (¬ x ≤ y → B) := by
  subst hx hy
  rw [nI_leI ha hb]
  exact ⟨f, fun z => g (by omega)⟩
theorem pk_lt {x y : Int32} {A B : Prop} (a b : Nat) (f : a < b → A) (g : b ≤ a → B) (hx : x = nI a := by rfl) (hy : y = nI b := by rfl) (ha : a < 2 ^ 31 := by omega) (hb : b < 2 ^ 31 := by omega) : (x < y → A) ∧ (¬ x < y → B) := by
  subst hx hy
  rw [nI_ltI ha hb]
  exact ⟨f, fun z => g (by omega)⟩
theorem pk_eq {x y : Int32} {A B : Prop} (a b : Nat) (f : a = b → A) (g : a ≠ b → B) (hx : x = nI a := by rfl) (hy : y = nI b := by rfl) (ha : a < 2 ^ 31 := by omega) (hb : b < 2 ^ 31 := by omega) : (x = y → A) ∧ (¬ x = y → B) := by
  subst hx hy
  rw [nI_eq ha hb]
  exact ⟨f, g⟩
theorem pk_in {x : Int32} (n N : Nat) (h : n < N) (hx : x = nI n := by rfl) (hN : N < 2 ^ 31 := by omega) : vp_in x N := by
  subst hx
  exact vp_in_nI h hN
theorem pk_cl {x : Int32} (n : Nat) (hx : x = nI n := by rfl) (h : n < 2 ^ 31 := by omega) : x.toNatClampNeg = n := by
  subst hx
  exact nI_clamp h
theorem ek_if {c d A B : Prop} (e : c ↔ d) (f : d → A) (g : ¬ d → B) : (c → A) ∧ (¬ c → B) :=
  ⟨fun z => f (e.mp z), fun z => g (fun y => z (e.mpr y))⟩
theorem ek_v {α : Sort _} {P : α → Prop} {a b : α} (e : a = b) (h : P b) : P a := e ▸ h
/-! own: a Bool as an int; a bit as the two sides look at it -/
def cf_b : Bool → Int32
  | true => 1
  | false => 0
theorem cf_br {b : Bool} {A B : Prop} (f : b = false → A) (g : b = true → B) : (cf_b b = 0 → A) ∧ (¬ cf_b b = 0 → B) := by
  cases b
  · exact br_t rfl (f rfl)
  · exact br_f (by decide) (g rfl)
theorem cf_br1 {b : Bool} {A B : Prop} (f : b = true → A) (g : b = false → B) : (cf_b b = 1 → A) ∧ (¬ cf_b b = 1 → B) := by
  cases b
  · exact br_f (by decide) (g rfl)
  · exact br_t rfl (f rfl)
theorem cf_bt1 : ∀ i, i < 32 → bt 1 i = decide (i = 0) := by decide +kernel
theorem cf_and1 (x : Int32) : x &&& 1 = cf_b (bt x 0) := by
  apply b_ext
  intro i hi
  rw [b_and, cf_bt1 i hi]
  by_cases z : i = 0
  · subst z
    cases h : bt x 0
    · exact (b_0 0).symm
    · exact (cf_bt1 0 (by decide)).symm
  · rw [decide_eq_false z, Bool.and_false]
    cases bt x 0
    · exact (b_0 i).symm
    · show false = bt 1 i
      rw [cf_bt1 i hi, decide_eq_false z]
theorem cf_ush {x : Int32} {i : Nat} (hi : i < 32) : ((x.toUInt32 >>> ((nI i).toUInt32 &&& Int32.toUInt32 31)).toInt32) &&& 1 = cf_b (bt x i) := by
  rw [cf_and1, b_ushr i hi, Nat.add_zero]
theorem cf_ssh {x : Int32} {i : Nat} (hi : i < 32) : (x >>> (nI i &&& 31)) &&& 1 = cf_b (bt x i) := by
  rw [cf_and1, b_sshr i hi x (by decide : 0 < 32), Nat.add_zero, if_pos hi]
theorem cf_yif {x : Int32} {i : Nat} (hi : i < 32) {A B : Prop} (f : bt x i = true → A) (g : bt x i = false → B) : ((x >>> (nI i &&& 31)) &&& 1 = 1 → A) ∧ (¬ (x >>> (nI i &&& 31)) &&& 1 = 1 → B) := by
  rw [cf_ssh hi]
  exact cf_br1 f g
theorem cf_one : ∀ n, n < 32 → ∀ i, i < 32 → bt ((1 : Int32) <<< (nI n &&& 31)) i = decide (i = n) := by
  intro n hn i hi
  rw [b_shl n hn 1 hi]
  by_cases z : n ≤ i
  · rw [decide_eq_true z, Bool.true_and, cf_bt1 (i - n) (by omega)]
    by_cases y : i = n
    · rw [decide_eq_true y, decide_eq_true (by omega)]
    · rw [decide_eq_false y, decide_eq_false (by omega)]
  · rw [decide_eq_false z, Bool.false_and, decide_eq_false (by omega)]
/-! own: the folds in which every loop ends -/
def cf_al (f : Nat → Bool) : Nat → Nat → Bool
  | 0, _ => true
  | d + 1, j => f j && cf_al f d (j + 1)
def cf_an (f : Nat → Bool) : Nat → Nat → Bool
  | 0, _ => false
  | d + 1, j => f j || cf_an f d (j + 1)
def cf_ct (f : Nat → Bool) : Nat → Nat → Nat → Nat
  | 0, _, k => k
  | d + 1, j, k => cf_ct f d (j + 1) (if f j then k + 1 else k)
def cf_fo (f : Nat → Int32 → Int32) : Nat → Nat → Int32 → Int32
  | 0, _, a => a
  | d + 1, j, a => cf_fo f d (j + 1) (f j a)
def cf_fi (f : Nat → Bool) : Nat → Nat → Int32
  | 0, _ => -2
  | d + 1, j => if f j then nI j else cf_fi f d (j + 1)
/-- the i-th found; e: what is answered behind the last -/
def cf_li (f : Nat → Bool) (i : Int32) (e : Nat → Int32) : Nat → Nat → Nat → Int32
  | 0, _, k => e k
  | d + 1, j, k => if f j then (if nI k = i then nI j else cf_li f i e d (j + 1) (k + 1)) else cf_li f i e d (j + 1) k
theorem cf_al_i (f : Nat → Bool) : ∀ d j, cf_al f d j = true ↔ ∀ i, j ≤ i → i < j + d → f i = true := by
  intro d
  induction d with
  | zero => intro j; exact ⟨fun _ i h1 h2 => absurd h1 (by omega), fun _ => rfl⟩
  | succ d ih =>
    intro j
    show (f j && cf_al f d (j + 1)) = true ↔ _
    rw [Bool.and_eq_true, ih (j + 1)]
    constructor
    · intro h i h1 h2
      by_cases z : i = j
      · rw [z]; exact h.1
      · exact h.2 i (by omega) (by omega)
    · intro h
      exact ⟨h j (by omega) (by omega), fun i h1 h2 => h i (by omega) (by omega)⟩
theorem cf_an_i (f : Nat → Bool) : ∀ d j, cf_an f d j = true ↔ ∃ i, j ≤ i ∧ i < j + d ∧ f i = true := by
  intro d
  induction d with
  | zero => intro j; exact ⟨fun h => Bool.noConfusion h, fun ⟨i, h1, h2, _⟩ => absurd h1 (by omega)⟩
  | succ d ih =>
    intro j
    show (f j || cf_an f d (j + 1)) = true ↔ _
    rw [Bool.or_eq_true, ih (j + 1)]
    constructor
    · intro h
      rcases h with h | ⟨i, h1, h2, h3⟩
      · exact ⟨j, by omega, by omega, h⟩
      · exact ⟨i, by omega, by omega, h3⟩
    · intro ⟨i, h1, h2, h3⟩
      by_cases z : i = j
      · rw [z] at h3; exact Or.inl h3
      · exact Or.inr ⟨i, by omega, by omega, h3⟩
theorem cf_al_c {f g : Nat → Bool} : ∀ d j, (∀ i, j ≤ i → i < j + d → f i = g i) → cf_al f d j = cf_al g d j := by
  intro d
  induction d with
  | zero => intro j _; rfl
  | succ d ih =>
    intro j h
    show (f j && cf_al f d (j + 1)) = (g j && cf_al g d (j + 1))
    rw [h j (by omega) (by omega), ih (j + 1) (fun i h1 h2 => h i (by omega) (by omega))]
theorem cf_ct_c {f g : Nat → Bool} : ∀ d j k, (∀ i, j ≤ i → i < j + d → f i = g i) → cf_ct f d j k = cf_ct g d j k := by
  intro d
  induction d with
  | zero => intro j k _; rfl
  | succ d ih =>
    intro j k h
    show cf_ct f d (j + 1) (if f j then k + 1 else k) = cf_ct g d (j + 1) (if g j then k + 1 else k)
    rw [h j (by omega) (by omega), ih (j + 1) _ (fun i h1 h2 => h i (by omega) (by omega))]
theorem cf_ct_0 {f : Nat → Bool} : ∀ d j k, (∀ i, j ≤ i → i < j + d → f i = false) → cf_ct f d j k = k := by
  intro d
  induction d with
  | zero => intro j k _; rfl
  | succ d ih =>
    intro j k h
    show cf_ct f d (j + 1) (if f j then k + 1 else k) = k
    rw [h j (by omega) (by omega), if_neg (by decide), ih (j + 1) _ (fun i h1 h2 => h i (by omega) (by omega))]
theorem cf_ct_s {f : Nat → Bool} (b : Nat) : ∀ a j k, cf_ct f (a + b) j k = cf_ct f b (j + a) (cf_ct f a j k) := by
  intro a
  induction a with
  | zero => intro j k; rw [Nat.zero_add]; rfl
  | succ a ih =>
    intro j k
    rw [Nat.succ_add]
    show cf_ct f (a + b) (j + 1) (if f j then k + 1 else k) = cf_ct f b (j + (a + 1)) (cf_ct f a (j + 1) (if f j then k + 1 else k))
    rw [ih, show j + 1 + a = j + (a + 1) by omega]
theorem cf_fo_c {f g : Nat → Int32 → Int32} : ∀ d j a, (∀ i b, j ≤ i → i < j + d → f i b = g i b) → cf_fo f d j a = cf_fo g d j a := by
  intro d
  induction d with
  | zero => intro j a _; rfl
  | succ d ih =>
    intro j a h
    show cf_fo f d (j + 1) (f j a) = cf_fo g d (j + 1) (g j a)
    rw [h j a (by omega) (by omega), ih (j + 1) _ (fun i b h1 h2 => h i b (by omega) (by omega))]
theorem cf_fi_c {f g : Nat → Bool} : ∀ d j, (∀ i, j ≤ i → i < j + d → f i = g i) → cf_fi f d j = cf_fi g d j := by
  intro d
  induction d with
  | zero => intro j _; rfl
  | succ d ih =>
    intro j h
    show (if f j then nI j else cf_fi f d (j + 1)) = (if g j then nI j else cf_fi g d (j + 1))
    rw [h j (by omega) (by omega), ih (j + 1) (fun i h1 h2 => h i (by omega) (by omega))]
/-- what is found is not below 0 exactly where there is something to find -/
theorem cf_fi_n {f : Nat → Bool} : ∀ d j, j + d ≤ 32 → (cf_fi f d j < 0 ↔ ∀ i, j ≤ i → i < j + d → f i = false) := by
  intro d
  induction d with
  | zero => intro j _; exact ⟨fun _ i h1 h2 => absurd h1 (by omega), fun _ => (by decide : (-2 : Int32) < 0)⟩
  | succ d ih =>
    intro j hj
    show (if f j then nI j else cf_fi f d (j + 1)) < 0 ↔ _
    cases e : f j
    · rw [if_neg (by decide), ih (j + 1) (by omega)]
      constructor
      · intro h i h1 h2
        by_cases z : i = j
        · rw [z]; exact e
        · exact h i (by omega) (by omega)
      · intro h i h1 h2
        exact h i (by omega) (by omega)
    · rw [if_pos rfl]
      constructor
      · intro h; exact absurd h (nI_pos (by omega))
      · intro h; exact absurd (h j (by omega) (by omega)) (by rw [e]; decide)
theorem cf_li_c {f : Nat → Bool} {i : Int32} {e e' : Nat → Int32} (h : ∀ k, e k = e' k) (d j k : Nat) : cf_li f i e d j k = cf_li f i e' d j k := by
  rw [show e = e' from funext h]
/-- nobody is the i-th where i is below 0: all are counted -/
theorem cf_li_n {f : Nat → Bool} {i : Int32} (hi : i < 0) {e : Nat → Int32} : ∀ d j k, k + d < 2 ^ 31 → cf_li f i e d j k = e (cf_ct f d j k) := by
  intro d
  induction d with
  | zero => intro j k _; rfl
  | succ d ih =>
    intro j k h
    show (if f j then (if nI k = i then nI j else cf_li f i e d (j + 1) (k + 1)) else cf_li f i e d (j + 1) k) = e (cf_ct f d (j + 1) (if f j then k + 1 else k))
    have hk : ¬ nI k = i := fun z => nI_pos (n := k) (by omega) (z ▸ hi)
    cases f j
    · rw [if_neg (by decide), if_neg (by decide), ih (j + 1) k (by omega)]
    · rw [if_pos rfl, if_pos rfl, if_neg hk, ih (j + 1) (k + 1) (by omega)]
