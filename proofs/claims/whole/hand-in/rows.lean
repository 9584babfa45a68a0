section
/-! pasted from kit/rows: bits of an Int32; branches by naturals -/
def bt (x : Int32) (i : Nat) : Bool := x.toBitVec.getLsbD i
theorem b_ext {x y : Int32} (h : ∀ i, i < 32 → bt x i = bt y i) : x = y := Int32.toBitVec_inj.mp (BitVec.eq_of_getLsbD_eq (fun i hi => h i hi))
theorem b_or (x y : Int32) (i : Nat) : bt (x ||| y) i = (bt x i || bt y i) := by unfold bt; rw [Int32.toBitVec_or, BitVec.getLsbD_or]
theorem b_and (x y : Int32) (i : Nat) : bt (x &&& y) i = (bt x i && bt y i) := by unfold bt; rw [Int32.toBitVec_and, BitVec.getLsbD_and]
theorem b_xor (x y : Int32) (i : Nat) : bt (x ^^^ y) i = (bt x i ^^ bt y i) := by unfold bt; rw [Int32.toBitVec_xor, BitVec.getLsbD_xor]
theorem b_big {x : Int32} {i : Nat} (h : 32 ≤ i) : bt x i = false := BitVec.getLsbD_of_ge _ _ h
theorem b_255 (i : Nat) : bt 255 i = decide (i < 8) := by
  rcases Nat.lt_or_ge i 32 with h | h
  · exact (by decide +kernel : ∀ i, i < 32 → bt 255 i = decide (i < 8)) i h
  · rw [b_big h, decide_eq_false (by omega)]
theorem b_65535 (i : Nat) : bt 65535 i = decide (i < 16) := by
  rcases Nat.lt_or_ge i 32 with h | h
  · exact (by decide +kernel : ∀ i, i < 32 → bt 65535 i = decide (i < 16)) i h
  · rw [b_big h, decide_eq_false (by omega)]
theorem b_m1 : ∀ i, i < 32 → bt (-1) i = true := by decide +kernel
theorem b_0 (i : Nat) : bt 0 i = false := BitVec.getLsbD_zero
theorem s_l : ∀ n, n < 32 → ((nI n &&& 31).toBitVec.smod 32).toNat = n := by decide +kernel
theorem s_u : ∀ n, n < 32 → (((nI n).toUInt32 &&& Int32.toUInt32 31).toBitVec % 32).toNat = n := by decide +kernel
theorem b_shl (n : Nat) (hn : n < 32) (x : Int32) {i : Nat} (hi : i < 32) : bt (x <<< (nI n &&& 31)) i = (decide (n ≤ i) && bt x (i - n)) := by
  unfold bt
  rw [Int32.toBitVec_shiftLeft]
  show (x.toBitVec <<< ((nI n &&& 31).toBitVec.smod 32).toNat).getLsbD i = _
  rw [s_l n hn, BitVec.getLsbD_shiftLeft]
  rcases Nat.lt_or_ge i n with h | h
  · simp [h, Nat.not_le.mpr h]
  · simp [hi, h, Nat.not_lt.mpr h]
theorem b_ushr (n : Nat) (hn : n < 32) (x : Int32) (i : Nat) : bt ((x.toUInt32 >>> ((nI n).toUInt32 &&& Int32.toUInt32 31)).toInt32) i = bt x (n + i) := by
  show (x.toUInt32 >>> ((nI n).toUInt32 &&& Int32.toUInt32 31)).toBitVec.getLsbD i = x.toUInt32.toBitVec.getLsbD (n + i)
  rw [UInt32.toBitVec_shiftRight]
  show (x.toUInt32.toBitVec >>> (((nI n).toUInt32 &&& Int32.toUInt32 31).toBitVec % 32).toNat).getLsbD i = _
  rw [s_u n hn, BitVec.getLsbD_ushiftRight]
theorem b_sshr (n : Nat) (hn : n < 32) (x : Int32) {i : Nat} (hi : i < 32) : bt (x >>> (nI n &&& 31)) i = if n + i < 32 then bt x (n + i) else bt x 31 := by
  unfold bt
  rw [Int32.toBitVec_shiftRight]
  show (x.toBitVec.sshiftRight ((nI n &&& 31).toBitVec.smod 32).toNat).getLsbD i = _
  rw [s_l n hn, BitVec.getLsbD_sshiftRight, BitVec.msb_eq_getLsbD_last]
  simp [hi]
theorem pk_us {f : Nat → Int32} {k : Nat} {x : Int32} : upd f k x k = x := if_pos rfl
theorem pk_un {f : Nat → Int32} {k j : Nat} {x : Int32} (h : j ≠ k) : upd f k x j = f j := if_neg h
theorem pk_sub {a b : Nat} (h : b ≤ a) : nI a - nI b = nI (a - b) := by
  obtain ⟨c, rfl⟩ : ∃ c, a = c + b := ⟨a - b, by omega⟩
  rw [← nI_add, Int32.add_sub_cancel, Nat.add_sub_cancel]
theorem pk_ix (x : Int32) {n : Nat} (hn : n < 2 ^ 31) : x < 0 ∨ nI n ≤ x ∨ ∃ j : Nat, j < n ∧ x = nI j := by
  by_cases h : x < 0
  · exact Or.inl h
  · obtain ⟨j, hj, rfl⟩ := nI_of h
    by_cases h2 : j < n
    · exact Or.inr (Or.inr ⟨j, h2, rfl⟩)
    · exact Or.inr (Or.inl (nI_le (by omega) hj))
theorem pk_le {x y : Int32} {A B : Prop} (a b : Nat) (f : a ≤ b → A) (g : b < a → B) (hx : x = nI a := by rfl) (hy : y = nI b := by rfl) (ha : a < 2 ^ 31 := by omega) (hb : b < 2 ^ 31 := by omega) : (x ≤ y → A) ∧ (¬ x ≤ y → B) := by
  subst hx hy
  rw [nI_leI ha hb]
  exact ⟨f, fun z => g (by omega)⟩
theorem pk_lt {x y : Int32} {A B : Prop} (a b : Nat) (f : a < b → A) (g : b ≤ a → B) (hx : x = nI a := by rfl) (hy : y = nI b := by rfl) (ha : a < 2 ^ 31 := by omega) (hb : b < 2 ^ 31 := by omega) : (x < y → A) ∧ (¬ x < y → B) := by
  subst hx hy
  rw [nI_ltI ha hb]
  exact ⟨f, fun z => g (by omega)⟩
theorem pk_eq {x y : Int32} {A B : Prop} (a b : Nat) (f : a = b → A) (g : a ≠ b → B) (hx : x = nI a := by rfl) (hy : y = nI b := by rfl) (ha : a < 2 ^ 31 := by omega) (hb : b < 2 ^ 31 := by omega) : (x = y → A) ∧ (¬ x = y → B) := by
  subst hx hy
  rw [nI_eq ha hb]
  exact ⟨f, g⟩
theorem pk_in {x : Int32} (n N : Nat) (h : n < N) (hx : x = nI n := by rfl) (hN : N < 2 ^ 31 := by omega) : vp_in x N := by
  subst hx
  exact vp_in_nI h hN
theorem pk_cl {x : Int32} (n : Nat) (hx : x = nI n := by rfl) (h : n < 2 ^ 31 := by omega) : x.toNatClampNeg = n := by
  subst hx
  exact nI_clamp h
theorem ek_if {c d A B : Prop} (e : c ↔ d) (f : d → A) (g : ¬ d → B) : (c → A) ∧ (¬ c → B) :=
  ⟨fun z => f (e.mp z), fun z => g (fun y => z (e.mpr y))⟩
theorem ek_v {α : Sort _} {P : α → Prop} {a b : α} (e : a = b) (h : P b) : P a := e ▸ h
/-! own: a Bool as an int; a bit as the two sides look at it -/
def cf_b : Bool → Int32
  | true => 1
  | false => 0
theorem cf_br {b : Bool} {A B : Prop} (f : b = false → A) (g : b = true → B) : (cf_b b = 0 → A) ∧ (¬ cf_b b = 0 → B) := by
  cases b
  · exact br_t rfl (f rfl)
  · exact br_f (by decide) (g rfl)
theorem cf_br1 {b : Bool} {A B : Prop} (f : b = true → A) (g : b = false → B) : (cf_b b = 1 → A) ∧ (¬ cf_b b = 1 → B) := by
  cases b
  · exact br_f (by decide) (g rfl)
  · exact br_t rfl (f rfl)
theorem cf_bt1 : ∀ i, i < 32 → bt 1 i = decide (i = 0) := by decide +kernel
theorem cf_and1 (x : Int32) : x &&& 1 = cf_b (bt x 0) := by
  apply b_ext
  intro i hi
  rw [b_and, cf_bt1 i hi]
  by_cases z : i = 0
  · subst z
    cases h : bt x 0
    · exact (b_0 0).symm
    · exact (cf_bt1 0 (by decide)).symm
  · rw [decide_eq_false z, Bool.and_false]
    cases bt x 0
    · exact (b_0 i).symm
    · show false = bt 1 i
      rw [cf_bt1 i hi, decide_eq_false z]
theorem cf_ush {x : Int32} {i : Nat} (hi : i < 32) : ((x.toUInt32 >>> ((nI i).toUInt32 &&& Int32.toUInt32 31)).toInt32) &&& 1 = cf_b (bt x i) := by
  rw [cf_and1, b_ushr i hi, Nat.add_zero]
theorem cf_ssh {x : Int32} {i : Nat} (hi : i < 32) : (x >>> (nI i &&& 31)) &&& 1 = cf_b (bt x i) := by
  rw [cf_and1, b_sshr i hi x (by decide : 0 < 32), Nat.add_zero, if_pos hi]
theorem cf_yif {x : Int32} {i : Nat} (hi : i < 32) {A B : Prop} (f : bt x i = true → A) (g : bt x i = false → B) : ((x >>> (nI i &&& 31)) &&& 1 = 1 → A) ∧ (¬ (x >>> (nI i &&& 31)) &&& 1 = 1 → B) := by
  rw [cf_ssh hi]
  exact cf_br1 f g
theorem cf_one : ∀ n, n < 32 → ∀ i, i < 32 → bt ((1 : Int32) <<< (nI n &&& 31)) i = decide (i = n) := by
  intro n hn i hi
  rw [b_shl n hn 1 hi]
  by_cases z : n ≤ i
  · rw [decide_eq_true z, Bool.true_and, cf_bt1 (i - n) (by omega)]
    by_cases y : i = n
    · rw [decide_eq_true y, decide_eq_true (by omega)]
    · rw [decide_eq_false y, decide_eq_false (by omega)]
  · rw [decide_eq_false z, Bool.false_and, decide_eq_false (by omega)]
/-! own: the folds in which every loop ends -/
def cf_al (f : Nat → Bool) : Nat → Nat → Bool
  | 0, _ => true
  | d + 1, j => f j && cf_al f d (j + 1)
def cf_an (f : Nat → Bool) : Nat → Nat → Bool
  | 0, _ => false
  | d + 1, j => f j || cf_an f d (j + 1)
def cf_ct (f : Nat → Bool) : Nat → Nat → Nat → Nat
  | 0, _, k => k
  | d + 1, j, k => cf_ct f d (j + 1) (if f j then k + 1 else k)
def cf_fo (f : Nat → Int32 → Int32) : Nat → Nat → Int32 → Int32
  | 0, _, a => a
  | d + 1, j, a => cf_fo f d (j + 1) (f j a)
def cf_fi (f : Nat → Bool) : Nat → Nat → Int32
  | 0, _ => -2
  | d + 1, j => if f j then nI j else cf_fi f d (j + 1)
/-- the i-th found; e: what is answered behind the last -/
def cf_li (f : Nat → Bool) (i : Int32) (e : Nat → Int32) : Nat → Nat → Nat → Int32
  | 0, _, k => e k
  | d + 1, j, k => if f j then (if nI k = i then nI j else cf_li f i e d (j + 1) (k + 1)) else cf_li f i e d (j + 1) k
theorem cf_al_i (f : Nat → Bool) : ∀ d j, cf_al f d j = true ↔ ∀ i, j ≤ i → i < j + d → f i = true := by
  intro d
  induction d with
  | zero => intro j; exact ⟨fun _ i h1 h2 => absurd h1 (by omega), fun _ => rfl⟩
  | succ d ih =>
    intro j
    show (f j && cf_al f d (j + 1)) = true ↔ _
    rw [Bool.and_eq_true, ih (j + 1)]
    constructor
    · intro h i h1 h2
      by_cases z : i = j
      · rw [z]; exact h.1
      · exact h.2 i (by omega) (by omega)
    · intro h
      exact ⟨h j (by omega) (by omega), fun i h1 h2 => h i (by omega) (by omega)⟩
theorem cf_an_i (f : Nat → Bool) : ∀ d j, cf_an f d j = true ↔ ∃ i, j ≤ i ∧ i < j + d ∧ f i = true := by
  intro d
  induction d with
  | zero => intro j; exact ⟨fun h => Bool.noConfusion h, fun ⟨i, h1, h2, _⟩ => absurd h1 (by omega)⟩
  | succ d ih =>
    intro j
    show (f j || cf_an f d (j + 1)) = true ↔ _
    rw [Bool.or_eq_true, ih (j + 1)]
    constructor
    · intro h
      rcases h with h | ⟨i, h1, h2, h3⟩
      · exact ⟨j, by omega, by omega, h⟩
      · exact ⟨i, by omega, by omega, h3⟩
    · intro ⟨i, h1, h2, h3⟩
      by_cases z : i = j
      · rw [z] at h3; exact Or.inl h3
      · exact Or.inr ⟨i, by omega, by omega, h3⟩
theorem cf_al_c {f g : Nat → Bool} : ∀ d j, (∀ i, j ≤ i → i < j + d → f i = g i) → cf_al f d j = cf_al g d j := by
  intro d
  induction d with
  | zero => intro j _; rfl
  | succ d ih =>
    intro j h
    show (f j && cf_al f d (j + 1)) = (g j && cf_al g d (j + 1))
    rw [h j (by omega) (by omega), ih (j + 1) (fun i h1 h2 => h i (by omega) (by omega))]
theorem cf_ct_c {f g : Nat → Bool} : ∀ d j k, (∀ i, j ≤ i → i < j + d → f i = g i) → cf_ct f d j k = cf_ct g d j k := by
  intro d
  induction d with
  | zero => intro j k _; rfl
  | succ d ih =>
    intro j k h
    show cf_ct f d (j + 1) (if f j then k + 1 else k) = cf_ct g d (j + 1) (if g j then k + 1 else k)
    rw [h j (by omega) (by omega), ih (j + 1) _ (fun i h1 h2 => h i (by omega) (by omega))]
theorem cf_ct_0 {f : Nat → Bool} : ∀ d j k, (∀ i, j ≤ i → i < j + d → f i = false) → cf_ct f d j k = k := by
  intro d
  induction d with
  | zero => intro j k _; rfl
  | succ d ih =>
    intro j k h
    show cf_ct f d (j + 1) (if f j then k + 1 else k) = k
    rw [h j (by omega) (by omega), if_neg (by decide), ih (j + 1) _ (fun i h1 h2 => h i (by omega) (by omega))]
theorem cf_ct_s {f : Nat → Bool} (b : Nat) : ∀ a j k, cf_ct f (a + b) j k = cf_ct f b (j + a) (cf_ct f a j k) := by
  intro a
  induction a with
  | zero => intro j k; rw [Nat.zero_add]; rfl
  | succ a ih =>
    intro j k
    rw [Nat.succ_add]
    show cf_ct f (a + b) (j + 1) (if f j then k + 1 else k) = cf_ct f b (j + (a + 1)) (cf_ct f a (j + 1) (if f j then k + 1 else k))
    rw [ih, show j + 1 + a = j + (a + 1) by omega]
theorem cf_fo_c {f g : Nat → Int32 → Int32} : ∀ d j a, (∀ i b, j ≤ i → i < j + d → f i b = g i b) → cf_fo f d j a = cf_fo g d j a := by
  intro d
  induction d with
  | zero => intro j a _; rfl
  | succ d ih =>
    intro j a h
    show cf_fo f d (j + 1) (f j a) = cf_fo g d (j + 1) (g j a)
    rw [h j a (by omega) (by omega), ih (j + 1) _ (fun i b h1 h2 => h i b (by omega) (by omega))]
theorem cf_fi_c {f g : Nat → Bool} : ∀ d j, (∀ i, j ≤ i → i < j + d → f i = g i) → cf_fi f d j = cf_fi g d j := by
  intro d
  induction d with
  | zero => intro j _; rfl
  | succ d ih =>
    intro j h
    show (if f j then nI j else cf_fi f d (j + 1)) = (if g j then nI j else cf_fi g d (j + 1))
    rw [h j (by omega) (by omega), ih (j + 1) (fun i h1 h2 => h i (by omega) (by omega))]
/-- what is found is not below 0 exactly where there is something to find -/
theorem cf_fi_n {f : Nat → Bool} : ∀ d j, j + d ≤ 32 → (cf_fi f d j < 0 ↔ ∀ i, j ≤ i → i < j + d → f i = false) := by
  intro d
  induction d with
  | zero => intro j _; exact ⟨fun _ i h1 h2 => absurd h1 (by omega), fun _ => (by decide : (-2 : Int32) < 0)⟩
  | succ d ih =>
    intro j hj
    show (if f j then nI j else cf_fi f d (j + 1)) < 0 ↔ _
    cases e : f j
    · rw [if_neg (by decide), ih (j + 1) (by omega)]
      constructor
      · intro h i h1 h2
        by_cases z : i = j
        · rw [z]; exact e
        · exact h i (by omega) (by omega)
      · intro h i h1 h2
        exact h i (by omega) (by omega)
    · rw [if_pos rfl]
      constructor
      · intro h; exact absurd h (nI_pos (by omega))
      · intro h; exact absurd (h j (by omega) (by omega)) (by rw [e]; decide)
theorem cf_li_c {f : Nat → Bool} {i : Int32} {e e' : Nat → Int32} (h : ∀ k, e k = e' k) (d j k : Nat) : cf_li f i e d j k = cf_li f i e' d j k := by
  rw [show e = e' from funext h]
/-- nobody is the i-th where i is below 0: all are counted -/
theorem cf_li_n {f : Nat → Bool} {i : Int32} (hi : i < 0) {e : Nat → Int32} : ∀ d j k, k + d < 2 ^ 31 → cf_li f i e d j k = e (cf_ct f d j k) := by
  intro d
  induction d with
  | zero => intro j k _; rfl
  | succ d ih =>
    intro j k h
    show (if f j then (if nI k = i then nI j else cf_li f i e d (j + 1) (k + 1)) else cf_li f i e d (j + 1) k) = e (cf_ct f d (j + 1) (if f j then k + 1 else k))
    have hk : ¬ nI k = i := fun z => nI_pos (n := k) (by omega) (z ▸ hi)
    cases f j
    · rw [if_neg (by decide), if_neg (by decide), ih (j + 1) k (by omega)]
    · rw [if_pos rfl, if_pos rfl, if_neg hk, ih (j + 1) (k + 1) (by omega)]
end
section
/-! own: tables of conditions by their bits -/
theorem cf_ors (g : Nat → Bool) : ∀ d j a i, j + d ≤ 32 → i < 32 → bt (cf_fo (fun n a => if g n then a ||| ((1 : Int32) <<< (nI n &&& 31)) else a) d j a) i = (bt a i || (decide (j ≤ i ∧ i < j + d) && g i)) := by
  intro d
  induction d with
  | zero =>
    intro j a i _ _
    rw [decide_eq_false (by omega), Bool.false_and, Bool.or_false]
    rfl
  | succ d ih =>
    intro j a i hj hi
    show bt (cf_fo (fun n a => if g n then a ||| ((1 : Int32) <<< (nI n &&& 31)) else a) d (j + 1) (if g j then a ||| ((1 : Int32) <<< (nI j &&& 31)) else a)) i = _
    rw [ih (j + 1) _ i (by omega) hi]
    have e : bt (if g j then a ||| ((1 : Int32) <<< (nI j &&& 31)) else a) i = (bt a i || (decide (i = j) && g i)) := by
      by_cases z : i = j
      · subst z
        cases h : g i
        · rw [if_neg (by decide), Bool.and_false, Bool.or_false]
        · rw [if_pos rfl, b_or, cf_one i (by omega) i hi, Bool.and_true]
      · cases h : g j
        · rw [if_neg (by decide), decide_eq_false z, Bool.false_and, Bool.or_false]
        · rw [if_pos rfl, b_or, cf_one j (by omega) i hi, decide_eq_false z, Bool.false_and]
    have e2 : (decide (i = j) || decide (j + 1 ≤ i ∧ i < j + 1 + d)) = decide (j ≤ i ∧ i < j + (d + 1)) := by
      by_cases z : i = j
      · rw [decide_eq_true z, Bool.true_or, decide_eq_true (by omega)]
      · rw [decide_eq_false z, Bool.false_or]
        exact decide_eq_decide.mpr (by omega)
    rw [e, Bool.or_assoc, ← e2]
    cases g i
    · rw [Bool.and_false, Bool.and_false, Bool.and_false]; rfl
    · rw [Bool.and_true, Bool.and_true, Bool.and_true]
theorem cf_ands (s : Int32) (T : Nat → Int32) (n : Nat) : ∀ d j a, bt (cf_fo (fun i a => if bt s i then a &&& T i else a) d j a) n = (bt a n && cf_al (fun i => !bt s i || bt (T i) n) d j) := by
  intro d
  induction d with
  | zero => intro j a; exact (Bool.and_true _).symm
  | succ d ih =>
    intro j a
    show bt (cf_fo (fun i a => if bt s i then a &&& T i else a) d (j + 1) (if bt s j then a &&& T j else a)) n = (bt a n && ((!bt s j || bt (T j) n) && cf_al (fun i => !bt s i || bt (T i) n) d (j + 1)))
    rw [ih]
    cases bt s j
    · rw [if_neg (by decide)]; rfl
    · rw [if_pos rfl, b_and, Bool.and_assoc]; rfl
def cf_ts (T : Nat → Int32) (c : Nat) (s : Int32) : Int32 := cf_fo (fun i a => if bt s i then a &&& T i else a) c 0 (-1)
theorem cf_ts_b {T : Nat → Int32} {c : Nat} {s : Int32} {n : Nat} (hn : n < 32) : bt (cf_ts T c s) n = cf_al (fun i => !bt s i || bt (T i) n) c 0 := by
  unfold cf_ts
  rw [cf_ands, b_m1 n hn, Bool.true_and]
theorem cf_z (x : Int32) : x = 0 ↔ ∀ i, i < 32 → bt x i = false :=
  ⟨fun h i _ => h ▸ b_0 i, fun h => b_ext (fun i hi => by rw [h i hi, b_0])⟩
theorem cf_nz {x : Int32} (h : ¬ x = 0) : ∃ i, i < 32 ∧ bt x i = true := by
  apply Classical.byContradiction
  intro hn
  apply h
  rw [cf_z]
  intro i hi
  cases e : bt x i
  · rfl
  · exact absurd ⟨i, hi, e⟩ hn
/-- the literals that are true under the values x -/
def cf_tl (x : Int32) : Int32 := cf_fo (fun i a => if (bt x (i / 2) != decide (i % 2 = 1)) then a ||| ((1 : Int32) <<< (nI i &&& 31)) else a) 10 0 0
/-- does a condition of the literals l hold under the values x -/
def cf_ho (l x : Int32) : Bool := cf_an (fun v => bt l (if bt x v then 2 * v else 2 * v + 1)) 5 0
theorem cf_tl_b {x : Int32} {i : Nat} (hi : i < 32) : bt (cf_tl x) i = (decide (i < 10) && (bt x (i / 2) != decide (i % 2 = 1))) := by
  unfold cf_tl
  rw [cf_ors (fun i => (bt x (i / 2) != decide (i % 2 = 1))) 10 0 0 i (by omega) hi, b_0, Bool.false_or]
  congr 1
  exact decide_eq_decide.mpr (by omega)
theorem cf_tl_ho (l x : Int32) : ¬ (l &&& cf_tl x) = 0 ↔ cf_ho l x = true := by
  unfold cf_ho
  rw [cf_an_i]
  constructor
  · intro h
    obtain ⟨i, hi, e⟩ := cf_nz h
    rw [b_and, cf_tl_b hi, Bool.and_eq_true, Bool.and_eq_true, decide_eq_true_eq] at e
    obtain ⟨e1, e2, e3⟩ := e
    refine ⟨i / 2, by omega, by omega, ?_⟩
    by_cases o : i % 2 = 1
    · rw [decide_eq_true o] at e3
      cases e4 : bt x (i / 2)
      · show bt l (if false = true then _ else 2 * (i / 2) + 1) = true
        rw [if_neg (by decide), show 2 * (i / 2) + 1 = i by omega]; exact e1
      · rw [e4] at e3; exact absurd e3 (by decide)
    · rw [decide_eq_false o] at e3
      cases e4 : bt x (i / 2)
      · rw [e4] at e3; exact absurd e3 (by decide)
      · show bt l (if true = true then 2 * (i / 2) else _) = true
        rw [if_pos rfl, show 2 * (i / 2) = i by omega]; exact e1
  · intro ⟨v, _, hv, h⟩ z
    rw [cf_z] at z
    cases e : bt x v
    · rw [e, if_neg (by decide)] at h
      have := z (2 * v + 1) (by omega)
      rw [b_and, h, cf_tl_b (by omega), decide_eq_true (by omega : 2 * v + 1 < 10), show (2 * v + 1) / 2 = v by omega, e, decide_eq_true (by omega : (2 * v + 1) % 2 = 1)] at this
      exact absurd this (by decide)
    · rw [e, if_pos rfl] at h
      have := z (2 * v) (by omega)
      rw [b_and, h, cf_tl_b (by omega), decide_eq_true (by omega : 2 * v < 10), show (2 * v) / 2 = v by omega, e, decide_eq_false (by omega : ¬ (2 * v) % 2 = 1)] at this
      exact absurd this (by decide)
def cf_to (l : Int32) : Int32 := cf_fo (fun n a => if cf_ho l (nI n) then a ||| ((1 : Int32) <<< (nI n &&& 31)) else a) 32 0 0
theorem cf_to_b {l : Int32} {n : Nat} (hn : n < 32) : bt (cf_to l) n = cf_ho l (nI n) := by
  unfold cf_to
  rw [cf_ors (fun n => cf_ho l (nI n)) 32 0 0 n (by omega) hn, b_0, Bool.false_or, decide_eq_true (by omega), Bool.true_and]
def cf_sm (c : Nat) (s : Int32) : Prop := ∀ i, c ≤ i → bt s i = false
theorem cf_31 : ∀ v, v < 5 → bt (nI 31) v = true ∧ bt (nI 0) v = false := by decide +kernel
theorem cf_to_0 {l : Int32} (h0 : ¬ l = 0) (hs : cf_sm 10 l) : ¬ cf_to l = 0 := by
  intro z
  rw [cf_z] at z
  obtain ⟨i, hi, e⟩ := cf_nz h0
  have hi : i < 10 := by
    apply Classical.byContradiction
    intro h
    rw [hs i (by omega)] at e
    exact absurd e (by decide)
  have hv := cf_31 (i / 2) (by omega)
  by_cases o : i % 2 = 1
  · have h := z 0 (by decide)
    rw [cf_to_b (by decide)] at h
    have h2 : cf_ho l (nI 0) = true := (cf_an_i _ 5 0).mpr ⟨i / 2, by omega, by omega, by
      rw [hv.2, if_neg (by decide), show 2 * (i / 2) + 1 = i by omega]; exact e⟩
    rw [h2] at h
    exact absurd h (by decide)
  · have h := z 31 (by decide)
    rw [cf_to_b (by decide)] at h
    have h2 : cf_ho l (nI 31) = true := (cf_an_i _ 5 0).mpr ⟨i / 2, by omega, by omega, by
      rw [hv.1, if_pos rfl, show 2 * (i / 2) = i by omega]; exact e⟩
    rw [h2] at h
    exact absurd h (by decide)
/-! own: sets of conditions -/
theorem cf_nb {j i : Nat} (hi : i < 32) : bt (nI j) i = j.testBit i := by
  show (BitVec.ofNat 32 j).getLsbD i = _
  rw [BitVec.getLsbD_ofNat, decide_eq_true hi, Bool.true_and]
theorem cf_sm_j {c : Nat} {s : Int32} (h : cf_sm c s) : ∃ j, j < 2 ^ c ∧ s = nI j :=
  ⟨s.toBitVec.toNat, Nat.lt_pow_two_of_testBit _ (fun i hi => h i hi), by
    apply Int32.toBitVec_inj.1
    show s.toBitVec = BitVec.ofNat 32 s.toBitVec.toNat
    simp⟩
theorem cf_sm_n {c j : Nat} (h : j < 2 ^ c) : cf_sm c (nI j) := by
  intro i hi
  rcases Nat.lt_or_ge i 32 with h32 | h32
  · rw [cf_nb h32]
    exact Nat.testBit_lt_two_pow (Nat.lt_of_lt_of_le h (Nat.pow_le_pow_right (by decide) hi))
  · exact b_big h32
theorem cf_p9 {c : Nat} (h : c ≤ 9) : 2 ^ c ≤ 512 := Nat.pow_le_pow_right (n := 2) (by decide) h
theorem cf_p1 (c : Nat) : 1 ≤ 2 ^ c := Nat.one_le_two_pow
theorem cf_sm_in {c : Nat} {s : Int32} (hc : c ≤ 9) (h : cf_sm c s) : vp_in s 512 := by
  obtain ⟨j, hj, rfl⟩ := cf_sm_j h
  have := cf_p9 hc
  exact vp_in_nI (by omega) (by decide)
theorem cf_shc : ∀ c, c < 10 → (1 : Int32) <<< (nI c &&& 31) = nI (2 ^ c) := by decide +kernel
theorem cf_all {c : Nat} (hc : c ≤ 9) : ((1 : Int32) <<< (nI c &&& 31)) - 1 = nI (2 ^ c - 1) := by
  rw [cf_shc c (by omega)]
  exact pk_sub (b := 1) (cf_p1 c)
theorem cf_alb {c i : Nat} (hi : i < 32) : bt (nI (2 ^ c - 1)) i = decide (i < c) := by
  rw [cf_nb hi, Nat.testBit_two_pow_sub_one]
def cf_po (T : Nat → Int32) (c : Nat) (s : Int32) : Bool := !(decide (cf_ts T c s = 0))
def cf_kn (T : Nat → Int32) (c : Nat) (s : Int32) : Bool := !cf_po T c s && cf_al (fun i => !bt s i || cf_po T c (s ^^^ ((1 : Int32) <<< (nI i &&& 31)))) c 0
def cf_ko (c : Nat) (s : Int32) : Int32 := nI (2 ^ c - 1) ^^^ s
def cf_co (T : Nat → Int32) (c : Nat) (s : Int32) : Bool := cf_po T c (cf_ko c s) && cf_al (fun i => !bt s i || !cf_po T c (cf_ko c s ||| ((1 : Int32) <<< (nI i &&& 31)))) c 0
theorem cf_sm_x {c i : Nat} {s : Int32} (hc : c ≤ 9) (hi : i < c) (h : cf_sm c s) : cf_sm c (s ^^^ ((1 : Int32) <<< (nI i &&& 31))) := by
  intro k hk
  rcases Nat.lt_or_ge k 32 with h32 | h32
  · rw [b_xor, h k hk, cf_one i (by omega) k h32, decide_eq_false (by omega)]; rfl
  · exact b_big h32
theorem cf_sm_o {c i : Nat} {s : Int32} (hc : c ≤ 9) (hi : i < c) (h : cf_sm c s) : cf_sm c (s ||| ((1 : Int32) <<< (nI i &&& 31))) := by
  intro k hk
  rcases Nat.lt_or_ge k 32 with h32 | h32
  · rw [b_or, h k hk, cf_one i (by omega) k h32, decide_eq_false (by omega)]; rfl
  · exact b_big h32
theorem cf_sm_k {c : Nat} {s : Int32} (h : cf_sm c s) : cf_sm c (cf_ko c s) := by
  intro k hk
  rcases Nat.lt_or_ge k 32 with h32 | h32
  · unfold cf_ko
    rw [b_xor, h k hk, cf_alb h32, decide_eq_false (by omega)]; rfl
  · exact b_big h32
theorem cf_xa {i : Nat} {s : Int32} (hi : i < 32) (h : bt s i = true) : s &&& (((1 : Int32) <<< (nI i &&& 31)) ^^^ (-1)) = s ^^^ ((1 : Int32) <<< (nI i &&& 31)) := by
  apply b_ext
  intro k hk
  rw [b_and, b_xor, b_xor, b_m1 k hk, cf_one i hi k hk]
  by_cases z : k = i
  · subst z
    rw [h, decide_eq_true rfl]; rfl
  · rw [decide_eq_false z]
    cases bt s k <;> rfl
theorem cf_ka {c : Nat} {s : Int32} (h : cf_sm c s) : nI (2 ^ c - 1) &&& (s ^^^ (-1)) = cf_ko c s := by
  apply b_ext
  intro k hk
  unfold cf_ko
  rw [b_and, b_xor, b_xor, b_m1 k hk, cf_alb hk]
  by_cases z : k < c
  · rw [decide_eq_true z]
    cases bt s k <;> rfl
  · rw [decide_eq_false z, h k (by omega)]; rfl
end
section
/-! own: X's helping methods, each with a general post -/
theorem cf_nf {b : Bool} (h : ¬ b = false) : b = true := by
  cases b
  · exact absurd rfl h
  · rfl
theorem lx_has {post : Int32 → Prop} {x : Int32} {i : Nat} (hi : i < 32) (h : post (cf_b (bt x i))) : wpX_has post x (nI i) := by
  unfold wpX_has
  rw [cf_ush hi]
  exact cf_br1 (fun e => by rw [e] at h; exact h) (fun e => by rw [e] at h; exact h)
theorem lx_bits4 {post : Int32 → Prop} {x : Int32} : ∀ d j k, j + d = 32 → post (nI (cf_ct (bt x) d j k)) → wX_bits_4 post x (d + 1) (nI k) (nI j) := by
  intro d
  induction d with
  | zero => intro j k hj hp; exact pk_le 32 j (fun _ => hp) (fun h => absurd h (by omega))
  | succ d ih =>
    intro j k hj hp
    have hp : post (nI (cf_ct (bt x) d (j + 1) (if bt x j then k + 1 else k))) := hp
    exact pk_le 32 j (fun h => absurd h (by omega)) (fun _ => lx_has (by omega) (cf_br
      (fun e => nm_r (nI_1 j) (ih (j + 1) k (by omega) (by rw [e, if_neg (by decide)] at hp; exact hp)))
      (fun e => nm_r (nI_1 k) (nm_r (nI_1 j) (ih (j + 1) (k + 1) (by omega) (by rw [e, if_pos rfl] at hp; exact hp))))))
theorem lx_bits {post : Int32 → Prop} {x : Int32} (h : post (nI (cf_ct (bt x) 32 0 0))) : wpX_bits post x :=
  ⟨33, lx_bits4 32 0 0 rfl h⟩
theorem lx_half : ∀ j, j < 10 → nI j >>> ((1 : Int32) &&& 31) = nI (j / 2) ∧ ((nI j &&& 1) = 1 ↔ j % 2 = 1) := by decide +kernel
theorem lx_ne (b c : Bool) : cf_b b = cf_b c ↔ (b != c) = false := by cases b <;> cases c <;> decide
theorem lx_tl22 {post : Int32 → Prop} {J4 : Int32 → Int32 → Prop} {x a : Int32} {j : Nat} (b : Bool) (hj : j < 10) (h : J4 (if (bt x (j / 2) != b) then a ||| ((1 : Int32) <<< (nI j &&& 31)) else a) (nI (j + 1))) : wX_trueLiterals_22 post J4 x a (nI j) (cf_b b) := by
  unfold wX_trueLiterals_22
  rw [(lx_half j hj).1]
  exact lx_has (by omega) (ek_if (lx_ne _ _)
    (fun e => nm_r (nI_1 j) (by rw [e, if_neg (by decide)] at h; exact h))
    (fun e => nm_e (nm_r (nI_1 j) (by rw [cf_nf e, if_pos rfl] at h; exact h))))
theorem lx_tl4 {post : Int32 → Prop} {x : Int32} : ∀ d j a, j + d = 10 → post (cf_fo (fun i a => if (bt x (i / 2) != decide (i % 2 = 1)) then a ||| ((1 : Int32) <<< (nI i &&& 31)) else a) d j a) → wX_trueLiterals_4 post x (d + 1) a (nI j) := by
  intro d
  induction d with
  | zero => intro j a hj hp; exact pk_le 10 j (fun _ => hp) (fun h => absurd h (by omega))
  | succ d ih =>
    intro j a hj hp
    have hr := ih (j + 1) _ (by omega) hp
    dsimp only at hr
    refine pk_le 10 j (fun h => absurd h (by omega)) (fun _ => ek_if (lx_half j (by omega)).2 (fun o => ?_) (fun o => ?_))
    · exact lx_tl22 true (by omega) (by rw [decide_eq_true o] at hr; exact hr)
    · exact lx_tl22 false (by omega) (by rw [decide_eq_false o] at hr; exact hr)
theorem lx_tl {post : Int32 → Prop} {x : Int32} (h : post (cf_tl x)) : wpX_trueLiterals post x :=
  ⟨11, lx_tl4 10 0 0 rfl h⟩
theorem lx_to4 {post : Int32 → Prop} {l : Int32} : ∀ d j a, j + d = 32 → post (cf_fo (fun n a => if cf_ho l (nI n) then a ||| ((1 : Int32) <<< (nI n &&& 31)) else a) d j a) → wX_tableOf_4 post l (d + 1) a (nI j) := by
  intro d
  induction d with
  | zero => intro j a hj hp; exact pk_le 32 j (fun _ => hp) (fun h => absurd h (by omega))
  | succ d ih =>
    intro j a hj hp
    have hr := ih (j + 1) _ (by omega) hp
    dsimp only at hr
    refine pk_le 32 j (fun h => absurd h (by omega)) (fun _ => lx_tl (br_c (fun z => nm_r (nI_1 j) ?_) (fun z => nm_e (nm_r (nI_1 j) ?_))))
    · have e : cf_ho l (nI j) = false := by
        cases e : cf_ho l (nI j)
        · rfl
        · exact absurd z ((cf_tl_ho l (nI j)).mpr e)
      rw [e, if_neg (by decide)] at hr; exact hr
    · rw [(cf_tl_ho l (nI j)).mp z, if_pos rfl] at hr; exact hr
theorem lx_to {post : Int32 → Prop} {l : Int32} (h : post (cf_to l)) : wpX_tableOf post l :=
  ⟨33, lx_to4 32 0 0 rfl h⟩
theorem lx_ts4 {post : Int32 → Prop} {s q : Int32} {T P : Nat → Int32} {c : Nat} (hc : c ≤ 9) : ∀ d j a, j + d = c → post (cf_fo (fun i a => if bt s i then a &&& T i else a) d j a) → wX_tableOfSet_4 post s (nI c) q T P (d + 1) a (nI j) := by
  intro d
  induction d with
  | zero => intro j a hj hp; exact pk_le c j (fun _ => hp) (fun h => absurd h (by omega))
  | succ d ih =>
    intro j a hj hp
    have hr := ih (j + 1) _ (by omega) hp
    dsimp only at hr
    exact pk_le c j (fun h => absurd h (by omega)) (fun _ => lx_has (by omega) (cf_br
      (fun e => nm_r (nI_1 j) (by rw [e, if_neg (by decide)] at hr; exact hr))
      (fun e => ⟨vp_in_nI (by omega) (by omega), nm_r (e' := a &&& T j) (by rw [nI_clamp (by omega)]) (nm_r (nI_1 j) (by rw [e, if_pos rfl] at hr; exact hr))⟩)))
theorem lx_ts {post : Int32 → Prop} {s q : Int32} {T P : Nat → Int32} {c : Nat} (hc : c ≤ 9) (h : post (cf_ts T c s)) : wpX_tableOfSet post (nI c, q, T, P) s :=
  show ∃ n, wX_tableOfSet_4 post s (nI c) q T P n (-1) 0 from ⟨c + 1, lx_ts4 hc c 0 (-1) (by omega) h⟩
theorem lx_po {post : Int32 → Prop} {s q : Int32} {T P : Nat → Int32} {c : Nat} (hc : c ≤ 9) (h : post (cf_b (cf_po T c s))) : wpX_isPossible post (nI c, q, T, P) s := by
  refine lx_ts hc (br_c (fun z => ?_) (fun z => ?_))
  · unfold cf_po at h; rw [decide_eq_true z] at h; exact h
  · unfold cf_po at h; rw [decide_eq_false z] at h; exact h
theorem lx_kn12 {post : Int32 → Prop} {s q : Int32} {T P : Nat → Int32} {c : Nat} (hc : c ≤ 9) : ∀ d j, j + d = c → post (cf_b (cf_al (fun i => !bt s i || cf_po T c (s ^^^ ((1 : Int32) <<< (nI i &&& 31)))) d j)) → wX_isKernel_12 post s (nI c) q T P (d + 1) (nI j) := by
  intro d
  induction d with
  | zero => intro j hj hp; exact pk_le c j (fun _ => hp) (fun h => absurd h (by omega))
  | succ d ih =>
    intro j hj hp
    have hp : post (cf_b ((!bt s j || cf_po T c (s ^^^ ((1 : Int32) <<< (nI j &&& 31)))) && cf_al (fun i => !bt s i || cf_po T c (s ^^^ ((1 : Int32) <<< (nI i &&& 31)))) d (j + 1))) := hp
    exact pk_le c j (fun h => absurd h (by omega)) (fun _ => lx_has (by omega) (cf_br
      (fun e => nm_r (nI_1 j) (ih (j + 1) (by omega) (by rw [e] at hp; exact hp)))
      (fun e => lx_po hc (cf_br
        (fun e2 => by rw [e, e2] at hp; exact hp)
        (fun e2 => nm_r (nI_1 j) (ih (j + 1) (by omega) (by rw [e, e2] at hp; exact hp)))))))
theorem lx_kn {post : Int32 → Prop} {s q : Int32} {T P : Nat → Int32} {c : Nat} (hc : c ≤ 9) (h : post (cf_b (cf_kn T c s))) : wpX_isKernel post (nI c, q, T, P) s := by
  unfold cf_kn at h
  unfold wpX_isKernel
  dsimp only
  refine lx_po hc (cf_br (fun e => ?_) (fun e => ?_))
  · rw [e] at h
    exact ⟨c + 1, lx_kn12 hc c 0 (by omega) h⟩
  · rw [e] at h
    exact h
theorem lx_co19 {post : Int32 → Prop} {s q : Int32} {T P : Nat → Int32} {c : Nat} (hc : c ≤ 9) : ∀ d j, j + d = c → post (cf_b (cf_al (fun i => !bt s i || !cf_po T c (cf_ko c s ||| ((1 : Int32) <<< (nI i &&& 31)))) d j)) → wX_isCorrection_19 post s (cf_ko c s) (nI c) q T P (d + 1) (nI j) := by
  intro d
  induction d with
  | zero => intro j hj hp; exact pk_le c j (fun _ => hp) (fun h => absurd h (by omega))
  | succ d ih =>
    intro j hj hp
    have hp : post (cf_b ((!bt s j || !cf_po T c (cf_ko c s ||| ((1 : Int32) <<< (nI j &&& 31)))) && cf_al (fun i => !bt s i || !cf_po T c (cf_ko c s ||| ((1 : Int32) <<< (nI i &&& 31)))) d (j + 1))) := hp
    exact pk_le c j (fun h => absurd h (by omega)) (fun _ => lx_has (by omega) (cf_br
      (fun e => nm_r (nI_1 j) (ih (j + 1) (by omega) (by rw [e] at hp; exact hp)))
      (fun e => lx_po hc (cf_br
        (fun e2 => nm_r (nI_1 j) (ih (j + 1) (by omega) (by rw [e, e2] at hp; exact hp)))
        (fun e2 => by rw [e, e2] at hp; exact hp)))))
theorem lx_ac {post : Int32 → Prop} {q : Int32} {T P : Nat → Int32} {c : Nat} (hc : c ≤ 9) (h : post (nI (2 ^ c - 1))) : wpX_allConditions post (nI c, q, T, P) := by
  show post (((1 : Int32) <<< (nI c &&& 31)) - 1)
  rw [cf_all hc]
  exact h
theorem lx_co {post : Int32 → Prop} {s q : Int32} {T P : Nat → Int32} {c : Nat} (hc : c ≤ 9) (h : post (cf_b (cf_co T c s))) : wpX_isCorrection post (nI c, q, T, P) s := by
  unfold cf_co at h
  unfold wpX_isCorrection
  dsimp only
  refine lx_ac hc (nm_r (e' := cf_ko c s) rfl (lx_po hc (cf_br (fun e => ?_) (fun e => ?_))))
  · rw [e] at h
    exact h
  · rw [e] at h
    exact ⟨c + 1, lx_co19 hc c 0 (by omega) h⟩
/-- what a set of conditions costs -/
def cf_wo (P : Nat → Int32) (c : Nat) (s : Int32) : Int32 := cf_fo (fun i a => if bt s i then a + P i else a) c 0 0
theorem lx_wo4 {post : Int32 → Prop} {s q : Int32} {T P : Nat → Int32} {c : Nat} (hc : c ≤ 9) : ∀ d j a, j + d = c → post (cf_fo (fun i a => if bt s i then a + P i else a) d j a) → wX_priceOfSet_4 post s (nI c) q T P (d + 1) a (nI j) := by
  intro d
  induction d with
  | zero => intro j a hj hp; exact pk_le c j (fun _ => hp) (fun h => absurd h (by omega))
  | succ d ih =>
    intro j a hj hp
    have hr := ih (j + 1) _ (by omega) hp
    dsimp only at hr
    exact pk_le c j (fun h => absurd h (by omega)) (fun _ => lx_has (by omega) (cf_br
      (fun e => nm_r (nI_1 j) (by rw [e, if_neg (by decide)] at hr; exact hr))
      (fun e => ⟨vp_in_nI (by omega) (by omega), nm_r (e' := a + P j) (by rw [nI_clamp (by omega)]) (nm_r (nI_1 j) (by rw [e, if_pos rfl] at hr; exact hr))⟩)))
theorem lx_wo {post : Int32 → Prop} {s q : Int32} {T P : Nat → Int32} {c : Nat} (hc : c ≤ 9) (h : post (cf_wo P c s)) : wpX_priceOfSet post (nI c, q, T, P) s :=
  show ∃ n, wX_priceOfSet_4 post s (nI c) q T P n 0 0 from ⟨c + 1, lx_wo4 hc c 0 0 (by omega) h⟩
theorem lx_ic {post : Int32 → Prop} {q : Int32} {T P : Nat → Int32} {c : Nat} (hc : c ≤ 9) {x : Int32} (f : (x < 0 ∨ nI c ≤ x) → post 0) (g : ∀ j, j < c → x = nI j → post 1) : wpX_isCondition post (nI c, q, T, P) x := by
  refine br_c (fun h => f (Or.inl h)) (fun h => br_c (fun h2 => f (Or.inr h2)) (fun h2 => ?_))
  obtain ⟨j, hj, rfl⟩ := nI_of h
  rw [nI_leI (by omega) hj] at h2
  exact g j (by omega) rfl
theorem lx_is {post : Int32 → Prop} {q : Int32} {T P : Nat → Int32} {c : Nat} (hc : c ≤ 9) {x : Int32} (f : (x < 0 ∨ nI (2 ^ c) ≤ x) → post 0) (g : ∀ j, j < 2 ^ c → x = nI j → post 1) : wpX_isSet post (nI c, q, T, P) x := by
  have h9 := cf_p9 hc
  have h1 := cf_p1 c
  refine br_c (fun h => f (Or.inl h)) (fun h => lx_ac hc ?_)
  obtain ⟨j, hj, rfl⟩ := nI_of h
  exact pk_lt (2 ^ c - 1) j (fun h => f (Or.inr ((nI_leI (by omega) (by omega)).mpr (by omega)))) (fun h => g j (by omega) rfl)
end
section
/-! own: Y's helping methods, each with a general post -/
theorem pk_mul (a b : Nat) : nI a * nI b = nI (a * b) := (Int32.ofNat_mul a b).symm
theorem ly_size4 {post : Int32 → Prop} {x q c' : Int32} {L P B : Nat → Int32} : ∀ d j k, j + d = 10 → post (nI (cf_ct (bt x) d j k)) → wY_size_4 post x q c' L P B (d + 1) (nI k) (nI j) := by
  intro d
  induction d with
  | zero => intro j k hj hp; exact pk_le 10 j (fun _ => hp) (fun h => absurd h (by omega))
  | succ d ih =>
    intro j k hj hp
    refine pk_le 10 j (fun h => absurd h (by omega)) (fun _ => nm_r (e' := nI (if bt x j then k + 1 else k)) ?_ (nm_r (nI_1 j) (ih (j + 1) _ (by omega) hp)))
    rw [cf_ssh (by omega)]
    cases bt x j
    · exact Int32.add_zero _
    · exact nI_1 k
theorem ly_size {post : Int32 → Prop} {x q c' : Int32} {L P B : Nat → Int32} (h : post (nI (cf_ct (bt x) 10 0 0))) : wpY_size post (q, c', L, P, B) x :=
  show ∃ n, wY_size_4 post x q c' L P B n 0 0 from ⟨11, ly_size4 10 0 0 rfl h⟩
theorem cf_ct10 {x : Int32} (h : cf_sm 10 x) : cf_ct (bt x) 32 0 0 = cf_ct (bt x) 10 0 0 :=
  (cf_ct_s 22 10 0 0).trans (cf_ct_0 22 (0 + 10) _ (fun i h1 _ => h i (by omega)))
theorem ly_bad {post : Int32 → Prop} {q : Int32} {L P B : Nat → Int32} {c : Nat} (hc : c ≤ 9) {x : Int32} (f : (x < 0 ∨ nI c ≤ x) → post 1) (g : ∀ j, j < c → x = nI j → post 0) : wpY_bad post (q, nI c, L, P, B) x := by
  refine br_c (fun h => f (Or.inl h)) (fun h => br_c (fun h2 => f (Or.inr h2)) (fun h2 => ?_))
  obtain ⟨j, hj, rfl⟩ := nI_of h
  rw [nI_leI (by omega) hj] at h2
  exact pk_le j 8 (fun _ => g j (by omega) rfl) (fun h => absurd h (by omega))
theorem ly_bs {post : Int32 → Prop} {q : Int32} {L P B : Nat → Int32} {c : Nat} (hc : c ≤ 9) {x : Int32} (f : (x < 0 ∨ nI (2 ^ c) ≤ x) → post 1) (g : ∀ j, j < 2 ^ c → x = nI j → post 0) : wpY_badSet post (q, nI c, L, P, B) x := by
  have h9 := cf_p9 hc
  refine br_c (fun h => f (Or.inl h)) (fun h => ?_)
  obtain ⟨j, hj, rfl⟩ := nI_of h
  exact pk_lt j (2 ^ c) (fun h => g j h rfl) (fun h => f (Or.inr ((nI_leI (by omega) (by omega)).mpr h))) rfl (cf_shc c (by omega)) (by omega) (by omega)
theorem ly_ho27 {post : Int32 → Prop} {J2 : Int32 → Prop} {x q c' : Int32} {L P B : Nat → Int32} {i j m : Nat} (hi : i < 9) (hm : m < 32) (h : bt (L i) m = true → post 1) (h2 : bt (L i) m = false → J2 (nI (j + 1))) : wY_holds_27 post J2 (nI i) x (nI j) (nI m) q c' L P B := by
  unfold wY_holds_27
  refine ⟨vp_in_nI hi (by omega), ?_⟩
  rw [nI_clamp (by omega)]
  exact cf_yif hm h (fun e => nm_r (nI_1 j) (h2 e))
theorem ly_ho2 {post : Int32 → Prop} {x q c' : Int32} {L P B : Nat → Int32} {i : Nat} (hi : i < 9) : ∀ d j, j + d = 5 → post (cf_b (cf_an (fun v => bt (L i) (if bt x v then 2 * v else 2 * v + 1)) d j)) → wY_holds_2 post (nI i) x q c' L P B (d + 1) (nI j) := by
  intro d
  induction d with
  | zero => intro j hj hp; exact pk_le 5 j (fun _ => hp) (fun h => absurd h (by omega))
  | succ d ih =>
    intro j hj hp
    have hp : post (cf_b (bt (L i) (if bt x j then 2 * j else 2 * j + 1) || cf_an (fun v => bt (L i) (if bt x v then 2 * v else 2 * v + 1)) d (j + 1))) := hp
    have e2 : (2 : Int32) * nI j = nI (2 * j) := pk_mul 2 j
    refine pk_le 5 j (fun h => absurd h (by omega)) (fun _ => cf_yif (by omega) (fun e => ?_) (fun e => ?_))
    · rw [e, if_pos rfl] at hp
      rw [e2]
      exact ly_ho27 hi (by omega) (fun z => by rw [z] at hp; exact hp) (fun z => ih (j + 1) (by omega) (by rw [z] at hp; exact hp))
    · rw [e, if_neg (by decide)] at hp
      rw [e2, nI_1 (2 * j)]
      exact ly_ho27 hi (by omega) (fun z => by rw [z] at hp; exact hp) (fun z => ih (j + 1) (by omega) (by rw [z] at hp; exact hp))
theorem ly_ho {post : Int32 → Prop} {x q c' : Int32} {L P B : Nat → Int32} {i : Nat} (hi : i < 9) (h : post (cf_b (cf_ho (L i) x))) : wpY_holds post (q, c', L, P, B) (nI i) x :=
  show ∃ n, wY_holds_2 post (nI i) x q c' L P B n 0 from ⟨6, ly_ho2 hi 5 0 rfl h⟩
theorem ly_all2 {post : Int32 → Prop} {s x q : Int32} {L P B : Nat → Int32} {c : Nat} (hc : c ≤ 9) : ∀ d j, j + d = c → post (cf_b (cf_al (fun i => !bt s i || cf_ho (L i) x) d j)) → wY_all_2 post s x q (nI c) L P B (d + 1) (nI j) := by
  intro d
  induction d with
  | zero => intro j hj hp; exact pk_le c j (fun _ => hp) (fun h => absurd h (by omega))
  | succ d ih =>
    intro j hj hp
    have hp : post (cf_b ((!bt s j || cf_ho (L j) x) && cf_al (fun i => !bt s i || cf_ho (L i) x) d (j + 1))) := hp
    exact pk_le c j (fun h => absurd h (by omega)) (fun _ => pk_le 9 j (fun h => absurd h (by omega)) (fun _ => cf_yif (by omega)
      (fun e => ly_ho (by omega) (cf_br
        (fun e2 => by rw [e, e2] at hp; exact hp)
        (fun e2 => nm_r (nI_1 j) (ih (j + 1) (by omega) (by rw [e, e2] at hp; exact hp)))))
      (fun e => nm_r (nI_1 j) (ih (j + 1) (by omega) (by rw [e] at hp; exact hp)))))
theorem ly_all {post : Int32 → Prop} {s x q : Int32} {L P B : Nat → Int32} {c : Nat} (hc : c ≤ 9) (h : post (cf_b (cf_al (fun i => !bt s i || cf_ho (L i) x) c 0))) : wpY_all post (q, nI c, L, P, B) s x :=
  show ∃ n, wY_all_2 post s x q (nI c) L P B n 0 from ⟨c + 1, ly_all2 hc c 0 (by omega) h⟩
theorem ly_fi2 {post : Int32 → Prop} {s q : Int32} {L P B : Nat → Int32} {c : Nat} (hc : c ≤ 9) : ∀ d j, j + d = 32 → post (cf_fi (fun n => cf_al (fun i => !bt s i || cf_ho (L i) (nI n)) c 0) d j) → wY_find_2 post s q (nI c) L P B (d + 1) (nI j) := by
  intro d
  induction d with
  | zero => intro j hj hp; exact pk_le 32 j (fun _ => hp) (fun h => absurd h (by omega))
  | succ d ih =>
    intro j hj hp
    have hp : post (if cf_al (fun i => !bt s i || cf_ho (L i) (nI j)) c 0 then nI j else cf_fi (fun n => cf_al (fun i => !bt s i || cf_ho (L i) (nI n)) c 0) d (j + 1)) := hp
    exact pk_le 32 j (fun h => absurd h (by omega)) (fun _ => ly_all hc (cf_br
      (fun e => nm_r (nI_1 j) (ih (j + 1) (by omega) (by rw [e, if_neg (by decide)] at hp; exact hp)))
      (fun e => by rw [e, if_pos rfl] at hp; exact hp)))
def cf_hh (c : Nat) (T L : Nat → Int32) : Prop := ∀ i, i < c → ∀ n, n < 32 → bt (T i) n = cf_ho (L i) (nI n)
theorem ly_fi {post : Int32 → Prop} {s q : Int32} {T L P B : Nat → Int32} {c : Nat} (hc : c ≤ 9) (H : cf_hh c T L) (h : post (cf_fi (bt (cf_ts T c s)) 32 0)) : wpY_find post (q, nI c, L, P, B) s := by
  have e : cf_fi (bt (cf_ts T c s)) 32 0 = cf_fi (fun n => cf_al (fun i => !bt s i || cf_ho (L i) (nI n)) c 0) 32 0 := by
    apply cf_fi_c
    intro n _ hn
    rw [cf_ts_b (by omega)]
    apply cf_al_c
    intro i _ hi
    rw [H i (by omega) n (by omega)]
  rw [e] at h
  exact show ∃ n, wY_find_2 post s q (nI c) L P B n 0 from ⟨33, ly_fi2 hc 32 0 rfl h⟩
theorem cf_fi_p {T : Nat → Int32} {c : Nat} {s : Int32} : cf_fi (bt (cf_ts T c s)) 32 0 < 0 ↔ cf_po T c s = false := by
  rw [cf_fi_n 32 0 (by omega)]
  unfold cf_po
  constructor
  · intro h
    rw [decide_eq_true ((cf_z _).mpr (fun i hi => h i (by omega) (by omega)))]; rfl
  · intro h i _ hi
    by_cases z : cf_ts T c s = 0
    · exact (cf_z _).mp z i (by omega)
    · rw [decide_eq_false z] at h; exact Bool.noConfusion h
def cf_ab (c : Nat) (T B : Nat → Int32) : Prop := ∀ j, j < 2 ^ c → B j = cf_b (cf_po T c (nI j))
theorem ly_wk2 {post : SY → Prop} {q : Int32} {T L P : Nat → Int32} {c : Nat} (hc : c ≤ 9) (H : cf_hh c T L) (h : ∀ B, cf_ab c T B → post (q, nI c, L, P, B)) : ∀ d j B, j + d = 2 ^ c → (∀ i, i < j → B i = cf_b (cf_po T c (nI i))) → wY_work_2 post q (nI c) (d + 1) (nI j) L P B := by
  have h9 := cf_p9 hc
  intro d
  induction d with
  | zero =>
    intro j B hj hB
    exact pk_le (2 ^ c) j (fun _ => h B (fun i hi => hB i (by omega))) (fun h => absurd h (by omega)) (cf_shc c (by omega)) rfl (by omega) (by omega)
  | succ d ih =>
    intro j B hj hB
    have hU : ∀ b : Int32, b = cf_b (cf_po T c (nI j)) → ∀ i, i < j + 1 → upd B j b i = cf_b (cf_po T c (nI i)) := by
      intro b hb i hi
      by_cases z : i = j
      · rw [z, pk_us, hb]
      · rw [pk_un z, hB i (by omega)]
    refine pk_le (2 ^ c) j (fun h => absurd h (by omega)) (fun _ => pk_le 512 j (fun h => absurd h (by omega)) (fun _ => ly_fi hc H (ek_if cf_fi_p
      (fun e => ⟨vp_in_nI (by omega) (by omega), nm_r (e' := upd B j 0) ?_ (nm_r (nI_1 j) (ih (j + 1) _ (by omega) (hU 0 (by rw [e]; rfl))))⟩)
      (fun e => ⟨vp_in_nI (by omega) (by omega), nm_r (e' := upd B j 1) ?_ (nm_r (nI_1 j) (ih (j + 1) _ (by omega) (hU 1 (by rw [cf_nf e]; rfl))))⟩)))) (cf_shc c (by omega)) rfl (by omega) (by omega)
    · rw [nI_clamp (by omega)]; rfl
    · rw [nI_clamp (by omega)]; rfl
theorem ly_wk {post : SY → Prop} {q : Int32} {T L P B : Nat → Int32} {c : Nat} (hc : c ≤ 9) (H : cf_hh c T L) (h : ∀ B, cf_ab c T B → post (q, nI c, L, P, B)) : wpY_work post (q, nI c, L, P, B) :=
  show ∃ n, wY_work_2 post q (nI c) n 0 L P B from ⟨2 ^ c + 1, ly_wk2 hc H h (2 ^ c) 0 B (by omega) (fun i hi => absurd hi (by omega))⟩
theorem cf_ab_s {c : Nat} {T B : Nat → Int32} {s : Int32} (hc : c ≤ 9) (A : cf_ab c T B) (h : cf_sm c s) : B s.toNatClampNeg = cf_b (cf_po T c s) := by
  have h9 := cf_p9 hc
  obtain ⟨j, hj, rfl⟩ := cf_sm_j h
  rw [nI_clamp (by omega)]
  exact A j hj
theorem ly_kn13 {post : Int32 → Prop} {s q : Int32} {T L P B : Nat → Int32} {c : Nat} (hc : c ≤ 9) (A : cf_ab c T B) (hs : cf_sm c s) : ∀ d j, j + d = c → post (cf_b (cf_al (fun i => !bt s i || cf_po T c (s ^^^ ((1 : Int32) <<< (nI i &&& 31)))) d j)) → wY_isKernel_13 post s q (nI c) L P B (d + 1) (nI j) := by
  intro d
  induction d with
  | zero => intro j hj hp; exact pk_le c j (fun _ => hp) (fun h => absurd h (by omega))
  | succ d ih =>
    intro j hj hp
    have hp : post (cf_b ((!bt s j || cf_po T c (s ^^^ ((1 : Int32) <<< (nI j &&& 31)))) && cf_al (fun i => !bt s i || cf_po T c (s ^^^ ((1 : Int32) <<< (nI i &&& 31)))) d (j + 1))) := hp
    refine pk_le c j (fun h => absurd h (by omega)) (fun _ => cf_yif (by omega) (fun e => ?_) (fun e => nm_r (nI_1 j) (ih (j + 1) (by omega) (by rw [e] at hp; exact hp))))
    have hx := cf_sm_x (i := j) hc (by omega) hs
    rw [cf_xa (by omega) e, cf_ab_s hc A hx]
    exact ⟨cf_sm_in hc hx, cf_br
      (fun e2 => by rw [e, e2] at hp; exact hp)
      (fun e2 => nm_r (nI_1 j) (ih (j + 1) (by omega) (by rw [e, e2] at hp; exact hp)))⟩
theorem ly_kn {post : Int32 → Prop} {s q : Int32} {T L P B : Nat → Int32} {c : Nat} (hc : c ≤ 9) (A : cf_ab c T B) (hs : cf_sm c s) (h : post (cf_b (cf_kn T c s))) : wpY_isKernel post (q, nI c, L, P, B) s := by
  unfold cf_kn at h
  unfold wpY_isKernel
  dsimp only
  rw [cf_ab_s hc A hs]
  refine ⟨cf_sm_in hc hs, cf_br (fun e => ?_) (fun e => ?_)⟩
  · rw [e] at h
    exact ⟨c + 1, ly_kn13 hc A hs c 0 (by omega) h⟩
  · rw [e] at h
    exact h
theorem ly_co26 {post : Int32 → Prop} {s q : Int32} {T L P B : Nat → Int32} {c : Nat} (hc : c ≤ 9) (A : cf_ab c T B) (hs : cf_sm c s) : ∀ d j, j + d = c → post (cf_b (cf_al (fun i => !bt s i || !cf_po T c (cf_ko c s ||| ((1 : Int32) <<< (nI i &&& 31)))) d j)) → wY_isCorrection_26 post s (cf_ko c s) q (nI c) L P B (d + 1) (nI j) := by
  intro d
  induction d with
  | zero => intro j hj hp; exact pk_le c j (fun _ => hp) (fun h => absurd h (by omega))
  | succ d ih =>
    intro j hj hp
    have hp : post (cf_b ((!bt s j || !cf_po T c (cf_ko c s ||| ((1 : Int32) <<< (nI j &&& 31)))) && cf_al (fun i => !bt s i || !cf_po T c (cf_ko c s ||| ((1 : Int32) <<< (nI i &&& 31)))) d (j + 1))) := hp
    refine pk_le c j (fun h => absurd h (by omega)) (fun _ => cf_yif (by omega) (fun e => ?_) (fun e => nm_r (nI_1 j) (ih (j + 1) (by omega) (by rw [e] at hp; exact hp))))
    have hx := cf_sm_o (i := j) hc (by omega) (cf_sm_k hs)
    rw [cf_ab_s hc A hx]
    exact ⟨cf_sm_in hc hx, cf_br
      (fun e2 => nm_r (nI_1 j) (ih (j + 1) (by omega) (by rw [e, e2] at hp; exact hp)))
      (fun e2 => by rw [e, e2] at hp; exact hp)⟩
theorem ly_co {post : Int32 → Prop} {s q : Int32} {T L P B : Nat → Int32} {c : Nat} (hc : c ≤ 9) (A : cf_ab c T B) (hs : cf_sm c s) (h : post (cf_b (cf_co T c s))) : wpY_isCorrection post (q, nI c, L, P, B) s := by
  unfold cf_co at h
  unfold wpY_isCorrection
  dsimp only
  refine nm_r (e' := cf_ko c s) (by rw [cf_all hc, cf_ka hs]) ?_
  rw [cf_ab_s hc A (cf_sm_k hs)]
  refine ⟨cf_sm_in hc (cf_sm_k hs), cf_br (fun e => ?_) (fun e => ?_)⟩
  · rw [e] at h
    exact h
  · rw [e] at h
    exact ⟨c + 1, ly_co26 hc A hs c 0 (by omega) h⟩
theorem ly_wo4 {post : Int32 → Prop} {s q : Int32} {L P B : Nat → Int32} {c : Nat} (hc : c ≤ 9) : ∀ d j a, j + d = c → post (cf_fo (fun i a => if bt s i then a + P i else a) d j a) → wY_worth_4 post s q (nI c) L P B (d + 1) a (nI j) := by
  intro d
  induction d with
  | zero => intro j a hj hp; exact pk_le c j (fun _ => hp) (fun h => absurd h (by omega))
  | succ d ih =>
    intro j a hj hp
    have hr := ih (j + 1) _ (by omega) hp
    dsimp only at hr
    exact pk_le c j (fun h => absurd h (by omega)) (fun _ => pk_le 9 j (fun h => absurd h (by omega)) (fun _ => cf_yif (by omega)
      (fun e => ⟨vp_in_nI (by omega) (by omega), nm_r (e' := a + P j) (by rw [nI_clamp (by omega)]) (nm_r (nI_1 j) (by rw [e, if_pos rfl] at hr; exact hr))⟩)
      (fun e => nm_r (nI_1 j) (by rw [e, if_neg (by decide)] at hr; exact hr))))
theorem ly_wo {post : Int32 → Prop} {s q : Int32} {L P B : Nat → Int32} {c : Nat} (hc : c ≤ 9) (h : post (cf_wo P c s)) : wpY_worth post (q, nI c, L, P, B) s :=
  show ∃ n, wY_worth_4 post s q (nI c) L P B n 0 0 from ⟨c + 1, ly_wo4 hc c 0 0 (by omega) h⟩
end
section
/-! own: the loops over all sets, each against a fold (written by wip/whole/gen05.py) -/
theorem lx_kns {post : Int32 → Prop} {q : Int32} {T P : Nat → Int32} {c : Nat} (hc : c ≤ 9) : ∀ d j k, j + d = 2 ^ c → post (nI (cf_ct (fun j => cf_kn T c (nI j)) d j k)) → wX_kernels_9 post (nI (2 ^ c - 1)) (nI c) q T P (d + 1) (nI k) (nI j) := by
  have h9 := cf_p9 hc
  have h1 := cf_p1 c
  intro d
  induction d with
  | zero => intro j k hj hp; exact pk_lt (2 ^ c - 1) j (fun _ => hp) (fun h => absurd h (by omega))
  | succ d ih =>
    intro j k hj hp
    have hp : post (nI (cf_ct (fun j => cf_kn T c (nI j)) d (j + 1) (if cf_kn T c (nI j) then k + 1 else k))) := hp
    exact pk_lt (2 ^ c - 1) j (fun h => absurd h (by omega)) (fun _ => lx_kn hc (cf_br
      (fun e => nm_r (nI_1 j) (ih (j + 1) k (by omega) (by rw [e, if_neg (by decide)] at hp; exact hp)))
      (fun e => nm_r (nI_1 k) (nm_r (nI_1 j) (ih (j + 1) (k + 1) (by omega) (by rw [e, if_pos rfl] at hp; exact hp))))))
theorem lx_kni {post : Int32 → Prop} {i q : Int32} {T P : Nat → Int32} {c : Nat} (hc : c ≤ 9) : ∀ d j k, j + d = 2 ^ c → post (cf_li (fun j => cf_kn T c (nI j)) i (fun _ => -1) d j k) → wX_kernel_10 post i (nI (2 ^ c - 1)) (nI c) q T P (d + 1) (nI k) (nI j) := by
  have h9 := cf_p9 hc
  have h1 := cf_p1 c
  intro d
  induction d with
  | zero => intro j k hj hp; exact pk_lt (2 ^ c - 1) j (fun _ => hp) (fun h => absurd h (by omega))
  | succ d ih =>
    intro j k hj hp
    have hp : post (if cf_kn T c (nI j) then (if nI k = i then nI j else cf_li (fun j => cf_kn T c (nI j)) i (fun _ => -1) d (j + 1) (k + 1)) else cf_li (fun j => cf_kn T c (nI j)) i (fun _ => -1) d (j + 1) k) := hp
    exact pk_lt (2 ^ c - 1) j (fun h => absurd h (by omega)) (fun _ => lx_kn hc (cf_br
      (fun e => nm_r (nI_1 j) (ih (j + 1) k (by omega) (by rw [e, if_neg (by decide)] at hp; exact hp)))
      (fun e => br_c (fun z => by rw [e, if_pos rfl, if_pos z] at hp; exact hp)
        (fun z => nm_r (nI_1 k) (nm_r (nI_1 j) (ih (j + 1) (k + 1) (by omega) (by rw [e, if_pos rfl, if_neg z] at hp; exact hp)))))))
theorem lx_cos {post : Int32 → Prop} {q : Int32} {T P : Nat → Int32} {c : Nat} (hc : c ≤ 9) : ∀ d j k, j + d = 2 ^ c → post (nI (cf_ct (fun j => cf_co T c (nI j)) d j k)) → wX_corrections_9 post (nI (2 ^ c - 1)) (nI c) q T P (d + 1) (nI k) (nI j) := by
  have h9 := cf_p9 hc
  have h1 := cf_p1 c
  intro d
  induction d with
  | zero => intro j k hj hp; exact pk_lt (2 ^ c - 1) j (fun _ => hp) (fun h => absurd h (by omega))
  | succ d ih =>
    intro j k hj hp
    have hp : post (nI (cf_ct (fun j => cf_co T c (nI j)) d (j + 1) (if cf_co T c (nI j) then k + 1 else k))) := hp
    exact pk_lt (2 ^ c - 1) j (fun h => absurd h (by omega)) (fun _ => lx_co hc (cf_br
      (fun e => nm_r (nI_1 j) (ih (j + 1) k (by omega) (by rw [e, if_neg (by decide)] at hp; exact hp)))
      (fun e => nm_r (nI_1 k) (nm_r (nI_1 j) (ih (j + 1) (k + 1) (by omega) (by rw [e, if_pos rfl] at hp; exact hp))))))
theorem lx_coi {post : Int32 → Prop} {i q : Int32} {T P : Nat → Int32} {c : Nat} (hc : c ≤ 9) : ∀ d j k, j + d = 2 ^ c → post (cf_li (fun j => cf_co T c (nI j)) i (fun _ => -1) d j k) → wX_correction_10 post i (nI (2 ^ c - 1)) (nI c) q T P (d + 1) (nI k) (nI j) := by
  have h9 := cf_p9 hc
  have h1 := cf_p1 c
  intro d
  induction d with
  | zero => intro j k hj hp; exact pk_lt (2 ^ c - 1) j (fun _ => hp) (fun h => absurd h (by omega))
  | succ d ih =>
    intro j k hj hp
    have hp : post (if cf_co T c (nI j) then (if nI k = i then nI j else cf_li (fun j => cf_co T c (nI j)) i (fun _ => -1) d (j + 1) (k + 1)) else cf_li (fun j => cf_co T c (nI j)) i (fun _ => -1) d (j + 1) k) := hp
    exact pk_lt (2 ^ c - 1) j (fun h => absurd h (by omega)) (fun _ => lx_co hc (cf_br
      (fun e => nm_r (nI_1 j) (ih (j + 1) k (by omega) (by rw [e, if_neg (by decide)] at hp; exact hp)))
      (fun e => br_c (fun z => by rw [e, if_pos rfl, if_pos z] at hp; exact hp)
        (fun z => nm_r (nI_1 k) (nm_r (nI_1 j) (ih (j + 1) (k + 1) (by omega) (by rw [e, if_pos rfl, if_neg z] at hp; exact hp)))))))
theorem ly_70 {post : Int32 → SY → Prop} {i k q c' : Int32} {L P B : Nat → Int32} (h : post (if i = -1 then k else -1) (q, c', L, P, B)) : wY_listed_70 post i k q c' L P B := by
  unfold wY_listed_70
  exact br_c (fun z => by rw [if_pos z] at h; exact h) (fun z => by rw [if_neg z] at h; exact h)
theorem ly_53 {post : Int32 → SY → Prop} {J9 : Int32 → Int32 → Prop} {x i q c' : Int32} {L P B : Nat → Int32} {k j : Nat} (f : nI k = i → post (nI j) (q, c', L, P, B)) (g : ¬ nI k = i → J9 (nI (k + 1)) (nI (j + 1))) : wY_listed_53 post J9 x i (nI k) (nI j) q c' L P B := by
  unfold wY_listed_53
  exact br_c f (fun z => nm_r (nI_1 k) (nm_r (nI_1 j) (g z)))
theorem ly_kni {post : Int32 → SY → Prop} {i q : Int32} {T L P B : Nat → Int32} {c : Nat} (hc : c ≤ 9) (A : cf_ab c T B) : ∀ d j k, j + d = 2 ^ c → post (cf_li (fun j => cf_kn T c (nI j)) i (fun k => if i = -1 then nI k else -1) d j k) (q, nI c, L, P, B) → wY_listed_9 post 1 i q (nI c) L P B (d + 1) (nI k) (nI j) := by
  have h9 := cf_p9 hc
  intro d
  induction d with
  | zero => intro j k hj hp; exact pk_le (2 ^ c) j (fun _ => ly_70 hp) (fun h => absurd h (by omega)) (cf_shc c (by omega)) rfl (by omega) (by omega)
  | succ d ih =>
    intro j k hj hp
    have hp : post (if cf_kn T c (nI j) then (if nI k = i then nI j else cf_li (fun j => cf_kn T c (nI j)) i (fun k => if i = -1 then nI k else -1) d (j + 1) (k + 1)) else cf_li (fun j => cf_kn T c (nI j)) i (fun k => if i = -1 then nI k else -1) d (j + 1) k) (q, nI c, L, P, B) := hp
    exact pk_le (2 ^ c) j (fun h => absurd h (by omega)) (fun _ => pk_le 512 j (fun h => absurd h (by omega)) (fun _ => br_f (by decide) (ly_kn hc A (cf_sm_n (by omega)) (cf_br
      (fun e => nm_r (nI_1 j) (ih (j + 1) k (by omega) (by rw [e, if_neg (by decide)] at hp; exact hp)))
      (fun e => ly_53 (fun z => by rw [e, if_pos rfl, if_pos z] at hp; exact hp)
        (fun z => ih (j + 1) (k + 1) (by omega) (by rw [e, if_pos rfl, if_neg z] at hp; exact hp))))))) (cf_shc c (by omega)) rfl (by omega) (by omega)
theorem ly_knl {post : Int32 → SY → Prop} {i q : Int32} {T L P B : Nat → Int32} {c : Nat} (hc : c ≤ 9) (H : cf_hh c T L) (h : ∀ B, post (cf_li (fun j => cf_kn T c (nI j)) i (fun k => if i = -1 then nI k else -1) (2 ^ c) 0 0) (q, nI c, L, P, B)) : wpY_listed post (q, nI c, L, P, B) 1 i := by
  unfold wpY_listed
  dsimp only
  exact ly_wk hc H (fun B A => ⟨2 ^ c + 1, ly_kni hc A (2 ^ c) 0 0 (by omega) (h B)⟩)
theorem ly_coi {post : Int32 → SY → Prop} {i q : Int32} {T L P B : Nat → Int32} {c : Nat} (hc : c ≤ 9) (A : cf_ab c T B) : ∀ d j k, j + d = 2 ^ c → post (cf_li (fun j => cf_co T c (nI j)) i (fun k => if i = -1 then nI k else -1) d j k) (q, nI c, L, P, B) → wY_listed_9 post 0 i q (nI c) L P B (d + 1) (nI k) (nI j) := by
  have h9 := cf_p9 hc
  intro d
  induction d with
  | zero => intro j k hj hp; exact pk_le (2 ^ c) j (fun _ => ly_70 hp) (fun h => absurd h (by omega)) (cf_shc c (by omega)) rfl (by omega) (by omega)
  | succ d ih =>
    intro j k hj hp
    have hp : post (if cf_co T c (nI j) then (if nI k = i then nI j else cf_li (fun j => cf_co T c (nI j)) i (fun k => if i = -1 then nI k else -1) d (j + 1) (k + 1)) else cf_li (fun j => cf_co T c (nI j)) i (fun k => if i = -1 then nI k else -1) d (j + 1) k) (q, nI c, L, P, B) := hp
    exact pk_le (2 ^ c) j (fun h => absurd h (by omega)) (fun _ => pk_le 512 j (fun h => absurd h (by omega)) (fun _ => br_t rfl (ly_co hc A (cf_sm_n (by omega)) (cf_br
      (fun e => nm_r (nI_1 j) (ih (j + 1) k (by omega) (by rw [e, if_neg (by decide)] at hp; exact hp)))
      (fun e => ly_53 (fun z => by rw [e, if_pos rfl, if_pos z] at hp; exact hp)
        (fun z => ih (j + 1) (k + 1) (by omega) (by rw [e, if_pos rfl, if_neg z] at hp; exact hp))))))) (cf_shc c (by omega)) rfl (by omega) (by omega)
theorem ly_col {post : Int32 → SY → Prop} {i q : Int32} {T L P B : Nat → Int32} {c : Nat} (hc : c ≤ 9) (H : cf_hh c T L) (h : ∀ B, post (cf_li (fun j => cf_co T c (nI j)) i (fun k => if i = -1 then nI k else -1) (2 ^ c) 0 0) (q, nI c, L, P, B)) : wpY_listed post (q, nI c, L, P, B) 0 i := by
  unfold wpY_listed
  dsimp only
  exact ly_wk hc H (fun B A => ⟨2 ^ c + 1, ly_coi hc A (2 ^ c) 0 0 (by omega) (h B)⟩)
/-! smallest, blame, core -/
def cf_sz (j : Nat) : Int32 := nI (cf_ct (bt (nI j)) 32 0 0)
def cf_sf (T : Nat → Int32) (c : Nat) (j : Nat) (a : Int32) : Int32 := if cf_kn T c (nI j) then (if a = 0 then cf_sz j else if a ≤ cf_sz j then a else cf_sz j) else a
theorem lx_sm {post : Int32 → Prop} {q : Int32} {T P : Nat → Int32} {c : Nat} (hc : c ≤ 9) : ∀ d j a, j + d = 2 ^ c → post (cf_fo (cf_sf T c) d j a) → wX_smallest_9 post (nI (2 ^ c - 1)) (nI c) q T P (d + 1) a (nI j) := by
  have h9 := cf_p9 hc
  have h1 := cf_p1 c
  intro d
  induction d with
  | zero => intro j a hj hp; exact pk_lt (2 ^ c - 1) j (fun _ => hp) (fun h => absurd h (by omega))
  | succ d ih =>
    intro j a hj hp
    have hr := ih (j + 1) (cf_sf T c j a) (by omega) hp
    unfold cf_sf at hr
    exact pk_lt (2 ^ c - 1) j (fun h => absurd h (by omega)) (fun _ => lx_kn hc (cf_br
      (fun e => nm_r (nI_1 j) (by rw [e, if_neg (by decide)] at hr; exact hr))
      (fun e => lx_bits (br_c
        (fun z => nm_r (nI_1 j) (by rw [e, if_pos rfl, if_pos z] at hr; exact hr))
        (fun z => br_c
          (fun y => nm_r (nI_1 j) (by rw [e, if_pos rfl, if_neg z, if_pos (show a ≤ cf_sz j from y)] at hr; exact hr))
          (fun y => nm_r (nI_1 j) (by rw [e, if_pos rfl, if_neg z, if_neg (show ¬ a ≤ cf_sz j from y)] at hr; exact hr)))))))
theorem cf_sz10 {j : Nat} (h : j < 512) : cf_sz j = nI (cf_ct (bt (nI j)) 10 0 0) := by
  unfold cf_sz
  rw [cf_ct10 (cf_sm_n (c := 10) (by omega))]
theorem ly_46 {post : Int32 → SY → Prop} {J8 : Int32 → Int32 → Prop} {q c' : Int32} {L P B : Nat → Int32} {j : Nat} (hj : j < 512) (h : J8 (cf_sz j) (nI (j + 1))) : wY_smallest_46 post J8 (nI j) q c' L P B := by
  unfold wY_smallest_46
  exact ly_size (nm_r (nI_1 j) (by rw [cf_sz10 hj] at h; exact h))
theorem ly_sm {post : Int32 → SY → Prop} {q : Int32} {T L P B : Nat → Int32} {c : Nat} (hc : c ≤ 9) (A : cf_ab c T B) : ∀ d j a, j + d = 2 ^ c → post (cf_fo (cf_sf T c) d j a) (q, nI c, L, P, B) → wY_smallest_8 post q (nI c) L P B (d + 1) a (nI j) := by
  have h9 := cf_p9 hc
  intro d
  induction d with
  | zero => intro j a hj hp; exact pk_le (2 ^ c) j (fun _ => hp) (fun h => absurd h (by omega)) (cf_shc c (by omega)) rfl (by omega) (by omega)
  | succ d ih =>
    intro j a hj hp
    have hr := ih (j + 1) (cf_sf T c j a) (by omega) hp
    unfold cf_sf at hr
    have hj5 : j < 512 := by omega
    exact pk_le (2 ^ c) j (fun h => absurd h (by omega)) (fun _ => pk_le 512 j (fun h => absurd h (by omega)) (fun _ => ly_kn hc A (cf_sm_n (by omega)) (cf_br
      (fun e => nm_r (nI_1 j) (by rw [e, if_neg (by decide)] at hr; exact hr))
      (fun e => br_c
        (fun z => ly_46 hj5 (by rw [e, if_pos rfl, if_pos z] at hr; exact hr))
        (fun z => ly_size (br_c
          (fun y => nm_r (nI_1 j) (by rw [← cf_sz10 hj5] at y; rw [e, if_pos rfl, if_neg z, if_pos y] at hr; exact hr))
          (fun y => ly_46 hj5 (by rw [← cf_sz10 hj5] at y; rw [e, if_pos rfl, if_neg z, if_neg y] at hr; exact hr)))))))) (cf_shc c (by omega)) rfl (by omega) (by omega)
theorem lx_bl {post : Int32 → Prop} {q : Int32} {T P : Nat → Int32} {c p : Nat} (hc : c ≤ 9) (hpc : p < c) : ∀ d j k, j + d = 2 ^ c → post (nI (cf_ct (fun j => bt (nI j) p && cf_kn T c (nI j)) d j k)) → wX_blame_20 post (nI p) (nI (2 ^ c - 1)) (nI c) q T P (d + 1) (nI k) (nI j) := by
  have h9 := cf_p9 hc
  have h1 := cf_p1 c
  intro d
  induction d with
  | zero => intro j k hj hp; exact pk_lt (2 ^ c - 1) j (fun _ => hp) (fun h => absurd h (by omega))
  | succ d ih =>
    intro j k hj hp
    have hp : post (nI (cf_ct (fun j => bt (nI j) p && cf_kn T c (nI j)) d (j + 1) (if (bt (nI j) p && cf_kn T c (nI j)) then k + 1 else k))) := hp
    exact pk_lt (2 ^ c - 1) j (fun h => absurd h (by omega)) (fun _ => lx_has (by omega) (cf_br
      (fun e => nm_r (nI_1 j) (ih (j + 1) k (by omega) (by rw [e, Bool.false_and, if_neg (by decide)] at hp; exact hp)))
      (fun e => lx_kn hc (cf_br
        (fun e2 => nm_r (nI_1 j) (ih (j + 1) k (by omega) (by rw [e, e2, Bool.and_false, if_neg (by decide)] at hp; exact hp)))
        (fun e2 => nm_r (nI_1 k) (nm_r (nI_1 j) (ih (j + 1) (k + 1) (by omega) (by rw [e, e2, Bool.and_true, if_pos rfl] at hp; exact hp))))))))
theorem ly_bl {post : Int32 → SY → Prop} {q : Int32} {T L P B : Nat → Int32} {c p : Nat} (hc : c ≤ 9) (hpc : p < c) (A : cf_ab c T B) : ∀ d j k, j + d = 2 ^ c → post (nI (cf_ct (fun j => bt (nI j) p && cf_kn T c (nI j)) d j k)) (q, nI c, L, P, B) → wY_blame_18 post (nI p) q (nI c) L P B (d + 1) (nI k) (nI j) := by
  have h9 := cf_p9 hc
  intro d
  induction d with
  | zero => intro j k hj hp; exact pk_le (2 ^ c) j (fun _ => hp) (fun h => absurd h (by omega)) (cf_shc c (by omega)) rfl (by omega) (by omega)
  | succ d ih =>
    intro j k hj hp
    have hp : post (nI (cf_ct (fun j => bt (nI j) p && cf_kn T c (nI j)) d (j + 1) (if (bt (nI j) p && cf_kn T c (nI j)) then k + 1 else k))) (q, nI c, L, P, B) := hp
    exact pk_le (2 ^ c) j (fun h => absurd h (by omega)) (fun _ => pk_le 512 j (fun h => absurd h (by omega)) (fun _ => cf_yif (by omega)
      (fun e => ly_kn hc A (cf_sm_n (by omega)) (cf_br
        (fun e2 => nm_r (nI_1 j) (ih (j + 1) k (by omega) (by rw [e, e2, Bool.and_false, if_neg (by decide)] at hp; exact hp)))
        (fun e2 => nm_r (nI_1 k) (nm_r (nI_1 j) (ih (j + 1) (k + 1) (by omega) (by rw [e, e2, Bool.and_true, if_pos rfl] at hp; exact hp))))))
      (fun e => nm_r (nI_1 j) (ih (j + 1) k (by omega) (by rw [e, Bool.false_and, if_neg (by decide)] at hp; exact hp))))) (cf_shc c (by omega)) rfl (by omega) (by omega)
def cf_cf (T : Nat → Int32) (c : Nat) (j : Nat) (a : Int32) : Int32 := if cf_kn T c (nI j) then a &&& nI j else a
theorem lx_cr {post : Int32 → Prop} {q : Int32} {T P : Nat → Int32} {c : Nat} (hc : c ≤ 9) : ∀ d j a, j + d = 2 ^ c → post (cf_fo (cf_cf T c) d j a) → wX_core_9 post (nI (2 ^ c - 1)) (nI c) q T P (d + 1) a (nI j) := by
  have h9 := cf_p9 hc
  have h1 := cf_p1 c
  intro d
  induction d with
  | zero => intro j a hj hp; exact pk_lt (2 ^ c - 1) j (fun _ => hp) (fun h => absurd h (by omega))
  | succ d ih =>
    intro j a hj hp
    have hr := ih (j + 1) (cf_cf T c j a) (by omega) hp
    unfold cf_cf at hr
    exact pk_lt (2 ^ c - 1) j (fun h => absurd h (by omega)) (fun _ => lx_kn hc (cf_br
      (fun e => nm_r (nI_1 j) (by rw [e, if_neg (by decide)] at hr; exact hr))
      (fun e => nm_e (nm_r (nI_1 j) (by rw [e, if_pos rfl] at hr; exact hr)))))
theorem ly_cr {post : Int32 → SY → Prop} {q : Int32} {T L P B : Nat → Int32} {c : Nat} (hc : c ≤ 9) (A : cf_ab c T B) : ∀ d j a, j + d = 2 ^ c → post (cf_fo (cf_cf T c) d j a) (q, nI c, L, P, B) → wY_core_15 post q (nI c) L P B (d + 1) a (nI j) := by
  have h9 := cf_p9 hc
  intro d
  induction d with
  | zero => intro j a hj hp; exact pk_le (2 ^ c) j (fun _ => hp) (fun h => absurd h (by omega)) (cf_shc c (by omega)) rfl (by omega) (by omega)
  | succ d ih =>
    intro j a hj hp
    have hr := ih (j + 1) (cf_cf T c j a) (by omega) hp
    unfold cf_cf at hr
    exact pk_le (2 ^ c) j (fun h => absurd h (by omega)) (fun _ => pk_le 512 j (fun h => absurd h (by omega)) (fun _ => ly_kn hc A (cf_sm_n (by omega)) (cf_br
      (fun e => nm_r (nI_1 j) (by rw [e, if_neg (by decide)] at hr; exact hr))
      (fun e => nm_e (nm_r (nI_1 j) (by rw [e, if_pos rfl] at hr; exact hr)))))) (cf_shc c (by omega)) rfl (by omega) (by omega)
/-! cheapest: the two searches, each as it goes -/
def cf_xb (f : Nat → Bool) (w : Int32 → Int32) : Nat → Nat → Int32 → Int32 → Int32
  | 0, _, b, _ => b
  | d + 1, j, b, p => if p ≤ w (nI j) then cf_xb f w d (j + 1) b p else if f j then cf_xb f w d (j + 1) (nI j) (w (nI j)) else cf_xb f w d (j + 1) b p
def cf_yb (f : Nat → Bool) (w : Int32 → Int32) : Nat → Nat → Int32 → Int32
  | 0, _, b => b
  | d + 1, j, b => if f j then (if b < 0 then cf_yb f w d (j + 1) (nI j) else if w b ≤ w (nI j) then cf_yb f w d (j + 1) b else cf_yb f w d (j + 1) (nI j)) else cf_yb f w d (j + 1) b
theorem lx_lc16 {post : Int32 → Prop} {q : Int32} {T P : Nat → Int32} {c : Nat} (hc : c ≤ 9) : ∀ d j b p, j + d = 2 ^ c - 1 → post (cf_xb (fun j => cf_co T c (nI j)) (cf_wo P c) d j b p) → wX_leastCheapCorrection_16 post (nI (2 ^ c - 1)) (nI c) q T P (d + 1) b p (nI j) := by
  have h9 := cf_p9 hc
  have h1 := cf_p1 c
  intro d
  induction d with
  | zero => intro j b p hj hp; exact pk_le (2 ^ c - 1) j (fun _ => hp) (fun h => absurd h (by omega))
  | succ d ih =>
    intro j b p hj hp
    have hp : post (if p ≤ cf_wo P c (nI j) then cf_xb (fun j => cf_co T c (nI j)) (cf_wo P c) d (j + 1) b p else if cf_co T c (nI j) then cf_xb (fun j => cf_co T c (nI j)) (cf_wo P c) d (j + 1) (nI j) (cf_wo P c (nI j)) else cf_xb (fun j => cf_co T c (nI j)) (cf_wo P c) d (j + 1) b p) := hp
    exact pk_le (2 ^ c - 1) j (fun h => absurd h (by omega)) (fun _ => lx_wo hc (br_c
      (fun z => nm_r (nI_1 j) (ih (j + 1) b p (by omega) (by rw [if_pos z] at hp; exact hp)))
      (fun z => lx_co hc (cf_br
        (fun e => nm_r (nI_1 j) (ih (j + 1) b p (by omega) (by rw [if_neg z, e, if_neg (by decide)] at hp; exact hp)))
        (fun e => nm_r (nI_1 j) (ih (j + 1) _ _ (by omega) (by rw [if_neg z, e, if_pos rfl] at hp; exact hp)))))))
theorem lx_lc {post : Int32 → Prop} {q : Int32} {T P : Nat → Int32} {c : Nat} (hc : c ≤ 9) (h : post (cf_xb (fun j => cf_co T c (nI j)) (cf_wo P c) (2 ^ c - 1) 0 (nI (2 ^ c - 1)) (cf_wo P c (nI (2 ^ c - 1))))) : wpX_leastCheapCorrection post (nI c, q, T, P) := by
  unfold wpX_leastCheapCorrection
  dsimp only
  exact lx_ac hc (lx_wo hc ⟨2 ^ c - 1 + 1, lx_lc16 hc (2 ^ c - 1) 0 _ _ (by omega) h⟩)
theorem ly_be8 {post : Int32 → SY → Prop} {q : Int32} {T L P B : Nat → Int32} {c : Nat} (hc : c ≤ 9) (A : cf_ab c T B) : ∀ d j b, j + d = 2 ^ c → post (cf_yb (fun j => cf_co T c (nI j)) (cf_wo P c) d j b) (q, nI c, L, P, B) → wY_best_8 post q (nI c) L P B (d + 1) b (nI j) := by
  have h9 := cf_p9 hc
  intro d
  induction d with
  | zero => intro j b hj hp; exact pk_le (2 ^ c) j (fun _ => hp) (fun h => absurd h (by omega)) (cf_shc c (by omega)) rfl (by omega) (by omega)
  | succ d ih =>
    intro j b hj hp
    have hp : post (if cf_co T c (nI j) then (if b < 0 then cf_yb (fun j => cf_co T c (nI j)) (cf_wo P c) d (j + 1) (nI j) else if cf_wo P c b ≤ cf_wo P c (nI j) then cf_yb (fun j => cf_co T c (nI j)) (cf_wo P c) d (j + 1) b else cf_yb (fun j => cf_co T c (nI j)) (cf_wo P c) d (j + 1) (nI j)) else cf_yb (fun j => cf_co T c (nI j)) (cf_wo P c) d (j + 1) b) (q, nI c, L, P, B) := hp
    exact pk_le (2 ^ c) j (fun h => absurd h (by omega)) (fun _ => pk_le 512 j (fun h => absurd h (by omega)) (fun _ => ly_co hc A (cf_sm_n (by omega)) (cf_br
      (fun e => nm_r (nI_1 j) (ih (j + 1) b (by omega) (by rw [e, if_neg (by decide)] at hp; exact hp)))
      (fun e => br_c
        (fun z => nm_r (nI_1 j) (ih (j + 1) _ (by omega) (by rw [e, if_pos rfl, if_pos z] at hp; exact hp)))
        (fun z => ly_wo hc (ly_wo hc (br_c
          (fun y => nm_r (nI_1 j) (ih (j + 1) _ (by omega) (by rw [e, if_pos rfl, if_neg z, if_pos y] at hp; exact hp)))
          (fun y => nm_r (nI_1 j) (ih (j + 1) _ (by omega) (by rw [e, if_pos rfl, if_neg z, if_neg y] at hp; exact hp)))))))))) (cf_shc c (by omega)) rfl (by omega) (by omega)
theorem ly_be {post : Int32 → SY → Prop} {q : Int32} {T L P B : Nat → Int32} {c : Nat} (hc : c ≤ 9) (H : cf_hh c T L) (h : ∀ B, post (cf_yb (fun j => cf_co T c (nI j)) (cf_wo P c) (2 ^ c) 0 (-1)) (q, nI c, L, P, B)) : wpY_best post (q, nI c, L, P, B) := by
  unfold wpY_best
  dsimp only
  exact ly_wk hc H (fun B A => ⟨2 ^ c + 1, ly_be8 hc A (2 ^ c) 0 (-1) (by omega) (h B)⟩)
end
section
/-! own: there is a correction; all conditions together are none, if there are any; so the two searches find the same -/
theorem cf_po_i {T : Nat → Int32} {c : Nat} {s : Int32} : cf_po T c s = true ↔ ∃ n, n < 32 ∧ ∀ i, i < c → bt s i = true → bt (T i) n = true := by
  constructor
  · intro h
    have hz : ¬ cf_ts T c s = 0 := by
      intro z
      unfold cf_po at h
      rw [decide_eq_true z] at h
      exact Bool.noConfusion h
    obtain ⟨n, hn, e⟩ := cf_nz hz
    rw [cf_ts_b hn, cf_al_i] at e
    refine ⟨n, hn, fun i hi hb => ?_⟩
    have := e i (by omega) (by omega)
    rw [hb] at this
    exact this
  · intro ⟨n, hn, h⟩
    have e : bt (cf_ts T c s) n = true := by
      rw [cf_ts_b hn, cf_al_i]
      intro i _ hi
      cases hb : bt s i
      · rfl
      · rw [h i (by omega) hb]; rfl
    unfold cf_po
    by_cases z : cf_ts T c s = 0
    · rw [(cf_z _).mp z n hn] at e
      exact Bool.noConfusion e
    · rw [decide_eq_false z]; rfl
theorem cf_po_0 {T : Nat → Int32} {c : Nat} : cf_po T c 0 = true := cf_po_i.mpr ⟨0, by decide, fun i _ hb => by rw [b_0] at hb; exact Bool.noConfusion hb⟩
theorem cf_max {f : Nat → Bool} {N : Nat} : ∀ d j, j < N → N - j ≤ d → f j = true → ∃ m, m < N ∧ f m = true ∧ ∀ i, m < i → i < N → f i = false := by
  intro d
  induction d with
  | zero => intro j hj hd; exact absurd hd (by omega)
  | succ d ih =>
    intro j hj hd hf
    by_cases h : ∃ i, j < i ∧ i < N ∧ f i = true
    · obtain ⟨i, h1, h2, h3⟩ := h
      exact ih i h2 (by omega) h3
    · refine ⟨j, hj, hf, fun i h1 h2 => ?_⟩
      cases e : f i
      · rfl
      · exact absurd ⟨i, h1, h2, e⟩ h
theorem cf_kk {c : Nat} {s : Int32} : cf_ko c (cf_ko c s) = s := by
  unfold cf_ko
  rw [← Int32.xor_assoc, Int32.xor_self, Int32.zero_xor]
theorem cf_up {m i : Nat} (hm : m < 512) (hi : i < 9) (h : bt (nI m) i = false) {k : Nat} (hk : k < 512) (e : nI m ||| ((1 : Int32) <<< (nI i &&& 31)) = nI k) : m < k := by
  have tn : ∀ n, n < 512 → (nI n).toBitVec.toNat = n := fun n hn => Nat.mod_eq_of_lt (by omega)
  have e1 : m ≤ k := by
    have := congrArg (fun x : Int32 => x.toBitVec.toNat) e
    rw [Int32.toBitVec_or, BitVec.toNat_or, tn m hm, tn k hk] at this
    rw [← this]
    exact Nat.left_le_or
  have e2 : m ≠ k := by
    intro z
    subst z
    have : bt (nI m ||| ((1 : Int32) <<< (nI i &&& 31))) i = bt (nI m) i := by rw [e]
    rw [b_or, h, cf_one i (by omega) i (by omega), decide_eq_true rfl] at this
    exact Bool.noConfusion this
  omega
theorem cf_ex {T : Nat → Int32} {c : Nat} (hc : c ≤ 9) : ∃ j, j < 2 ^ c ∧ cf_co T c (nI j) = true := by
  have h9 := cf_p9 hc
  obtain ⟨m, hm, hp, hg⟩ := cf_max (f := fun j => cf_po T c (nI j)) (N := 2 ^ c) (2 ^ c) 0 (cf_p1 c) (Nat.sub_le _ _) cf_po_0
  have hs : cf_sm c (nI m) := cf_sm_n hm
  obtain ⟨j, hj, e⟩ := cf_sm_j (cf_sm_k hs)
  refine ⟨j, hj, ?_⟩
  rw [← e]
  unfold cf_co
  rw [cf_kk, Bool.and_eq_true, cf_al_i]
  refine ⟨hp, fun i _ hi => ?_⟩
  cases hb : bt (cf_ko c (nI m)) i
  · rfl
  · have hbm : bt (nI m) i = false := by
      unfold cf_ko at hb
      rw [b_xor, cf_alb (by omega), decide_eq_true (by omega : i < c)] at hb
      cases h : bt (nI m) i
      · rfl
      · rw [h] at hb; exact Bool.noConfusion hb
    obtain ⟨k, hk, e2⟩ := cf_sm_j (cf_sm_o (i := i) hc (by omega) hs)
    have := hg k (cf_up (by omega) (by omega) hbm (by omega) e2) hk
    rw [e2, this]
    rfl
theorem cf_top {T : Nat → Int32} {c : Nat} (hc : c ≤ 9) (h0 : 0 < c) (hT : ¬ T 0 = 0) : cf_co T c (nI (2 ^ c - 1)) = false := by
  cases h : cf_co T c (nI (2 ^ c - 1))
  · rfl
  · exfalso
    unfold cf_co at h
    rw [Bool.and_eq_true, cf_al_i] at h
    have h2 := h.2 0 (by omega) (by omega)
    have ek : cf_ko c (nI (2 ^ c - 1)) = 0 := by unfold cf_ko; exact Int32.xor_self
    rw [cf_alb (by decide), decide_eq_true h0, ek] at h2
    have h3 : cf_po T c (0 ||| ((1 : Int32) <<< (nI 0 &&& 31))) = true := by
      obtain ⟨n, hn, e⟩ := cf_nz hT
      refine cf_po_i.mpr ⟨n, hn, fun i hi hb => ?_⟩
      rw [b_or, b_0, cf_one 0 (by decide) i (by omega), Bool.false_or, decide_eq_true_eq] at hb
      rw [hb]; exact e
    rw [h3] at h2
    exact Bool.noConfusion h2
/-- the cost, as a natural -/
def cf_wn (P : Nat → Int32) (s : Int32) : Nat → Nat → Nat → Nat
  | 0, _, a => a
  | d + 1, j, a => cf_wn P s d (j + 1) (if bt s j then a + (P j).toNatClampNeg else a)
theorem cf_wn_i {P : Nat → Int32} {s : Int32} : ∀ d j a, (∀ i, j ≤ i → i < j + d → P i = nI (P i).toNatClampNeg) → cf_fo (fun i a => if bt s i then a + P i else a) d j (nI a) = nI (cf_wn P s d j a) := by
  intro d
  induction d with
  | zero => intro j a _; rfl
  | succ d ih =>
    intro j a h
    show cf_fo (fun i a => if bt s i then a + P i else a) d (j + 1) (if bt s j then nI a + P j else nI a) = nI (cf_wn P s d (j + 1) (if bt s j then a + (P j).toNatClampNeg else a))
    rw [← ih (j + 1) _ (fun i h1 h2 => h i (by omega) (by omega))]
    cases bt s j
    · rfl
    · rw [if_pos rfl, if_pos rfl, ← nI_add, ← h j (by omega) (by omega)]
theorem cf_wn_b {P : Nat → Int32} {s : Int32} : ∀ d j a, (∀ i, j ≤ i → i < j + d → (P i).toNatClampNeg ≤ 20) → cf_wn P s d j a ≤ a + 20 * d := by
  intro d
  induction d with
  | zero => intro j a _; exact Nat.le_refl _
  | succ d ih =>
    intro j a h
    have hj := h j (by omega) (by omega)
    have := ih (j + 1) (if bt s j then a + (P j).toNatClampNeg else a) (fun i h1 h2 => h i (by omega) (by omega))
    show cf_wn P s d (j + 1) (if bt s j then a + (P j).toNatClampNeg else a) ≤ _
    have h2 : (if bt s j then a + (P j).toNatClampNeg else a) ≤ a + 20 := by split <;> omega
    omega
theorem cf_wn_l {P : Nat → Int32} {s s' : Int32} : ∀ d j a a', (∀ i, j ≤ i → i < j + d → bt s' i = true ∧ 1 ≤ (P i).toNatClampNeg) → a ≤ a' → (a < a' ∨ ∃ i, j ≤ i ∧ i < j + d ∧ bt s i = false) → cf_wn P s d j a < cf_wn P s' d j a' := by
  intro d
  induction d with
  | zero =>
    intro j a a' _ _ h
    rcases h with h | ⟨i, h1, h2, _⟩
    · exact h
    · exact absurd h1 (by omega)
  | succ d ih =>
    intro j a a' h hle hor
    have hj := h j (by omega) (by omega)
    show cf_wn P s d (j + 1) (if bt s j then a + (P j).toNatClampNeg else a) < cf_wn P s' d (j + 1) (if bt s' j then a' + (P j).toNatClampNeg else a')
    rw [hj.1, if_pos rfl]
    apply ih (j + 1) _ _ (fun i h1 h2 => h i (by omega) (by omega))
    · split <;> omega
    · rcases hor with hlt | ⟨i, h1, h2, h3⟩
      · left; split <;> omega
      · by_cases z : i = j
        · left
          rw [z] at h3
          rw [h3, if_neg (by decide)]
          omega
        · right
          exact ⟨i, by omega, by omega, h3⟩
def cf_pr (c : Nat) (P : Nat → Int32) : Prop := ∀ i, i < c → ∃ p, 1 ≤ p ∧ p ≤ 20 ∧ P i = nI p
theorem cf_pr_n {c : Nat} {P : Nat → Int32} (h : cf_pr c P) {i : Nat} (hi : i < c) : 1 ≤ (P i).toNatClampNeg ∧ (P i).toNatClampNeg ≤ 20 ∧ P i = nI (P i).toNatClampNeg := by
  obtain ⟨p, h1, h2, e⟩ := h i hi
  rw [e, nI_clamp (by omega)]
  exact ⟨h1, h2, rfl⟩
theorem cf_lt {c : Nat} {P : Nat → Int32} (hc : c ≤ 9) (hP : cf_pr c P) {j : Nat} (hj : j < 2 ^ c - 1) : ¬ cf_wo P c (nI (2 ^ c - 1)) ≤ cf_wo P c (nI j) := by
  have h9 := cf_p9 hc
  have hi : ∃ i, i < c ∧ bt (nI j) i = false := by
    apply Classical.byContradiction
    intro hn
    have e : nI j = nI (2 ^ c - 1) := by
      apply b_ext
      intro k hk
      rw [cf_alb hk]
      by_cases z : k < c
      · rw [decide_eq_true z]
        cases h : bt (nI j) k
        · exact absurd ⟨k, z, h⟩ hn
        · rfl
      · rw [decide_eq_false z]
        exact cf_sm_n (c := c) (by omega) k (by omega)
    rw [nI_eq (by omega) (by omega)] at e
    omega
  obtain ⟨i, hi, hb⟩ := hi
  have w : ∀ s, cf_wo P c s = nI (cf_wn P s c 0 0) := fun s => cf_wn_i c 0 0 (fun i _ h => (cf_pr_n hP (by omega)).2.2)
  have b : ∀ s, cf_wn P s c 0 0 ≤ 0 + 20 * c := fun s => cf_wn_b c 0 0 (fun i _ h => (cf_pr_n hP (by omega)).2.1)
  have b1 := b (nI j)
  have b2 := b (nI (2 ^ c - 1))
  rw [w, w, nI_leI (by omega) (by omega)]
  have := cf_wn_l (P := P) (s := nI j) (s' := nI (2 ^ c - 1)) c 0 0 0 (fun i _ h => ⟨by rw [cf_alb (by omega), decide_eq_true (by omega)], (cf_pr_n hP (by omega)).1⟩) (Nat.le_refl _) (Or.inr ⟨i, by omega, by omega, hb⟩)
  omega
theorem cf_sea {f : Nat → Bool} {w : Int32 → Int32} {A : Nat} (hA : A < 512) (hw : ∀ j, j < A → ¬ w (nI A) ≤ w (nI j)) (hf : (f A = false ∧ ∃ j, j < A ∧ f j = true) ∨ (A = 0 ∧ f 0 = true)) : ∀ d j b p b', j + d = A → ((b' = -1 ∧ b = nI A ∧ p = w (nI A) ∧ ∀ i, i < j → f i = false) ∨ (∃ m, m < j ∧ b' = nI m ∧ b = nI m ∧ p = w (nI m))) → cf_yb f w (d + 1) j b' = cf_xb f w d j b p := by
  intro d
  induction d with
  | zero =>
    intro j b p b' hj hR
    have hj : j = A := hj
    subst hj
    show (if f j then (if b' < 0 then nI j else if w b' ≤ w (nI j) then b' else nI j) else b') = b
    rcases hf with ⟨hf, i, hi, hfi⟩ | ⟨h0, hf⟩
    · rw [hf, if_neg (by decide)]
      rcases hR with ⟨_, _, _, h⟩ | ⟨m, _, h1, h2, _⟩
      · rw [h i hi] at hfi
        exact Bool.noConfusion hfi
      · rw [h1, h2]
    · subst h0
      rw [hf, if_pos rfl]
      rcases hR with ⟨h1, h2, _⟩ | ⟨m, hm, _⟩
      · rw [h1, h2, if_pos (by decide)]
      · exact absurd hm (by omega)
  | succ d ih =>
    intro j b p b' hj hR
    show (if f j then (if b' < 0 then cf_yb f w (d + 1) (j + 1) (nI j) else if w b' ≤ w (nI j) then cf_yb f w (d + 1) (j + 1) b' else cf_yb f w (d + 1) (j + 1) (nI j)) else cf_yb f w (d + 1) (j + 1) b') = (if p ≤ w (nI j) then cf_xb f w d (j + 1) b p else if f j then cf_xb f w d (j + 1) (nI j) (w (nI j)) else cf_xb f w d (j + 1) b p)
    have keep : ((b' = -1 ∧ b = nI A ∧ p = w (nI A) ∧ ∀ i, i < j + 1 → f i = false) ∨ (∃ m, m < j + 1 ∧ b' = nI m ∧ b = nI m ∧ p = w (nI m))) → cf_yb f w (d + 1) (j + 1) b' = cf_xb f w d (j + 1) b p := fun h => ih (j + 1) b p b' (by omega) h
    have take : cf_yb f w (d + 1) (j + 1) (nI j) = cf_xb f w d (j + 1) (nI j) (w (nI j)) := ih (j + 1) _ _ _ (by omega) (Or.inr ⟨j, by omega, rfl, rfl, rfl⟩)
    cases e : f j
    · rw [if_neg (show ¬ (false = true) by decide), if_neg (show ¬ (false = true) by decide)]
      have k := keep (by
        rcases hR with ⟨h1, h2, h3, h4⟩ | ⟨m, hm, h1, h2, h3⟩
        · refine Or.inl ⟨h1, h2, h3, fun i hi => ?_⟩
          by_cases z : i = j
          · rw [z]; exact e
          · exact h4 i (by omega)
        · exact Or.inr ⟨m, by omega, h1, h2, h3⟩)
      rw [k]
      split <;> rfl
    · rw [if_pos rfl, if_pos rfl]
      rcases hR with ⟨h1, h2, h3, h4⟩ | ⟨m, hm, h1, h2, h3⟩
      · rw [h1, if_pos (by decide), h3, if_neg (hw j (by omega))]
        exact take
      · have k := keep (Or.inr ⟨m, by omega, h1, h2, h3⟩)
        have hn : ¬ b' < 0 := by rw [h1]; exact nI_pos (by omega)
        rw [if_neg hn]
        by_cases z : w (nI m) ≤ w (nI j)
        · rw [if_pos (by rw [h1]; exact z), if_pos (by rw [h3]; exact z)]
          exact k
        · rw [if_neg (by rw [h1]; exact z), if_neg (by rw [h3]; exact z)]
          exact take
theorem cf_best {T P : Nat → Int32} {c : Nat} (hc : c ≤ 9) (hP : cf_pr c P) (hT : ∀ i, i < c → ¬ T i = 0) : cf_yb (fun j => cf_co T c (nI j)) (cf_wo P c) (2 ^ c) 0 (-1) = cf_xb (fun j => cf_co T c (nI j)) (cf_wo P c) (2 ^ c - 1) 0 (nI (2 ^ c - 1)) (cf_wo P c (nI (2 ^ c - 1))) := by
  have h9 := cf_p9 hc
  have h1 := cf_p1 c
  have hf : (cf_co T c (nI (2 ^ c - 1)) = false ∧ ∃ j, j < 2 ^ c - 1 ∧ cf_co T c (nI j) = true) ∨ (2 ^ c - 1 = 0 ∧ cf_co T c (nI 0) = true) := by
    obtain ⟨j, hj, e⟩ := cf_ex (T := T) hc
    by_cases z : c = 0
    · subst z
      have : j = 0 := by omega
      subst this
      exact Or.inr ⟨rfl, e⟩
    · have ht := cf_top hc (by omega) (hT 0 (by omega))
      refine Or.inl ⟨ht, j, ?_, e⟩
      have : j ≠ 2 ^ c - 1 := by
        intro y
        rw [y, ht] at e
        exact Bool.noConfusion e
      omega
  have := cf_sea (f := fun j => cf_co T c (nI j)) (w := cf_wo P c) (A := 2 ^ c - 1) (by omega) (fun j hj => cf_lt hc hP hj) hf (2 ^ c - 1) 0 (nI (2 ^ c - 1)) (cf_wo P c (nI (2 ^ c - 1))) (-1) (by omega) (Or.inl ⟨rfl, rfl, rfl, fun i hi => absurd hi (by omega)⟩)
  rw [show 2 ^ c - 1 + 1 = 2 ^ c by omega] at this
  exact this
end
section
/-! own: the relation, remove's shift, model's and width's loops -/
/-- the same count, draft and prices; table i holds, bit by bit, whether the condition of literals i holds; no table is empty -/
def cf_R (u : SX) (v : SY) : Prop := ∃ (c : Nat) (q : Int32) (T P L B : Nat → Int32), u = (nI c, q, T, P) ∧ v = (q, nI c, L, P, B) ∧ c ≤ 9 ∧ cf_sm 10 q ∧ (∀ i, i < c → ¬ T i = 0) ∧ cf_hh c T L ∧ cf_pr c P
theorem cf_ref {x : Int32} {n : Nat} (hn : n < 2 ^ 31) (h : x < 0 ∨ nI n ≤ x) {j : Nat} (hj : j < n) (e : x = nI j) : False := by
  subst e
  rcases h with h | h
  · exact nI_pos (by omega) h
  · rw [nI_leI hn (by omega)] at h
    omega
theorem cf_sm_d {q : Int32} {i : Nat} (hi : i < 10) (h : cf_sm 10 q) : cf_sm 10 (q ||| ((1 : Int32) <<< (nI i &&& 31))) := by
  intro k hk
  rcases Nat.lt_or_ge k 32 with h32 | h32
  · rw [b_or, h k hk, cf_one i (by omega) k h32, decide_eq_false (by omega)]; rfl
  · exact b_big h32
def cf_sh : Nat → Nat → (Nat → Int32) → Nat → Int32
  | 0, _, a => a
  | d + 1, j, a => cf_sh d (j + 1) (upd a j (a (j + 1)))
theorem cf_sh_i : ∀ d j (a : Nat → Int32) i, cf_sh d j a i = if j ≤ i ∧ i < j + d then a (i + 1) else a i := by
  intro d
  induction d with
  | zero => intro j a i; rw [if_neg (by omega)]; rfl
  | succ d ih =>
    intro j a i
    show cf_sh d (j + 1) (upd a j (a (j + 1))) i = _
    rw [ih]
    by_cases z : i = j
    · subst z
      rw [if_neg (by omega), if_pos (by omega), pk_us]
    · by_cases y : j + 1 ≤ i ∧ i < j + 1 + d
      · rw [if_pos y, if_pos (by omega), pk_un (by omega)]
      · rw [if_neg y, if_neg (by omega), pk_un z]
theorem lx_rm {post : Int32 → SX → Prop} {q : Int32} {c : Nat} (h0 : 0 < c) (hc : c ≤ 9) : ∀ d j (T P : Nat → Int32), j + d = c - 1 → post (nI (c - 1)) (nI (c - 1), q, cf_sh d j T, cf_sh d j P) → wX_remove_12 post (nI c) q (d + 1) (nI j) T P := by
  have e : nI c - 1 = nI (c - 1) := pk_sub (b := 1) h0
  intro d
  induction d with
  | zero => intro j T P hj hp; exact pk_le (c - 1) j (fun _ => nm_r e hp) (fun h => absurd h (by omega)) e rfl (by omega) (by omega)
  | succ d ih =>
    intro j T P hj hp
    have i0 : vp_in (nI j) 9 := vp_in_nI (by omega) (by omega)
    have i1 : vp_in (nI j + 1) 9 := by rw [nI_1]; exact vp_in_nI (by omega) (by omega)
    have eu : ∀ a : Nat → Int32, upd a (nI j).toNatClampNeg (a (nI j + 1).toNatClampNeg) = upd a j (a (j + 1)) := by
      intro a
      rw [nI_1, nI_clamp (by omega), nI_clamp (by omega)]
    exact pk_le (c - 1) j (fun h => absurd h (by omega)) (fun _ => ⟨i1, i0, nm_r (eu T) ⟨i1, i0, nm_r (eu P) (nm_r (nI_1 j) (ih (j + 1) _ _ (by omega) hp))⟩⟩) e rfl (by omega) (by omega)
theorem ly_rm62 {post : Int32 → SY → Prop} {q : Int32} {c : Nat} {L P B : Nat → Int32} (h0 : 0 < c) (hp : post (nI (c - 1)) (q, nI (c - 1), L, P, B)) : wY_remove_62 post q (nI c) L P B := by
  have e : nI c - 1 = nI (c - 1) := pk_sub (b := 1) h0
  unfold wY_remove_62
  exact nm_r e hp
theorem ly_rm {post : Int32 → SY → Prop} {q : Int32} {c : Nat} {B : Nat → Int32} (h0 : 0 < c) (hc : c ≤ 9) : ∀ d j (L P : Nat → Int32), j + d = c - 1 → post (nI (c - 1)) (q, nI (c - 1), cf_sh d j L, cf_sh d j P, B) → wY_remove_12 post q (nI c) (d + 1) (nI j) L P B := by
  have e : nI c - 1 = nI (c - 1) := pk_sub (b := 1) h0
  intro d
  induction d with
  | zero => intro j L P hj hp; exact pk_le (c - 1) j (fun _ => ly_rm62 h0 hp) (fun h => absurd h (by omega)) e rfl (by omega) (by omega)
  | succ d ih =>
    intro j L P hj hp
    have i0 : vp_in (nI j) 9 := vp_in_nI (by omega) (by omega)
    have i1 : vp_in (nI j + 1) 9 := by rw [nI_1]; exact vp_in_nI (by omega) (by omega)
    have eu : ∀ a : Nat → Int32, upd a (nI j).toNatClampNeg (a (nI j + 1).toNatClampNeg) = upd a j (a (j + 1)) := by
      intro a
      rw [nI_1, nI_clamp (by omega), nI_clamp (by omega)]
    exact pk_le (c - 1) j (fun h => absurd h (by omega)) (fun _ => pk_le 8 j (fun h => absurd h (by omega)) (fun _ => ⟨i1, i0, nm_r (eu L) ⟨i1, i0, nm_r (eu P) (nm_r (nI_1 j) (ih (j + 1) _ _ (by omega) hp))⟩⟩)) e rfl (by omega) (by omega)
theorem lx_mo {post : Int32 → Prop} {t q c' : Int32} {T P : Nat → Int32} : ∀ d j, j + d = 32 → post (cf_fi (bt t) d j) → wX_model_18 post t c' q T P (d + 1) (nI j) := by
  intro d
  induction d with
  | zero => intro j hj hp; exact pk_le 32 j (fun _ => hp) (fun h => absurd h (by omega))
  | succ d ih =>
    intro j hj hp
    have hp : post (if bt t j then nI j else cf_fi (bt t) d (j + 1)) := hp
    exact pk_le 32 j (fun h => absurd h (by omega)) (fun _ => lx_has (by omega) (cf_br
      (fun e => nm_r (nI_1 j) (ih (j + 1) (by omega) (by rw [e, if_neg (by decide)] at hp; exact hp)))
      (fun e => by rw [e, if_pos rfl] at hp; exact hp)))
theorem ly_wd {post : Int32 → Prop} {q c' : Int32} {L P B : Nat → Int32} {p : Nat} (h9 : p < 9) : ∀ d j k, j + d = 32 → post (nI (cf_ct (fun n => cf_ho (L p) (nI n)) d j k)) → wY_width_14 post (nI p) q c' L P B (d + 1) (nI k) (nI j) := by
  intro d
  induction d with
  | zero => intro j k hj hp; exact pk_le 32 j (fun _ => hp) (fun h => absurd h (by omega))
  | succ d ih =>
    intro j k hj hp
    have hp : post (nI (cf_ct (fun n => cf_ho (L p) (nI n)) d (j + 1) (if cf_ho (L p) (nI j) then k + 1 else k))) := hp
    exact pk_le 32 j (fun h => absurd h (by omega)) (fun _ => ly_ho h9 (cf_br
      (fun e => nm_r (nI_1 j) (ih (j + 1) k (by omega) (by rw [e, if_neg (by decide)] at hp; exact hp)))
      (fun e => nm_r (nI_1 k) (nm_r (nI_1 j) (ih (j + 1) (k + 1) (by omega) (by rw [e, if_pos rfl] at hp; exact hp))))))
end
section
/-! the owed statements -/
def i_Rel (k : Nat) (u : SX) (v : SY) : Prop := cf_R u v
theorem i_up {k : Nat} {u : SX} {v : SY} (h : i_Rel k u v) : i_Rel (k + 3) u v := h
theorem i_vc0 : wpX_init (fun u => wpY_init (fun v => i_Rel 0 u v)) :=
  ⟨0, 0, fun _ => 0, fun _ => 0, fun _ => 0, fun _ => 0, rfl, rfl, by omega, fun i _ => b_0 i, fun i h => absurd h (by omega), fun i h => absurd h (by omega), fun i h => absurd h (by omega)⟩
theorem i_vc_literal {k : Nat} {u : SX} {v : SY} (I : i_Rel k u v) (hk : k + 3 ≤ 1536) (v1 : Int32) : wpX_literal (fun r u' => wpY_literal (fun r' v' => r' = r ∧ i_Rel (k + 3) u' v') v v1) u v1 := by
  have J := I
  obtain ⟨c, q, T, P, L, B, rfl, rfl, hc, hq, hT, hH, hP⟩ := I
  by_cases h0 : v1 < 0
  · exact br_t h0 (br_t h0 ⟨rfl, J⟩)
  · obtain ⟨j, hj, rfl⟩ := nI_of h0
    by_cases h10 : j < 10
    · have hg := cf_sm_d h10 hq
      have e := cf_ct10 hg
      refine br_f h0 (pk_lt j 10 (fun _ => nm_e (lx_bits (br_c (fun z => ?_) (fun z => ?_)))) (fun h => absurd h (by omega)))
      · refine br_f h0 (pk_le j 9 (fun _ => nm_e (ly_size (br_t (by rw [← e]; exact z) (ly_size ⟨by rw [e], ?_⟩)))) (fun h => absurd h (by omega)))
        exact ⟨c, _, T, P, L, B, rfl, rfl, hc, hg, hT, hH, hP⟩
      · exact br_f h0 (pk_le j 9 (fun _ => nm_e (ly_size (br_f (by rw [← e]; exact z) ⟨rfl, J⟩))) (fun h => absurd h (by omega)))
    · exact br_f h0 (pk_lt j 10 (fun h => absurd h (by omega)) (fun _ => br_f h0 (pk_le j 9 (fun h => absurd h (by omega)) (fun _ => ⟨rfl, J⟩))))
theorem i_vc_add {k : Nat} {u : SX} {v : SY} (I : i_Rel k u v) (hk : k + 3 ≤ 1536) : wpX_add (fun r u' => wpY_add (fun r' v' => r' = r ∧ i_Rel (k + 3) u' v') v) u := by
  have J := I
  obtain ⟨c, q, T, P, L, B, rfl, rfl, hc, hq, hT, hH, hP⟩ := I
  by_cases hz : q = 0
  · exact br_t hz (br_t hz ⟨rfl, J⟩)
  · by_cases h9 : c < 9
    · have hi : vp_in (nI c) 9 := vp_in_nI h9 (by omega)
      have eu : ∀ (a : Nat → Int32) (x : Int32), upd a (nI c).toNatClampNeg x = upd a c x := by
        intro a x
        rw [nI_clamp (by omega)]
      refine br_f hz (pk_lt c 9 (fun _ => lx_to ⟨hi, nm_r (eu T (cf_to q)) ⟨hi, nm_r (eu P 1) (nm_r (nI_1 c) ?_)⟩⟩) (fun h => absurd h (by omega)))
      refine br_f hz (pk_le c 8 (fun _ => ⟨hi, nm_r (eu L q) ⟨hi, nm_r (eu P 1) (nm_r (nI_1 c) ⟨rfl, ?_⟩)⟩⟩) (fun h => absurd h (by omega)))
      refine ⟨c + 1, 0, _, _, _, B, rfl, rfl, by omega, fun i _ => b_0 i, fun i hi => ?_, fun i hi n hn => ?_, fun i hi => ?_⟩
      · by_cases z : i = c
        · rw [z, pk_us]; exact cf_to_0 hz hq
        · rw [pk_un z]; exact hT i (by omega)
      · by_cases z : i = c
        · rw [z, pk_us, pk_us]; exact cf_to_b hn
        · rw [pk_un z, pk_un z]; exact hH i (by omega) n hn
      · by_cases z : i = c
        · rw [z, pk_us]; exact ⟨1, by omega, by omega, rfl⟩
        · rw [pk_un z]; exact hP i (by omega)
    · exact br_f hz (pk_lt c 9 (fun h => absurd h (by omega)) (fun _ => br_f hz (pk_le c 8 (fun h => absurd h (by omega)) (fun _ => ⟨rfl, J⟩))))
theorem i_vc_clear {k : Nat} {u : SX} {v : SY} (I : i_Rel k u v) (hk : k + 3 ≤ 1536) : wpX_clear (fun r u' => wpY_clear (fun r' v' => r' = r ∧ i_Rel (k + 3) u' v') v) u := by
  obtain ⟨c, q, T, P, L, B, rfl, rfl, hc, hq, hT, hH, hP⟩ := I
  unfold wpX_clear wpY_clear
  dsimp only
  refine lx_bits ?_
  refine ly_size ⟨by rw [cf_ct10 hq], ?_⟩
  exact ⟨c, 0, T, P, L, B, rfl, rfl, hc, fun i _ => b_0 i, hT, hH, hP⟩
theorem i_vc_remove {k : Nat} {u : SX} {v : SY} (I : i_Rel k u v) (hk : k + 3 ≤ 1536) (v1 : Int32) : wpX_remove (fun r u' => wpY_remove (fun r' v' => r' = r ∧ i_Rel (k + 3) u' v') v v1) u v1 := by
  have J := I
  obtain ⟨c, q, T, P, L, B, rfl, rfl, hc, hq, hT, hH, hP⟩ := I
  unfold wpX_remove wpY_remove
  dsimp only
  refine lx_ic hc (fun h => br_t rfl ?_) (fun p hp e => br_f (by decide) ?_)
  · exact ly_bad hc (fun _ => br_f (by decide) ⟨rfl, J⟩) (fun j hj e => (cf_ref (by omega) h hj e).elim)
  · subst e
    refine ⟨c - 1 - p + 1, lx_rm (by omega) hc (c - 1 - p) p T P (by omega) ?_⟩
    refine ly_bad hc (fun h => (cf_ref (by omega) h hp rfl).elim) (fun _ _ _ => br_t rfl ?_)
    refine ⟨c - 1 - p + 1, ly_rm (by omega) hc (c - 1 - p) p L P (by omega) ⟨rfl, ?_⟩⟩
    have key : ∀ i, i < c - 1 → ∃ m, m < c ∧ ∀ a : Nat → Int32, cf_sh (c - 1 - p) p a i = a m := by
      intro i hi
      by_cases z : p ≤ i ∧ i < p + (c - 1 - p)
      · exact ⟨i + 1, by omega, fun a => by rw [cf_sh_i, if_pos z]⟩
      · exact ⟨i, by omega, fun a => by rw [cf_sh_i, if_neg z]⟩
    refine ⟨c - 1, q, _, _, _, B, rfl, rfl, by omega, hq, fun i hi => ?_, fun i hi n hn => ?_, fun i hi => ?_⟩
    · obtain ⟨m, hm, ha⟩ := key i hi
      rw [ha]; exact hT m hm
    · obtain ⟨m, hm, ha⟩ := key i hi
      rw [ha, ha]; exact hH m hm n hn
    · obtain ⟨m, hm, ha⟩ := key i hi
      rw [ha]; exact hP m hm
theorem i_vc_price {k : Nat} {u : SX} {v : SY} (I : i_Rel k u v) (hk : k + 3 ≤ 1536) (v1 : Int32) (v2 : Int32) : wpX_price (fun r u' => wpY_price (fun r' v' => r' = r ∧ i_Rel (k + 3) u' v') v v1 v2) u v1 v2 := by
  have J := I
  obtain ⟨c, q, T, P, L, B, rfl, rfl, hc, hq, hT, hH, hP⟩ := I
  unfold wpX_price wpY_price
  dsimp only
  refine lx_ic hc (fun h => br_t rfl ?_) (fun p hp e => br_f (by decide) ?_)
  · exact ly_bad hc (fun _ => br_f (by decide) ⟨rfl, J⟩) (fun j hj e => (cf_ref (by omega) h hj e).elim)
  · subst e
    have hi : vp_in (nI p) 9 := vp_in_nI (by omega) (by omega)
    have eu : ∀ (a : Nat → Int32) (x : Int32), upd a (nI p).toNatClampNeg x = upd a p x := by
      intro a x
      rw [nI_clamp (by omega)]
    by_cases h1 : v2 < 1
    · refine br_t h1 ?_
      exact ly_bad hc (fun h => (cf_ref (by omega) h hp rfl).elim) (fun _ _ _ => br_t rfl (br_t h1 ⟨rfl, J⟩))
    · by_cases h20 : v2 ≤ 20
      · refine br_f h1 (br_t h20 ⟨hi, nm_e ⟨hi, nm_r (eu P v2) ?_⟩⟩)
        refine ly_bad hc (fun h => (cf_ref (by omega) h hp rfl).elim) (fun _ _ _ => br_t rfl (br_f h1 (br_t h20 ⟨hi, nm_e ⟨hi, nm_r (eu P v2) ⟨rfl, ?_⟩⟩⟩)))
        refine ⟨c, q, T, _, L, B, rfl, rfl, hc, hq, hT, hH, fun i hi => ?_⟩
        by_cases z : i = p
        · rw [z, pk_us]
          have h0 : ¬ v2 < 0 := fun h => h1 (Int32.lt_trans h (by decide))
          obtain ⟨m, hm, rfl⟩ := nI_of h0
          have a : ¬ nI m < nI 1 := h1
          have b : nI m ≤ nI 20 := h20
          rw [nI_ltI hm (by omega)] at a
          rw [nI_leI hm (by omega)] at b
          exact ⟨m, by omega, by omega, rfl⟩
        · rw [pk_un z]; exact hP i hi
      · refine br_f h1 (br_f h20 ?_)
        exact ly_bad hc (fun h => (cf_ref (by omega) h hp rfl).elim) (fun _ _ _ => br_t rfl (br_f h1 (br_f h20 ⟨rfl, J⟩)))
theorem i_vc_conditions {k : Nat} {u : SX} {v : SY} (I : i_Rel k u v) (hk : k + 3 ≤ 1536) : wpX_conditions (fun r => wpY_conditions (fun r' => r' = r ∧ i_Rel (k + 3) u v) v) u := by
  have J := I
  obtain ⟨c, q, T, P, L, B, rfl, rfl, hc, hq, hT, hH, hP⟩ := I
  exact ⟨rfl, J⟩
theorem i_vc_possible {k : Nat} {u : SX} {v : SY} (I : i_Rel k u v) (hk : k + 3 ≤ 1536) (v1 : Int32) : wpX_possible (fun r => wpY_possible (fun r' => r' = r ∧ i_Rel (k + 3) u v) v v1) u v1 := by
  have J := I
  obtain ⟨c, q, T, P, L, B, rfl, rfl, hc, hq, hT, hH, hP⟩ := I
  have h9 := cf_p9 hc
  unfold wpX_possible wpY_possible
  dsimp only
  refine lx_is hc (fun h => br_t rfl ?_) (fun p hp e => br_f (by decide) ?_)
  · exact ly_bs hc (fun _ => br_f (by decide) ⟨rfl, J⟩) (fun j hj e => (cf_ref (by omega) h hj e).elim)
  · subst e
    refine lx_po hc (cf_br (fun e => ?_) (fun e => ?_))
    · refine ly_bs hc (fun h => (cf_ref (by omega) h hp rfl).elim) (fun _ _ _ => br_t rfl ?_)
      exact ly_fi hc hH (br_f (Int32.not_le.mpr (cf_fi_p.mpr e)) ⟨rfl, J⟩)
    · refine ly_bs hc (fun h => (cf_ref (by omega) h hp rfl).elim) (fun _ _ _ => br_t rfl ?_)
      refine ly_fi hc hH (br_t (Int32.not_lt.mp (fun z => ?_)) ⟨rfl, J⟩)
      rw [cf_fi_p.mp z] at e
      exact Bool.noConfusion e
theorem i_vc_model {k : Nat} {u : SX} {v : SY} (I : i_Rel k u v) (hk : k + 3 ≤ 1536) (v1 : Int32) : wpX_model (fun r => wpY_model (fun r' => r' = r ∧ i_Rel (k + 3) u v) v v1) u v1 := by
  have J := I
  obtain ⟨c, q, T, P, L, B, rfl, rfl, hc, hq, hT, hH, hP⟩ := I
  have h9 := cf_p9 hc
  unfold wpX_model wpY_model
  dsimp only
  refine lx_is hc (fun h => br_t rfl ?_) (fun p hp e => br_f (by decide) ?_)
  · exact ly_bs hc (fun _ => br_f (by decide) ⟨rfl, J⟩) (fun j hj e => (cf_ref (by omega) h hj e).elim)
  · subst e
    refine lx_ts hc ⟨33, lx_mo 32 0 rfl ?_⟩
    refine ly_bs hc (fun h => (cf_ref (by omega) h hp rfl).elim) (fun _ _ _ => br_t rfl ?_)
    exact ly_fi hc hH ⟨rfl, J⟩
theorem i_vc_kernels {k : Nat} {u : SX} {v : SY} (I : i_Rel k u v) (hk : k + 3 ≤ 1536) : wpX_kernels (fun r => wpY_kernels (fun r' v' => r' = r ∧ i_Rel (k + 3) u v') v) u := by
  obtain ⟨c, q, T, P, L, B, rfl, rfl, hc, hq, hT, hH, hP⟩ := I
  have h9 := cf_p9 hc
  unfold wpX_kernels wpY_kernels
  dsimp only
  refine lx_ac hc ⟨2 ^ c + 1, lx_kns hc (2 ^ c) 0 0 (by omega) ?_⟩
  exact ly_knl hc hH (fun B' => ⟨(cf_li_n (by decide) _ _ _ (by omega)).trans (if_pos rfl), ⟨c, q, T, P, L, B', rfl, rfl, hc, hq, hT, hH, hP⟩⟩)
theorem i_vc_kernel {k : Nat} {u : SX} {v : SY} (I : i_Rel k u v) (hk : k + 3 ≤ 1536) (v1 : Int32) : wpX_kernel (fun r => wpY_kernel (fun r' v' => r' = r ∧ i_Rel (k + 3) u v') v v1) u v1 := by
  have J := I
  obtain ⟨c, q, T, P, L, B, rfl, rfl, hc, hq, hT, hH, hP⟩ := I
  have h9 := cf_p9 hc
  unfold wpX_kernel wpY_kernel
  dsimp only
  refine lx_ac hc ⟨2 ^ c + 1, lx_kni hc (2 ^ c) 0 0 (by omega) ?_⟩
  refine br_c (fun h => ?_) (fun h => ?_)
  · exact ly_knl hc hH (fun B' => ⟨cf_li_c (fun k => if_neg (fun z => by rw [z] at h; exact absurd h (by decide))) _ _ _, ⟨c, q, T, P, L, B', rfl, rfl, hc, hq, hT, hH, hP⟩⟩)
  · exact ⟨(cf_li_n (e := fun _ => -1) (Int32.not_le.mp h) (2 ^ c) 0 0 (by omega)).symm, J⟩
theorem i_vc_corrections {k : Nat} {u : SX} {v : SY} (I : i_Rel k u v) (hk : k + 3 ≤ 1536) : wpX_corrections (fun r => wpY_corrections (fun r' v' => r' = r ∧ i_Rel (k + 3) u v') v) u := by
  obtain ⟨c, q, T, P, L, B, rfl, rfl, hc, hq, hT, hH, hP⟩ := I
  have h9 := cf_p9 hc
  unfold wpX_corrections wpY_corrections
  dsimp only
  refine lx_ac hc ⟨2 ^ c + 1, lx_cos hc (2 ^ c) 0 0 (by omega) ?_⟩
  exact ly_col hc hH (fun B' => ⟨(cf_li_n (by decide) _ _ _ (by omega)).trans (if_pos rfl), ⟨c, q, T, P, L, B', rfl, rfl, hc, hq, hT, hH, hP⟩⟩)
theorem i_vc_correction {k : Nat} {u : SX} {v : SY} (I : i_Rel k u v) (hk : k + 3 ≤ 1536) (v1 : Int32) : wpX_correction (fun r => wpY_correction (fun r' v' => r' = r ∧ i_Rel (k + 3) u v') v v1) u v1 := by
  have J := I
  obtain ⟨c, q, T, P, L, B, rfl, rfl, hc, hq, hT, hH, hP⟩ := I
  have h9 := cf_p9 hc
  unfold wpX_correction wpY_correction
  dsimp only
  refine lx_ac hc ⟨2 ^ c + 1, lx_coi hc (2 ^ c) 0 0 (by omega) ?_⟩
  refine br_c (fun h => ?_) (fun h => ?_)
  · exact ly_col hc hH (fun B' => ⟨cf_li_c (fun k => if_neg (fun z => by rw [z] at h; exact absurd h (by decide))) _ _ _, ⟨c, q, T, P, L, B', rfl, rfl, hc, hq, hT, hH, hP⟩⟩)
  · exact ⟨(cf_li_n (e := fun _ => -1) (Int32.not_le.mp h) (2 ^ c) 0 0 (by omega)).symm, J⟩
theorem i_vc_cheapest {k : Nat} {u : SX} {v : SY} (I : i_Rel k u v) (hk : k + 3 ≤ 1536) : wpX_cheapest (fun r => wpY_cheapest (fun r' v' => r' = r ∧ i_Rel (k + 3) u v') v) u := by
  obtain ⟨c, q, T, P, L, B, rfl, rfl, hc, hq, hT, hH, hP⟩ := I
  unfold wpX_cheapest wpY_cheapest
  dsimp only
  refine lx_lc hc (lx_wo hc ?_)
  refine ly_be hc hH (fun B' => ?_)
  exact ly_wo hc ⟨by rw [cf_best hc hP hT], ⟨c, q, T, P, L, B', rfl, rfl, hc, hq, hT, hH, hP⟩⟩
theorem i_vc_cheapestSet {k : Nat} {u : SX} {v : SY} (I : i_Rel k u v) (hk : k + 3 ≤ 1536) : wpX_cheapestSet (fun r => wpY_cheapestSet (fun r' v' => r' = r ∧ i_Rel (k + 3) u v') v) u := by
  obtain ⟨c, q, T, P, L, B, rfl, rfl, hc, hq, hT, hH, hP⟩ := I
  unfold wpX_cheapestSet wpY_cheapestSet
  dsimp only
  refine lx_lc hc ?_
  exact ly_be hc hH (fun B' => ⟨cf_best hc hP hT, ⟨c, q, T, P, L, B', rfl, rfl, hc, hq, hT, hH, hP⟩⟩)
theorem i_vc_smallest {k : Nat} {u : SX} {v : SY} (I : i_Rel k u v) (hk : k + 3 ≤ 1536) : wpX_smallest (fun r => wpY_smallest (fun r' v' => r' = r ∧ i_Rel (k + 3) u v') v) u := by
  obtain ⟨c, q, T, P, L, B, rfl, rfl, hc, hq, hT, hH, hP⟩ := I
  unfold wpX_smallest wpY_smallest
  dsimp only
  refine lx_ac hc ⟨2 ^ c + 1, lx_sm hc (2 ^ c) 0 0 (by omega) ?_⟩
  exact ly_wk hc hH (fun B' A => ⟨2 ^ c + 1, ly_sm hc A (2 ^ c) 0 0 (by omega) ⟨rfl, ⟨c, q, T, P, L, B', rfl, rfl, hc, hq, hT, hH, hP⟩⟩⟩)
theorem i_vc_blame {k : Nat} {u : SX} {v : SY} (I : i_Rel k u v) (hk : k + 3 ≤ 1536) (v1 : Int32) : wpX_blame (fun r => wpY_blame (fun r' v' => r' = r ∧ i_Rel (k + 3) u v') v v1) u v1 := by
  have J := I
  obtain ⟨c, q, T, P, L, B, rfl, rfl, hc, hq, hT, hH, hP⟩ := I
  unfold wpX_blame wpY_blame
  dsimp only
  refine lx_ic hc (fun h => br_t rfl ?_) (fun p hp e => br_f (by decide) ?_)
  · exact ly_bad hc (fun _ => br_f (by decide) ⟨rfl, J⟩) (fun j hj e => (cf_ref (by omega) h hj e).elim)
  · subst e
    refine lx_ac hc ⟨2 ^ c + 1, lx_bl hc hp (2 ^ c) 0 0 (by omega) ?_⟩
    refine ly_bad hc (fun h => (cf_ref (by omega) h hp rfl).elim) (fun _ _ _ => br_t rfl ?_)
    exact ly_wk hc hH (fun B' A => ⟨2 ^ c + 1, ly_bl hc hp A (2 ^ c) 0 0 (by omega) ⟨rfl, ⟨c, q, T, P, L, B', rfl, rfl, hc, hq, hT, hH, hP⟩⟩⟩)
theorem i_vc_core {k : Nat} {u : SX} {v : SY} (I : i_Rel k u v) (hk : k + 3 ≤ 1536) : wpX_core (fun r => wpY_core (fun r' v' => r' = r ∧ i_Rel (k + 3) u v') v) u := by
  obtain ⟨c, q, T, P, L, B, rfl, rfl, hc, hq, hT, hH, hP⟩ := I
  unfold wpX_core wpY_core
  dsimp only
  refine lx_ac hc ⟨2 ^ c + 1, lx_cr hc (2 ^ c) 0 _ (by omega) ?_⟩
  exact ly_wk hc hH (fun B' A => nm_r (cf_all hc) ⟨2 ^ c + 1, ly_cr hc A (2 ^ c) 0 _ (by omega) ⟨rfl, ⟨c, q, T, P, L, B', rfl, rfl, hc, hq, hT, hH, hP⟩⟩⟩)
theorem i_vc_sort {k : Nat} {u : SX} {v : SY} (I : i_Rel k u v) (hk : k + 3 ≤ 1536) (v1 : Int32) : wpX_sort (fun r => wpY_sort (fun r' v' => r' = r ∧ i_Rel (k + 3) u v') v v1) u v1 := by
  have J := I
  obtain ⟨c, q, T, P, L, B, rfl, rfl, hc, hq, hT, hH, hP⟩ := I
  have h9 := cf_p9 hc
  unfold wpX_sort wpY_sort
  dsimp only
  refine lx_is hc (fun h => br_t rfl ?_) (fun p hp e => br_f (by decide) ?_)
  · exact ly_bs hc (fun _ => br_f (by decide) ⟨rfl, J⟩) (fun j hj e => (cf_ref (by omega) h hj e).elim)
  · subst e
    have hs := cf_sm_n hp
    have hR : ∀ B', i_Rel (k + 3) (nI c, q, T, P) (q, nI c, L, P, B') := fun B' => ⟨c, q, T, P, L, B', rfl, rfl, hc, hq, hT, hH, hP⟩
    refine lx_kn hc (cf_br (fun e => lx_co hc (cf_br (fun e2 => ?_) (fun e2 => ?_))) (fun e => ?_))
    · refine ly_bs hc (fun h => (cf_ref (by omega) h hp rfl).elim) (fun _ _ _ => br_t rfl ?_)
      refine ly_wk hc hH (fun B' A => ly_kn hc A hs ?_)
      rw [e]
      refine br_t rfl (ly_co hc A hs ?_)
      rw [e2]
      exact br_t rfl ⟨rfl, hR B'⟩
    · refine ly_bs hc (fun h => (cf_ref (by omega) h hp rfl).elim) (fun _ _ _ => br_t rfl ?_)
      refine ly_wk hc hH (fun B' A => ly_kn hc A hs ?_)
      rw [e]
      refine br_t rfl (ly_co hc A hs ?_)
      rw [e2]
      exact br_f (by decide) ⟨rfl, hR B'⟩
    · refine ly_bs hc (fun h => (cf_ref (by omega) h hp rfl).elim) (fun _ _ _ => br_t rfl ?_)
      refine ly_wk hc hH (fun B' A => ly_kn hc A hs ?_)
      rw [e]
      exact br_f (by decide) ⟨rfl, hR B'⟩
theorem i_vc_width {k : Nat} {u : SX} {v : SY} (I : i_Rel k u v) (hk : k + 3 ≤ 1536) (v1 : Int32) : wpX_width (fun r => wpY_width (fun r' => r' = r ∧ i_Rel (k + 3) u v) v v1) u v1 := by
  have J := I
  obtain ⟨c, q, T, P, L, B, rfl, rfl, hc, hq, hT, hH, hP⟩ := I
  unfold wpX_width wpY_width
  dsimp only
  refine lx_ic hc (fun h => br_t rfl ?_) (fun p hp e => br_f (by decide) ?_)
  · exact ly_bad hc (fun _ => br_f (by decide) ⟨rfl, J⟩) (fun j hj e => (cf_ref (by omega) h hj e).elim)
  · subst e
    rw [nI_clamp (by omega)]
    refine ⟨vp_in_nI (by omega) (by omega), lx_bits ?_⟩
    refine ly_bad hc (fun h => (cf_ref (by omega) h hp rfl).elim) (fun _ _ _ => br_t rfl ?_)
    refine ⟨33, ly_wd (by omega) 32 0 0 rfl ⟨?_, J⟩⟩
    rw [cf_ct_c 32 0 0 (fun n _ hn => hH p hp n (by omega))]
end
