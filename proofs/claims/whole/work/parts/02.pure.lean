/-! own: tables of conditions by their bits -/
theorem cf_ors (g : Nat → Bool) : ∀ d j a i, j + d ≤ 32 → i < 32 → bt (cf_fo (fun n a => if g n then a ||| ((1 : Int32) <<< (nI n &&& 31)) else a) d j a) i = (bt a i || (decide (j ≤ i ∧ i < j + d) && g i)) := by
  intro d
  induction d with
  | zero =>
    intro j a i _ _
    rw [decide_eq_false (by omega), Bool.false_and, Bool.or_false]
    rfl
  | succ d ih =>
    intro j a i hj hi
    show bt (cf_fo (fun n a => if g n then a ||| ((1 : Int32) <<< (nI n &&& 31)) else a) d (j + 1) (if g j then a ||| ((1 : Int32) <<< (nI j &&& 31)) else a)) i = _
    rw [ih (j + 1) _ i (by omega) hi]
    have e : bt (if g j then a ||| ((1 : Int32) <<< (nI j &&& 31)) else a) i = (bt a i || (decide (i = j) && g i)) := by
      by_cases z : i = j
      · subst z
        cases h : g i
        · rw [if_neg (by decide), Bool.and_false, Bool.or_false]
        · rw [if_pos rfl, b_or, cf_one i (by omega) i hi, Bool.and_true]
      · cases h : g j
        · rw [if_neg (by decide), decide_eq_false z, Bool.false_and, Bool.or_false]
        · rw [if_pos rfl, b_or, cf_one j (by omega) i hi, decide_eq_false z, Bool.false_and]
    have e2 : (decide (i = j) || decide (j + 1 ≤ i ∧ i < j + 1 + d)) = decide (j ≤ i ∧ i < j + (d + 1)) := by
      by_cases z : i = j
      · rw [decide_eq_true z, Bool.true_or, decide_eq_true (by omega)]
      · rw [decide_eq_false z, Bool.false_or]
        exact decide_eq_decide.mpr (by omega)
    rw [e, Bool.or_assoc, ← e2]
    cases g i
    · rw [Bool.and_false, Bool.and_false, Bool.and_false]; rfl
    · rw [Bool.and_true, Bool.and_true, Bool.and_true]
theorem cf_ands (s : Int32) (T : Nat → Int32) (n : Nat) : ∀ d j a, bt (cf_fo (fun i a => if bt s i then a &&& T i else a) d j a) n = (bt a n && cf_al (fun i => !bt s i || bt (T i) n) d j) := by
  intro d
  induction d with
  | zero => intro j a; exact (Bool.and_true _).symm
  | succ d ih =>
    intro j a
    show bt (cf_fo (fun i a => if bt s i then a &&& T i else a) d (j + 1) (if bt s j then a &&& T j else a)) n = (bt a n && ((!bt s j || bt (T j) n) && cf_al (fun i => !bt s i || bt (T i) n) d (j + 1)))
    rw [ih]
    cases bt s j
    · rw [if_neg (by decide)]; rfl
    · rw [if_pos rfl, b_and, Bool.and_assoc]; rfl
def cf_ts (T : Nat → Int32) (c : Nat) (s : Int32) : Int32 := cf_fo (fun i a => if bt s i then a &&& T i else a) c 0 (-1)
theorem cf_ts_b {T : Nat → Int32} {c : Nat} {s : Int32} {n : Nat} (hn : n < 32) : bt (cf_ts T c s) n = cf_al (fun i => !bt s i || bt (T i) n) c 0 := by
  unfold cf_ts
  rw [cf_ands, b_m1 n hn, Bool.true_and]
theorem cf_z (x : Int32) : x = 0 ↔ ∀ i, i < 32 → bt x i = false :=
  ⟨fun h i _ => h ▸ b_0 i, fun h => b_ext (fun i hi => by rw [h i hi, b_0])⟩
theorem cf_nz {x : Int32} (h : ¬ x = 0) : ∃ i, i < 32 ∧ bt x i = true := by
  apply Classical.byContradiction
  intro hn
  apply h
  rw [cf_z]
  intro i hi
  cases e : bt x i
  · rfl
  · exact absurd ⟨i, hi, e⟩ hn
/-- the literals that are true under the values x -/
def cf_tl (x : Int32) : Int32 := cf_fo (fun i a => if (bt x (i / 2) != decide (i % 2 = 1)) then a ||| ((1 : Int32) <<< (nI i &&& 31)) else a) 10 0 0
/-- does a condition of the literals l hold under the values x -/
def cf_ho (l x : Int32) : Bool := cf_an (fun v => bt l (if bt x v then 2 * v else 2 * v + 1)) 5 0
theorem cf_tl_b {x : Int32} {i : Nat} (hi : i < 32) : bt (cf_tl x) i = (decide (i < 10) && (bt x (i / 2) != decide (i % 2 = 1))) := by
  unfold cf_tl
  rw [cf_ors (fun i => (bt x (i / 2) != decide (i % 2 = 1))) 10 0 0 i (by omega) hi, b_0, Bool.false_or]
  congr 1
  exact decide_eq_decide.mpr (by omega)
theorem cf_tl_ho (l x : Int32) : ¬ (l &&& cf_tl x) = 0 ↔ cf_ho l x = true := by
  unfold cf_ho
  rw [cf_an_i]
  constructor
  · intro h
    obtain ⟨i, hi, e⟩ := cf_nz h
    rw [b_and, cf_tl_b hi, Bool.and_eq_true, Bool.and_eq_true, decide_eq_true_eq] at e
    obtain ⟨e1, e2, e3⟩ := e
    refine ⟨i / 2, by omega, by omega, ?_⟩
    by_cases o : i % 2 = 1
    · rw [decide_eq_true o] at e3
      cases e4 : bt x (i / 2)
      · show bt l (if false = true then _ else 2 * (i / 2) + 1) = true
        rw [if_neg (by decide), show 2 * (i / 2) + 1 = i by omega]; exact e1
      · rw [e4] at e3; exact absurd e3 (by decide)
    · rw [decide_eq_false o] at e3
      cases e4 : bt x (i / 2)
      · rw [e4] at e3; exact absurd e3 (by decide)
      · show bt l (if true = true then 2 * (i / 2) else _) = true
        rw [if_pos rfl, show 2 * (i / 2) = i by omega]; exact e1
  · intro ⟨v, _, hv, h⟩ z
    rw [cf_z] at z
    cases e : bt x v
    · rw [e, if_neg (by decide)] at h
      have := z (2 * v + 1) (by omega)
      rw [b_and, h, cf_tl_b (by omega), decide_eq_true (by omega : 2 * v + 1 < 10), show (2 * v + 1) / 2 = v by omega, e, decide_eq_true (by omega : (2 * v + 1) % 2 = 1)] at this
      exact absurd this (by decide)
    · rw [e, if_pos rfl] at h
      have := z (2 * v) (by omega)
      rw [b_and, h, cf_tl_b (by omega), decide_eq_true (by omega : 2 * v < 10), show (2 * v) / 2 = v by omega, e, decide_eq_false (by omega : ¬ (2 * v) % 2 = 1)] at this
      exact absurd this (by decide)
def cf_to (l : Int32) : Int32 := cf_fo (fun n a => if cf_ho l (nI n) then a ||| ((1 : Int32) <<< (nI n &&& 31)) else a) 32 0 0
theorem cf_to_b {l : Int32} {n : Nat} (hn : n < 32) : bt (cf_to l) n = cf_ho l (nI n) := by
  unfold cf_to
  rw [cf_ors (fun n => cf_ho l (nI n)) 32 0 0 n (by omega) hn, b_0, Bool.false_or, decide_eq_true (by omega), Bool.true_and]
def cf_sm (c : Nat) (s : Int32) : Prop := ∀ i, c ≤ i → bt s i = false
theorem cf_31 : ∀ v, v < 5 → bt (nI 31) v = true ∧ bt (nI 0) v = false := by decide +kernel
theorem cf_to_0 {l : Int32} (h0 : ¬ l = 0) (hs : cf_sm 10 l) : ¬ cf_to l = 0 := by
  intro z
  rw [cf_z] at z
  obtain ⟨i, hi, e⟩ := cf_nz h0
  have hi : i < 10 := by
    apply Classical.byContradiction
    intro h
    rw [hs i (by omega)] at e
    exact absurd e (by decide)
  have hv := cf_31 (i / 2) (by omega)
  by_cases o : i % 2 = 1
  · have h := z 0 (by decide)
    rw [cf_to_b (by decide)] at h
    have h2 : cf_ho l (nI 0) = true := (cf_an_i _ 5 0).mpr ⟨i / 2, by omega, by omega, by
      rw [hv.2, if_neg (by decide), show 2 * (i / 2) + 1 = i by omega]; exact e⟩
    rw [h2] at h
    exact absurd h (by decide)
  · have h := z 31 (by decide)
    rw [cf_to_b (by decide)] at h
    have h2 : cf_ho l (nI 31) = true := (cf_an_i _ 5 0).mpr ⟨i / 2, by omega, by omega, by
      rw [hv.1, if_pos rfl, show 2 * (i / 2) = i by omega]; exact e⟩
    rw [h2] at h
    exact absurd h (by decide)
/-! own: sets of conditions -/
theorem cf_nb {j i : Nat} (hi : i < 32) : bt (nI j) i = j.testBit i := by
  show (BitVec.ofNat 32 j).getLsbD i = _
  rw [BitVec.getLsbD_ofNat, decide_eq_true hi, Bool.true_and]
theorem cf_sm_j {c : Nat} {s : Int32} (h : cf_sm c s) : ∃ j, j < 2 ^ c ∧ s = nI j :=
  ⟨s.toBitVec.toNat, Nat.lt_pow_two_of_testBit _ (fun i hi => h i hi), by
    apply Int32.toBitVec_inj.1
    show s.toBitVec = BitVec.ofNat 32 s.toBitVec.toNat
    simp⟩
theorem cf_sm_n {c j : Nat} (h : j < 2 ^ c) : cf_sm c (nI j) := by
  intro i hi
  rcases Nat.lt_or_ge i 32 with h32 | h32
  · rw [cf_nb h32]
    exact Nat.testBit_lt_two_pow (Nat.lt_of_lt_of_le h (Nat.pow_le_pow_right (by decide) hi))
  · exact b_big h32
theorem cf_p9 {c : Nat} (h : c ≤ 9) : 2 ^ c ≤ 512 := Nat.pow_le_pow_right (n := 2) (by decide) h
theorem cf_p1 (c : Nat) : 1 ≤ 2 ^ c := Nat.one_le_two_pow
theorem cf_sm_in {c : Nat} {s : Int32} (hc : c ≤ 9) (h : cf_sm c s) : vp_in s 512 := by
  obtain ⟨j, hj, rfl⟩ := cf_sm_j h
  have := cf_p9 hc
  exact vp_in_nI (by omega) (by decide)
theorem cf_shc : ∀ c, c < 10 → (1 : Int32) <<< (nI c &&& 31) = nI (2 ^ c) := by decide +kernel
theorem cf_all {c : Nat} (hc : c ≤ 9) : ((1 : Int32) <<< (nI c &&& 31)) - 1 = nI (2 ^ c - 1) := by
  rw [cf_shc c (by omega)]
  exact pk_sub (b := 1) (cf_p1 c)
theorem cf_alb {c i : Nat} (hi : i < 32) : bt (nI (2 ^ c - 1)) i = decide (i < c) := by
  rw [cf_nb hi, Nat.testBit_two_pow_sub_one]
def cf_po (T : Nat → Int32) (c : Nat) (s : Int32) : Bool := !(decide (cf_ts T c s = 0))
def cf_kn (T : Nat → Int32) (c : Nat) (s : Int32) : Bool := !cf_po T c s && cf_al (fun i => !bt s i || cf_po T c (s ^^^ ((1 : Int32) <<< (nI i &&& 31)))) c 0
def cf_ko (c : Nat) (s : Int32) : Int32 := nI (2 ^ c - 1) ^^^ s
def cf_co (T : Nat → Int32) (c : Nat) (s : Int32) : Bool := cf_po T c (cf_ko c s) && cf_al (fun i => !bt s i || !cf_po T c (cf_ko c s ||| ((1 : Int32) <<< (nI i &&& 31)))) c 0
theorem cf_sm_x {c i : Nat} {s : Int32} (hc : c ≤ 9) (hi : i < c) (h : cf_sm c s) : cf_sm c (s ^^^ ((1 : Int32) <<< (nI i &&& 31))) := by
  intro k hk
  rcases Nat.lt_or_ge k 32 with h32 | h32
  · rw [b_xor, h k hk, cf_one i (by omega) k h32, decide_eq_false (by omega)]; rfl
  · exact b_big h32
theorem cf_sm_o {c i : Nat} {s : Int32} (hc : c ≤ 9) (hi : i < c) (h : cf_sm c s) : cf_sm c (s ||| ((1 : Int32) <<< (nI i &&& 31))) := by
  intro k hk
  rcases Nat.lt_or_ge k 32 with h32 | h32
  · rw [b_or, h k hk, cf_one i (by omega) k h32, decide_eq_false (by omega)]; rfl
  · exact b_big h32
theorem cf_sm_k {c : Nat} {s : Int32} (h : cf_sm c s) : cf_sm c (cf_ko c s) := by
  intro k hk
  rcases Nat.lt_or_ge k 32 with h32 | h32
  · unfold cf_ko
    rw [b_xor, h k hk, cf_alb h32, decide_eq_false (by omega)]; rfl
  · exact b_big h32
theorem cf_xa {i : Nat} {s : Int32} (hi : i < 32) (h : bt s i = true) : s &&& (((1 : Int32) <<< (nI i &&& 31)) ^^^ (-1)) = s ^^^ ((1 : Int32) <<< (nI i &&& 31)) := by
  apply b_ext
  intro k hk
  rw [b_and, b_xor, b_xor, b_m1 k hk, cf_one i hi k hk]
  by_cases z : k = i
  · subst z
    rw [h, decide_eq_true rfl]; rfl
  · rw [decide_eq_false z]
    cases bt s k <;> rfl
theorem cf_ka {c : Nat} {s : Int32} (h : cf_sm c s) : nI (2 ^ c - 1) &&& (s ^^^ (-1)) = cf_ko c s := by
  apply b_ext
  intro k hk
  unfold cf_ko
  rw [b_and, b_xor, b_xor, b_m1 k hk, cf_alb hk]
  by_cases z : k < c
  · rw [decide_eq_true z]
    cases bt s k <;> rfl
  · rw [decide_eq_false z, h k (by omega)]; rfl
