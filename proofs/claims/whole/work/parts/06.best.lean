/-! own: there is a correction; all conditions together are none, if there are any; so the two searches find the same -/
theorem cf_po_i {T : Nat → Int32} {c : Nat} {s : Int32} : cf_po T c s = true ↔ ∃ n, n < 32 ∧ ∀ i, i < c → bt s i = true → bt (T i) n = true := by
  constructor
  · intro h
    have hz : ¬ cf_ts T c s = 0 := by
      intro z
      unfold cf_po at h
      rw [decide_eq_true z] at h
      exact Bool.noConfusion h
    obtain ⟨n, hn, e⟩ := cf_nz hz
    rw [cf_ts_b hn, cf_al_i] at e
    refine ⟨n, hn, fun i hi hb => ?_⟩
    have := e i (by omega) (by omega)
    rw [hb] at this
    exact this
  · intro ⟨n, hn, h⟩
    have e : bt (cf_ts T c s) n = true := by
      rw [cf_ts_b hn, cf_al_i]
      intro i _ hi
      cases hb : bt s i
      · rfl
      · rw [h i (by omega) hb]; rfl
    unfold cf_po
    by_cases z : cf_ts T c s = 0
    · rw [(cf_z _).mp z n hn] at e
      exact Bool.noConfusion e
    · rw [decide_eq_false z]; rfl
theorem cf_po_0 {T : Nat → Int32} {c : Nat} : cf_po T c 0 = true := cf_po_i.mpr ⟨0, by decide, fun i _ hb => by rw [b_0] at hb; exact Bool.noConfusion hb⟩
theorem cf_max {f : Nat → Bool} {N : Nat} : ∀ d j, j < N → N - j ≤ d → f j = true → ∃ m, m < N ∧ f m = true ∧ ∀ i, m < i → i < N → f i = false := by
  intro d
  induction d with
  | zero => intro j hj hd; exact absurd hd (by omega)
  | succ d ih =>
    intro j hj hd hf
    by_cases h : ∃ i, j < i ∧ i < N ∧ f i = true
    · obtain ⟨i, h1, h2, h3⟩ := h
      exact ih i h2 (by omega) h3
    · refine ⟨j, hj, hf, fun i h1 h2 => ?_⟩
      cases e : f i
      · rfl
      · exact absurd ⟨i, h1, h2, e⟩ h
theorem cf_kk {c : Nat} {s : Int32} : cf_ko c (cf_ko c s) = s := by
  unfold cf_ko
  rw [← Int32.xor_assoc, Int32.xor_self, Int32.zero_xor]
theorem cf_up {m i : Nat} (hm : m < 512) (hi : i < 9) (h : bt (nI m) i = false) {k : Nat} (hk : k < 512) (e : nI m ||| ((1 : Int32) <<< (nI i &&& 31)) = nI k) : m < k := by
  have tn : ∀ n, n < 512 → (nI n).toBitVec.toNat = n := fun n hn => Nat.mod_eq_of_lt (by omega)
  have e1 : m ≤ k := by
    have := congrArg (fun x : Int32 => x.toBitVec.toNat) e
    rw [Int32.toBitVec_or, BitVec.toNat_or, tn m hm, tn k hk] at this
    rw [← this]
    exact Nat.left_le_or
  have e2 : m ≠ k := by
    intro z
    subst z
    have : bt (nI m ||| ((1 : Int32) <<< (nI i &&& 31))) i = bt (nI m) i := by rw [e]
    rw [b_or, h, cf_one i (by omega) i (by omega), decide_eq_true rfl] at this
    exact Bool.noConfusion this
  omega
theorem cf_ex {T : Nat → Int32} {c : Nat} (hc : c ≤ 9) : ∃ j, j < 2 ^ c ∧ cf_co T c (nI j) = true := by
  have h9 := cf_p9 hc
  obtain ⟨m, hm, hp, hg⟩ := cf_max (f := fun j => cf_po T c (nI j)) (N := 2 ^ c) (2 ^ c) 0 (cf_p1 c) (Nat.sub_le _ _) cf_po_0
  have hs : cf_sm c (nI m) := cf_sm_n hm
  obtain ⟨j, hj, e⟩ := cf_sm_j (cf_sm_k hs)
  refine ⟨j, hj, ?_⟩
  rw [← e]
  unfold cf_co
  rw [cf_kk, Bool.and_eq_true, cf_al_i]
  refine ⟨hp, fun i _ hi => ?_⟩
  cases hb : bt (cf_ko c (nI m)) i
  · rfl
  · have hbm : bt (nI m) i = false := by
      unfold cf_ko at hb
      rw [b_xor, cf_alb (by omega), decide_eq_true (by omega : i < c)] at hb
      cases h : bt (nI m) i
      · rfl
      · rw [h] at hb; exact Bool.noConfusion hb
    obtain ⟨k, hk, e2⟩ := cf_sm_j (cf_sm_o (i := i) hc (by omega) hs)
    have := hg k (cf_up (by omega) (by omega) hbm (by omega) e2) hk
    rw [e2, this]
    rfl
theorem cf_top {T : Nat → Int32} {c : Nat} (hc : c ≤ 9) (h0 : 0 < c) (hT : ¬ T 0 = 0) : cf_co T c (nI (2 ^ c - 1)) = false := by
  cases h : cf_co T c (nI (2 ^ c - 1))
  · rfl
  · exfalso
    unfold cf_co at h
    rw [Bool.and_eq_true, cf_al_i] at h
    have h2 := h.2 0 (by omega) (by omega)
    have ek : cf_ko c (nI (2 ^ c - 1)) = 0 := by unfold cf_ko; exact Int32.xor_self
    rw [cf_alb (by decide), decide_eq_true h0, ek] at h2
    have h3 : cf_po T c (0 ||| ((1 : Int32) <<< (nI 0 &&& 31))) = true := by
      obtain ⟨n, hn, e⟩ := cf_nz hT
      refine cf_po_i.mpr ⟨n, hn, fun i hi hb => ?_⟩
      rw [b_or, b_0, cf_one 0 (by decide) i (by omega), Bool.false_or, decide_eq_true_eq] at hb
      rw [hb]; exact e
    rw [h3] at h2
    exact Bool.noConfusion h2
/-- the cost, as a natural -/
def cf_wn (P : Nat → Int32) (s : Int32) : Nat → Nat → Nat → Nat
  | 0, _, a => a
  | d + 1, j, a => cf_wn P s d (j + 1) (if bt s j then a + (P j).toNatClampNeg else a)
theorem cf_wn_i {P : Nat → Int32} {s : Int32} : ∀ d j a, (∀ i, j ≤ i → i < j + d → P i = nI (P i).toNatClampNeg) → cf_fo (fun i a => if bt s i then a + P i else a) d j (nI a) = nI (cf_wn P s d j a) := by
  intro d
  induction d with
  | zero => intro j a _; rfl
  | succ d ih =>
    intro j a h
    show cf_fo (fun i a => if bt s i then a + P i else a) d (j + 1) (if bt s j then nI a + P j else nI a) = nI (cf_wn P s d (j + 1) (if bt s j then a + (P j).toNatClampNeg else a))
    rw [← ih (j + 1) _ (fun i h1 h2 => h i (by omega) (by omega))]
    cases bt s j
    · rfl
    · rw [if_pos rfl, if_pos rfl, ← nI_add, ← h j (by omega) (by omega)]
theorem cf_wn_b {P : Nat → Int32} {s : Int32} : ∀ d j a, (∀ i, j ≤ i → i < j + d → (P i).toNatClampNeg ≤ 20) → cf_wn P s d j a ≤ a + 20 * d := by
  intro d
  induction d with
  | zero => intro j a _; exact Nat.le_refl _
  | succ d ih =>
    intro j a h
    have hj := h j (by omega) (by omega)
    have := ih (j + 1) (if bt s j then a + (P j).toNatClampNeg else a) (fun i h1 h2 => h i (by omega) (by omega))
    show cf_wn P s d (j + 1) (if bt s j then a + (P j).toNatClampNeg else a) ≤ _
    have h2 : (if bt s j then a + (P j).toNatClampNeg else a) ≤ a + 20 := by split <;> omega
    omega
theorem cf_wn_l {P : Nat → Int32} {s s' : Int32} : ∀ d j a a', (∀ i, j ≤ i → i < j + d → bt s' i = true ∧ 1 ≤ (P i).toNatClampNeg) → a ≤ a' → (a < a' ∨ ∃ i, j ≤ i ∧ i < j + d ∧ bt s i = false) → cf_wn P s d j a < cf_wn P s' d j a' := by
  intro d
  induction d with
  | zero =>
    intro j a a' _ _ h
    rcases h with h | ⟨i, h1, h2, _⟩
    · exact h
    · exact absurd h1 (by omega)
  | succ d ih =>
    intro j a a' h hle hor
    have hj := h j (by omega) (by omega)
    show cf_wn P s d (j + 1) (if bt s j then a + (P j).toNatClampNeg else a) < cf_wn P s' d (j + 1) (if bt s' j then a' + (P j).toNatClampNeg else a')
    rw [hj.1, if_pos rfl]
    apply ih (j + 1) _ _ (fun i h1 h2 => h i (by omega) (by omega))
    · split <;> omega
    · rcases hor with hlt | ⟨i, h1, h2, h3⟩
      · left; split <;> omega
      · by_cases z : i = j
        · left
          rw [z] at h3
          rw [h3, if_neg (by decide)]
          omega
        · right
          exact ⟨i, by omega, by omega, h3⟩
def cf_pr (c : Nat) (P : Nat → Int32) : Prop := ∀ i, i < c → ∃ p, 1 ≤ p ∧ p ≤ 20 ∧ P i = nI p
theorem cf_pr_n {c : Nat} {P : Nat → Int32} (h : cf_pr c P) {i : Nat} (hi : i < c) : 1 ≤ (P i).toNatClampNeg ∧ (P i).toNatClampNeg ≤ 20 ∧ P i = nI (P i).toNatClampNeg := by
  obtain ⟨p, h1, h2, e⟩ := h i hi
  rw [e, nI_clamp (by omega)]
  exact ⟨h1, h2, rfl⟩
theorem cf_lt {c : Nat} {P : Nat → Int32} (hc : c ≤ 9) (hP : cf_pr c P) {j : Nat} (hj : j < 2 ^ c - 1) : ¬ cf_wo P c (nI (2 ^ c - 1)) ≤ cf_wo P c (nI j) := by
  have h9 := cf_p9 hc
  have hi : ∃ i, i < c ∧ bt (nI j) i = false := by
    apply Classical.byContradiction
    intro hn
    have e : nI j = nI (2 ^ c - 1) := by
      apply b_ext
      intro k hk
      rw [cf_alb hk]
      by_cases z : k < c
      · rw [decide_eq_true z]
        cases h : bt (nI j) k
        · exact absurd ⟨k, z, h⟩ hn
        · rfl
      · rw [decide_eq_false z]
        exact cf_sm_n (c := c) (by omega) k (by omega)
    rw [nI_eq (by omega) (by omega)] at e
    omega
  obtain ⟨i, hi, hb⟩ := hi
  have w : ∀ s, cf_wo P c s = nI (cf_wn P s c 0 0) := fun s => cf_wn_i c 0 0 (fun i _ h => (cf_pr_n hP (by omega)).2.2)
  have b : ∀ s, cf_wn P s c 0 0 ≤ 0 + 20 * c := fun s => cf_wn_b c 0 0 (fun i _ h => (cf_pr_n hP (by omega)).2.1)
  have b1 := b (nI j)
  have b2 := b (nI (2 ^ c - 1))
  rw [w, w, nI_leI (by omega) (by omega)]
  have := cf_wn_l (P := P) (s := nI j) (s' := nI (2 ^ c - 1)) c 0 0 0 (fun i _ h => ⟨by rw [cf_alb (by omega), decide_eq_true (by omega)], (cf_pr_n hP (by omega)).1⟩) (Nat.le_refl _) (Or.inr ⟨i, by omega, by omega, hb⟩)
  omega
theorem cf_sea {f : Nat → Bool} {w : Int32 → Int32} {A : Nat} (hA : A < 512) (hw : ∀ j, j < A → ¬ w (nI A) ≤ w (nI j)) (hf : (f A = false ∧ ∃ j, j < A ∧ f j = true) ∨ (A = 0 ∧ f 0 = true)) : ∀ d j b p b', j + d = A → ((b' = -1 ∧ b = nI A ∧ p = w (nI A) ∧ ∀ i, i < j → f i = false) ∨ (∃ m, m < j ∧ b' = nI m ∧ b = nI m ∧ p = w (nI m))) → cf_yb f w (d + 1) j b' = cf_xb f w d j b p := by
  intro d
  induction d with
  | zero =>
    intro j b p b' hj hR
    have hj : j = A := hj
    subst hj
    show (if f j then (if b' < 0 then nI j else if w b' ≤ w (nI j) then b' else nI j) else b') = b
    rcases hf with ⟨hf, i, hi, hfi⟩ | ⟨h0, hf⟩
    · rw [hf, if_neg (by decide)]
      rcases hR with ⟨_, _, _, h⟩ | ⟨m, _, h1, h2, _⟩
      · rw [h i hi] at hfi
        exact Bool.noConfusion hfi
      · rw [h1, h2]
    · subst h0
      rw [hf, if_pos rfl]
      rcases hR with ⟨h1, h2, _⟩ | ⟨m, hm, _⟩
      · rw [h1, h2, if_pos (by decide)]
      · exact absurd hm (by omega)
  | succ d ih =>
    intro j b p b' hj hR
    show (if f j then (if b' < 0 then cf_yb f w (d + 1) (j + 1) (nI j) else if w b' ≤ w (nI j) then cf_yb f w (d + 1) (j + 1) b' else cf_yb f w (d + 1) (j + 1) (nI j)) else cf_yb f w (d + 1) (j + 1) b') = (if p ≤ w (nI j) then cf_xb f w d (j + 1) b p else if f j then cf_xb f w d (j + 1) (nI j) (w (nI j)) else cf_xb f w d (j + 1) b p)
    have keep : ((b' = -1 ∧ b = nI A ∧ p = w (nI A) ∧ ∀ i, i < j + 1 → f i = false) ∨ (∃ m, m < j + 1 ∧ b' = nI m ∧ b = nI m ∧ p = w (nI m))) → cf_yb f w (d + 1) (j + 1) b' = cf_xb f w d (j + 1) b p := fun h => ih (j + 1) b p b' (by omega) h
    have take : cf_yb f w (d + 1) (j + 1) (nI j) = cf_xb f w d (j + 1) (nI j) (w (nI j)) := ih (j + 1) _ _ _ (by omega) (Or.inr ⟨j, by omega, rfl, rfl, rfl⟩)
    cases e : f j
    · rw [if_neg (show ¬ (false = true) by decide), if_neg (show ¬ (false = true) by decide)]
      have k := keep (by
        rcases hR with ⟨h1, h2, h3, h4⟩ | ⟨m, hm, h1, h2, h3⟩
        · refine Or.inl ⟨h1, h2, h3, fun i hi => ?_⟩
          by_cases z : i = j
          · rw [z]; exact e
          · exact h4 i (by omega)
        · exact Or.inr ⟨m, by omega, h1, h2, h3⟩)
      rw [k]
      split <;> rfl
    · rw [if_pos rfl, if_pos rfl]
      rcases hR with ⟨h1, h2, h3, h4⟩ | ⟨m, hm, h1, h2, h3⟩
      · rw [h1, if_pos (by decide), h3, if_neg (hw j (by omega))]
        exact take
      · have k := keep (Or.inr ⟨m, by omega, h1, h2, h3⟩)
        have hn : ¬ b' < 0 := by rw [h1]; exact nI_pos (by omega)
        rw [if_neg hn]
        by_cases z : w (nI m) ≤ w (nI j)
        · rw [if_pos (by rw [h1]; exact z), if_pos (by rw [h3]; exact z)]
          exact k
        · rw [if_neg (by rw [h1]; exact z), if_neg (by rw [h3]; exact z)]
          exact take
theorem cf_best {T P : Nat → Int32} {c : Nat} (hc : c ≤ 9) (hP : cf_pr c P) (hT : ∀ i, i < c → ¬ T i = 0) : cf_yb (fun j => cf_co T c (nI j)) (cf_wo P c) (2 ^ c) 0 (-1) = cf_xb (fun j => cf_co T c (nI j)) (cf_wo P c) (2 ^ c - 1) 0 (nI (2 ^ c - 1)) (cf_wo P c (nI (2 ^ c - 1))) := by
  have h9 := cf_p9 hc
  have h1 := cf_p1 c
  have hf : (cf_co T c (nI (2 ^ c - 1)) = false ∧ ∃ j, j < 2 ^ c - 1 ∧ cf_co T c (nI j) = true) ∨ (2 ^ c - 1 = 0 ∧ cf_co T c (nI 0) = true) := by
    obtain ⟨j, hj, e⟩ := cf_ex (T := T) hc
    by_cases z : c = 0
    · subst z
      have : j = 0 := by omega
      subst this
      exact Or.inr ⟨rfl, e⟩
    · have ht := cf_top hc (by omega) (hT 0 (by omega))
      refine Or.inl ⟨ht, j, ?_, e⟩
      have : j ≠ 2 ^ c - 1 := by
        intro y
        rw [y, ht] at e
        exact Bool.noConfusion e
      omega
  have := cf_sea (f := fun j => cf_co T c (nI j)) (w := cf_wo P c) (A := 2 ^ c - 1) (by omega) (fun j hj => cf_lt hc hP hj) hf (2 ^ c - 1) 0 (nI (2 ^ c - 1)) (cf_wo P c (nI (2 ^ c - 1))) (-1) (by omega) (Or.inl ⟨rfl, rfl, rfl, fun i hi => absurd hi (by omega)⟩)
  rw [show 2 ^ c - 1 + 1 = 2 ^ c by omega] at this
  exact this
