section
theorem pk_us {f : Nat → Int32} {k : Nat} {x : Int32} : upd f k x k = x := if_pos rfl
theorem pk_un {f : Nat → Int32} {k j : Nat} {x : Int32} (h : j ≠ k) : upd f k x j = f j := if_neg h
theorem pk_sub {a b : Nat} (h : b ≤ a) : nI a - nI b = nI (a - b) := by
  obtain ⟨c, rfl⟩ : ∃ c, a = c + b := ⟨a - b, by omega⟩
  rw [← nI_add, Int32.add_sub_cancel, Nat.add_sub_cancel]
theorem pk_mul (a b : Nat) : nI a * nI b = nI (a * b) := (Int32.ofNat_mul a b).symm
theorem pk_ix (x : Int32) {n : Nat} (hn : n < 2 ^ 31) : x < 0 ∨ nI n ≤ x ∨ ∃ j : Nat, j < n ∧ x = nI j := by
  by_cases h : x < 0
  · exact Or.inl h
  · obtain ⟨j, hj, rfl⟩ := nI_of h
    by_cases h2 : j < n
    · exact Or.inr (Or.inr ⟨j, h2, rfl⟩)
    · exact Or.inr (Or.inl (nI_le (by omega) hj))
theorem pk_le {x y : Int32} {A B : Prop} (a b : Nat) (f : a ≤ b → A) (g : b < a → B) (hx : x = nI a := by rfl) (hy : y = nI b := by rfl) (ha : a < 2 ^ 31 := by omega) (hb : b < 2 ^ 31 := by omega) : (x ≤ y → A) ∧ (¬ x ≤ y → B) := by
  subst hx hy
  rw [nI_leI ha hb]
  exact ⟨f, fun z => g (by omega)⟩
theorem pk_lt {x y : Int32} {A B : Prop} (a b : Nat) (f : a < b → A) (g : b ≤ a → B) (hx : x = nI a := by rfl) (hy : y = nI b := by rfl) (ha : a < 2 ^ 31 := by omega) (hb : b < 2 ^ 31 := by omega) : (x < y → A) ∧ (¬ x < y → B) := by
  subst hx hy
  rw [nI_ltI ha hb]
  exact ⟨f, fun z => g (by omega)⟩
theorem pk_eq {x y : Int32} {A B : Prop} (a b : Nat) (f : a = b → A) (g : a ≠ b → B) (hx : x = nI a := by rfl) (hy : y = nI b := by rfl) (ha : a < 2 ^ 31 := by omega) (hb : b < 2 ^ 31 := by omega) : (x = y → A) ∧ (¬ x = y → B) := by
  subst hx hy
  rw [nI_eq ha hb]
  exact ⟨f, g⟩
theorem pk_in {x : Int32} (n N : Nat) (h : n < N) (hx : x = nI n := by rfl) (hN : N < 2 ^ 31 := by omega) : vp_in x N := by
  subst hx
  exact vp_in_nI h hN
theorem pk_cl {x : Int32} (n : Nat) (hx : x = nI n := by rfl) (h : n < 2 ^ 31 := by omega) : x.toNatClampNeg = n := by
  subst hx
  exact nI_clamp h
theorem pk_tn {n : Nat} (h : n < 2 ^ 32) : (nI n).toBitVec.toNat = n := Nat.mod_eq_of_lt h
theorem pk_and (x : Int32) {m : Int32} (k : Nat) (hm : m.toBitVec.toNat = 2 ^ k - 1) : x &&& m = nI (x.toBitVec.toNat % 2 ^ k) := by
  apply Int32.toBitVec_inj.mp
  apply BitVec.eq_of_toNat_eq
  rw [Int32.toBitVec_and, BitVec.toNat_and, hm, Nat.and_two_pow_sub_one_eq_mod]
  show _ = (BitVec.ofNat 32 _).toNat
  rw [BitVec.toNat_ofNat]
  exact (Nat.mod_eq_of_lt (Nat.lt_of_le_of_lt (Nat.mod_le _ _) x.toBitVec.isLt)).symm
theorem pk_andE (x : Int32) {m : Int32} (k : Nat) (hm : m.toBitVec.toNat = 2 ^ k - 1) : ∃ j : Nat, j < 2 ^ k ∧ x &&& m = nI j := ⟨_, Nat.mod_lt _ (Nat.two_pow_pos k), pk_and x k hm⟩
theorem pk_shr (a s : Int32) (k : Nat) (hs : (s.toBitVec.smod 32).toNat = k) : (a >>> s).toInt = a.toInt >>> k := by
  show (a.toBitVec.sshiftRight (s.toBitVec.smod 32).toNat).toInt = _
  rw [hs, BitVec.toInt_sshiftRight]
  rfl
def bt (x : Int32) (i : Nat) : Bool := x.toBitVec.getLsbD i
theorem b_ext {x y : Int32} (h : ∀ i, i < 32 → bt x i = bt y i) : x = y := Int32.toBitVec_inj.mp (BitVec.eq_of_getLsbD_eq (fun i hi => h i hi))
theorem b_or (x y : Int32) (i : Nat) : bt (x ||| y) i = (bt x i || bt y i) := by unfold bt; rw [Int32.toBitVec_or, BitVec.getLsbD_or]
theorem b_and (x y : Int32) (i : Nat) : bt (x &&& y) i = (bt x i && bt y i) := by unfold bt; rw [Int32.toBitVec_and, BitVec.getLsbD_and]
theorem b_big {x : Int32} {i : Nat} (h : 32 ≤ i) : bt x i = false := BitVec.getLsbD_of_ge _ _ h
theorem b_0 (i : Nat) : bt 0 i = false := BitVec.getLsbD_zero
theorem s_l : ∀ n, n < 32 → ((nI n &&& 31).toBitVec.smod 32).toNat = n := by decide +kernel
theorem b_shl (n : Nat) (hn : n < 32) (x : Int32) {i : Nat} (hi : i < 32) : bt (x <<< (nI n &&& 31)) i = (decide (n ≤ i) && bt x (i - n)) := by
  unfold bt
  rw [Int32.toBitVec_shiftLeft]
  show (x.toBitVec <<< ((nI n &&& 31).toBitVec.smod 32).toNat).getLsbD i = _
  rw [s_l n hn, BitVec.getLsbD_shiftLeft]
  rcases Nat.lt_or_ge i n with h | h
  · simp [h, Nat.not_le.mpr h]
  · simp [hi, h, Nat.not_lt.mpr h]
theorem b_sshr (n : Nat) (hn : n < 32) (x : Int32) {i : Nat} (hi : i < 32) : bt (x >>> (nI n &&& 31)) i = if n + i < 32 then bt x (n + i) else bt x 31 := by
  unfold bt
  rw [Int32.toBitVec_shiftRight]
  show (x.toBitVec.sshiftRight ((nI n &&& 31).toBitVec.smod 32).toNat).getLsbD i = _
  rw [s_l n hn, BitVec.getLsbD_sshiftRight, BitVec.msb_eq_getLsbD_last]
  simp [hi]
/-! small rows of this claim -/
theorem qd_bt1 : ∀ i, i < 32 → bt 1 i = decide (i = 0) := by decide +kernel
theorem qd_bit (x : Int32) {j : Nat} (hj : j < 32) : ((x >>> (nI j &&& 31)) &&& 1) = 1 ↔ bt x j = true := by
  have e : bt (x >>> (nI j &&& 31)) 0 = bt x j := by
    rw [b_sshr j hj x (by omega), if_pos (by omega)]; rfl
  constructor
  · intro h
    have h2 := congrArg (fun y => bt y 0) h
    rw [b_and, e, qd_bt1 0 (by omega)] at h2
    simpa using h2
  · intro h
    apply b_ext
    intro i hi
    rw [b_and, qd_bt1 i hi]
    by_cases hz : i = 0
    · subst hz; rw [e, h]; rfl
    · simp [hz]
theorem qd_one {a j : Nat} (ha : a < 32) (hj : j < 32) : bt ((1 : Int32) <<< (nI a &&& 31)) j = decide (a = j) := by
  rw [b_shl a ha 1 hj, qd_bt1 (j - a) (by omega)]
  by_cases h : a = j
  · subst h; simp
  · rw [decide_eq_false h]
    by_cases h2 : a ≤ j
    · rw [decide_eq_false (show ¬ j - a = 0 by omega), Bool.and_false]
    · rw [decide_eq_false h2, Bool.false_and]
theorem qd_mask : ∀ n, n < 21 → ∀ j, j < 32 → bt (((1 : Int32) <<< (nI n &&& 31)) - 1) j = decide (j < n) := by decide +kernel
theorem qd_nar1 : vp_nar .boolean 1 = 1 := by decide +kernel
theorem qd_nar0 : vp_nar .boolean 0 = 0 := by decide +kernel
theorem qd_nb0 : narrow .boolean (.int 0) = .int 0 := by rfl
theorem qd_nb1 : narrow .boolean (.int 1) = .int 1 := by rfl
/-- the natural number that an entry holds -/
def qd_c (f : Nat → Int32) (i : Nat) : Nat := (f i).toNatClampNeg
/-- within sixteen signed bits -/
def qd_in (x : Int32) : Prop := -32768 ≤ x.toInt ∧ x.toInt ≤ 32767
theorem qd_in0 : qd_in 0 := by unfold qd_in; decide
theorem qd_ofI {x : Int32} {lo hi : Int32} (h1 : ¬ x < lo) (h2 : ¬ hi < x) : lo.toInt ≤ x.toInt ∧ x.toInt ≤ hi.toInt := by
  rw [Int32.lt_iff_toInt_lt] at h1 h2
  omega
end
section
/-! counting, the order of placing, the closure by stages: no walk here -/
def qd_cn (f : Nat → Bool) : Nat → Nat
  | 0 => 0
  | n + 1 => qd_cn f n + (if f n = true then 1 else 0)
theorem qd_cn_le (f : Nat → Bool) : ∀ n, qd_cn f n ≤ n := by
  intro n
  induction n with
  | zero => exact Nat.le_refl 0
  | succ n ih => unfold qd_cn; split <;> omega
theorem qd_cn_all (f : Nat → Bool) : ∀ n, (∀ i, i < n → f i = true) → qd_cn f n = n := by
  intro n
  induction n with
  | zero => intro _; rfl
  | succ n ih =>
    intro h
    unfold qd_cn
    rw [ih (fun i hi => h i (by omega)), if_pos (h n (by omega))]
theorem qd_cn_full (f : Nat → Bool) : ∀ n, qd_cn f n = n → ∀ i, i < n → f i = true := by
  intro n
  induction n with
  | zero => intro _ i hi; omega
  | succ n ih =>
    intro h i hi
    unfold qd_cn at h
    have h2 := qd_cn_le f n
    by_cases hn : f n = true
    · rw [if_pos hn] at h
      by_cases he : i = n
      · rw [he]; exact hn
      · exact ih (by omega) i (by omega)
    · rw [if_neg hn] at h; omega
theorem qd_cn_mono {f g : Nat → Bool} : ∀ n, (∀ i, i < n → f i = true → g i = true) → qd_cn f n ≤ qd_cn g n := by
  intro n
  induction n with
  | zero => intro _; exact Nat.le_refl 0
  | succ n ih =>
    intro h
    have h1 := ih (fun i hi => h i (by omega))
    unfold qd_cn
    by_cases hf : f n = true
    · rw [if_pos hf, if_pos (h n (by omega) hf)]; omega
    · rw [if_neg hf]; omega
theorem qd_cn_lt {f g : Nat → Bool} {j : Nat} (hf : f j = false) (hg : g j = true) : ∀ n, j < n → (∀ i, i < n → f i = true → g i = true) → qd_cn f n < qd_cn g n := by
  intro n
  induction n with
  | zero => intro h; omega
  | succ n ih =>
    intro hj h
    unfold qd_cn
    by_cases he : j = n
    · subst he
      have := qd_cn_mono j (f := f) (g := g) (fun i hi => h i (by omega))
      rw [hf, hg, if_pos rfl]
      simp only [Bool.false_eq_true, if_false]
      omega
    · have h1 := ih (by omega) (fun i hi => h i (by omega))
      by_cases hf2 : f n = true
      · rw [if_pos hf2, if_pos (h n (by omega) hf2)]; omega
      · rw [if_neg hf2]; omega
theorem qd_cn_eq {f g : Nat → Bool} : ∀ n, (∀ i, i < n → f i = g i) → qd_cn f n = qd_cn g n := by
  intro n
  induction n with
  | zero => intro _; rfl
  | succ n ih =>
    intro h
    unfold qd_cn
    rw [ih (fun i hi => h i (by omega)), h n (by omega)]
theorem qd_cn_set {f g : Nat → Bool} {j : Nat} (hf : f j = false) (hg : g j = true) : ∀ n, j < n → (∀ i, i < n → i ≠ j → g i = f i) → qd_cn g n = qd_cn f n + 1 := by
  intro n
  induction n with
  | zero => intro h; omega
  | succ n ih =>
    intro hj h
    unfold qd_cn
    by_cases he : j = n
    · subst he
      rw [qd_cn_eq j (f := g) (g := f) (fun i hi => h i (by omega) (by omega)), hf, hg, if_pos rfl]
      simp
    · rw [ih (by omega) (fun i hi h2 => h i (by omega) h2), h n (by omega) (by omega)]; omega
/-- node i names node j in the same sample -/
def qd_need (K A B T TN : Nat → Int32) (i j : Nat) : Prop :=
  (3 ≤ qd_c K i ∧ qd_c K i ≤ 9 ∧ qd_c A i = j) ∨ (3 ≤ qd_c K i ∧ qd_c K i ≤ 5 ∧ qd_c B i = j) ∨ (∃ t, t < qd_c T i ∧ qd_c TN (6 * i + t) = j)
/-- what node i holds is as node and tap let it be -/
def qd_ok (K A B T TN TC : Nat → Int32) (i : Nat) : Prop :=
  (K i = nI (qd_c K i) ∧ qd_c K i ≤ 10) ∧
  (2 ≤ qd_c K i → qd_c K i ≤ 9 → A i = nI (qd_c A i) ∧ qd_c A i < 20) ∧
  (3 ≤ qd_c K i → qd_c K i ≤ 5 → B i = nI (qd_c B i) ∧ qd_c B i < 20) ∧
  (T i = nI (qd_c T i) ∧ qd_c T i ≤ 6 ∧ (qd_c K i ≠ 10 → qd_c T i = 0)) ∧
  (∀ t, t < qd_c T i → TN (6 * i + t) = nI (qd_c TN (6 * i + t)) ∧ qd_c TN (6 * i + t) < 20 ∧ qd_in (TC (6 * i + t))) ∧
  (qd_c K i = 1 → qd_in (A i))
def qd_WF (n : Nat) (K A B T TN TC : Nat → Int32) : Prop := n ≤ 20 ∧ ∀ i, i < n → qd_ok K A B T TN TC i
/-- the order so far: p nodes, each once, each behind what it needs -/
def qd_Or (R : Nat → Nat → Prop) (n p : Nat) (ord pl : Nat → Int32) : Prop :=
  p = qd_cn (fun i => decide (¬ pl i = 0)) n ∧
  (∀ i, i < n → ¬ pl i = 0 → ∃ k, k < p ∧ ord k = nI i) ∧
  (∀ k, k < p → ∃ i, i < n ∧ ord k = nI i ∧ ¬ pl i = 0 ∧ ∀ j, j < n → R i j → ∃ q, q < k ∧ ord q = nI j) ∧
  (∀ k q, k < p → q < p → ord k = ord q → k = q)
/-- no node left is ready -/
def qd_Cl (R : Nat → Nat → Prop) (n : Nat) (pl : Nat → Int32) : Prop :=
  ∀ i, i < n → pl i = 0 → ∃ j, j < n ∧ R i j ∧ pl j = 0
theorem qd_Or_p {R : Nat → Nat → Prop} {n p : Nat} {ord pl : Nat → Int32} (h : qd_Or R n p ord pl) : p ≤ n := by
  rw [h.1]; exact qd_cn_le _ n
theorem qd_Or_0 (R : Nat → Nat → Prop) (n : Nat) (ord pl : Nat → Int32) (h : ∀ i, i < n → pl i = 0) : qd_Or R n 0 ord pl := by
  refine ⟨?_, fun i hi hp => absurd (h i hi) hp, fun k hk => by omega, fun k q hk => by omega⟩
  have e : qd_cn (fun i => decide (¬ pl i = 0)) n = qd_cn (fun _ => false) n := qd_cn_eq n (fun i hi => by simp [h i hi])
  have z : ∀ m, qd_cn (fun _ => false) m = 0 := by
    intro m
    induction m with
    | zero => rfl
    | succ m ih => unfold qd_cn; rw [ih]; simp
  rw [e, z]
/-- one more node, when all that it needs has been placed -/
theorem qd_Or_s {R : Nat → Nat → Prop} {n p i : Nat} {ord pl : Nat → Int32} (h : qd_Or R n p ord pl) (hn : n ≤ 20) (hi : i < n) (hz : pl i = 0) (hr : ∀ j, j < n → R i j → ¬ pl j = 0) : qd_Or R n (p + 1) (upd ord p (nI i)) (upd pl i 1) := by
  obtain ⟨h1, h2, h3, h4⟩ := h
  have kp : ∀ k, k < p → upd ord p (nI i) k = ord k := fun k hk => pk_un (by omega)
  have kn : ∀ k, k < p → ord k ≠ nI i := by
    intro k hk e
    obtain ⟨j, hj, e2, hpj, _⟩ := h3 k hk
    rw [e2, nI_eq (by omega) (by omega)] at e
    subst e
    exact hpj hz
  refine ⟨?_, ?_, ?_, ?_⟩
  · rw [h1]
    refine (qd_cn_set (j := i) ?_ ?_ n hi ?_).symm
    · simp [hz]
    · show decide (¬ upd pl i 1 i = 0) = true
      rw [pk_us]; decide
    · intro j _ hji
      show decide (¬ upd pl i 1 j = 0) = decide (¬ pl j = 0)
      rw [pk_un hji]
  · intro j hj hpj
    by_cases e : j = i
    · subst e; exact ⟨p, by omega, pk_us⟩
    · rw [pk_un e] at hpj
      obtain ⟨k, hk, ek⟩ := h2 j hj hpj
      exact ⟨k, by omega, by rw [kp k hk]; exact ek⟩
  · intro k hk
    by_cases e : k = p
    · subst e
      refine ⟨i, hi, pk_us, ?_, ?_⟩
      · rw [pk_us]; decide
      · intro j hj hij
        obtain ⟨q, hq, eq⟩ := h2 j hj (hr j hj hij)
        exact ⟨q, hq, by rw [kp q hq]; exact eq⟩
    · have hk' : k < p := by omega
      obtain ⟨j, hj, e2, hpj, hb⟩ := h3 k hk'
      refine ⟨j, hj, by rw [kp k hk']; exact e2, ?_, ?_⟩
      · by_cases e : j = i
        · rw [e, pk_us]; decide
        · rw [pk_un e]; exact hpj
      · intro m hm hjm
        obtain ⟨q, hq, eq⟩ := hb m hm hjm
        exact ⟨q, hq, by rw [kp q (by omega)]; exact eq⟩
  · intro k q hk hq e
    by_cases ek : k = p
    · by_cases eq : q = p
      · omega
      · rw [ek, pk_us, kp q (by omega)] at e
        exact absurd e.symm (kn q (by omega))
    · by_cases eq : q = p
      · rw [eq, pk_us, kp k (by omega)] at e
        exact absurd e (kn k (by omega))
      · rw [kp k (by omega), kp q (by omega)] at e
        exact h4 k q (by omega) (by omega) e
/-- what the closure by stages has when the middles below m are through -/
def qd_Wa (R : Nat → Nat → Prop) (n m : Nat) (nm : Nat → Int32) : Prop :=
  (∀ i j, i < n → j < n → R i j → bt (nm i) j = true) ∧
  (∀ q i j, q < m → i < n → j < n → bt (nm i) q = true → bt (nm q) j = true → bt (nm i) j = true) ∧
  (∀ L : Nat → Nat → Prop, (∀ i j, i < n → j < n → R i j → L i j) → (∀ i j k, L i j → L j k → L i k) → ∀ i j, i < n → j < n → bt (nm i) j = true → L i j)
/-- the rows below i have taken row m's -/
def qd_St (n m i : Nat) (nm0 nm : Nat → Int32) : Prop :=
  (∀ a j, a < n → a < i → j < n → bt (nm a) j = (bt (nm0 a) j || (bt (nm0 a) m && bt (nm0 m) j))) ∧
  (∀ a, a < n → i ≤ a → nm a = nm0 a)
theorem qd_St_m {n m i : Nat} {nm0 nm : Nat → Int32} (h : qd_St n m i nm0 nm) (hm : m < n) {j : Nat} (hj : j < n) : bt (nm m) j = bt (nm0 m) j := by
  by_cases e : m < i
  · rw [h.1 m j hm e hj]
    cases bt (nm0 m) j <;> cases bt (nm0 m) m <;> rfl
  · rw [h.2 m hm (by omega)]
theorem qd_St_s {n m i : Nat} {nm0 nm : Nat → Int32} (h : qd_St n m i nm0 nm) (hm : m < n) (hi : i < n) (hb : bt (nm i) m = true) : qd_St n m (i + 1) nm0 (upd nm i (nm i ||| nm m)) := by
  have e0 : nm i = nm0 i := h.2 i hi (by omega)
  refine ⟨fun a j ha hai hj => ?_, fun a ha hai => ?_⟩
  · by_cases e : a = i
    · subst e
      rw [pk_us, b_or, qd_St_m h hm hj, e0]
      rw [e0] at hb
      rw [hb, Bool.true_and]
    · rw [pk_un e]; exact h.1 a j ha (by omega) hj
  · rw [pk_un (by omega)]; exact h.2 a ha (by omega)
theorem qd_St_n {n m i : Nat} {nm0 nm : Nat → Int32} (h : qd_St n m i nm0 nm) (hi : i < n) (hb : ¬ bt (nm i) m = true) : qd_St n m (i + 1) nm0 nm := by
  have e0 : nm i = nm0 i := h.2 i hi (by omega)
  refine ⟨fun a j ha hai hj => ?_, fun a ha hai => h.2 a ha (by omega)⟩
  by_cases e : a = i
  · subst e
    rw [e0] at hb
    have hb' : bt (nm0 a) m = false := by simpa using hb
    rw [e0, hb', Bool.false_and, Bool.or_false]
  · exact h.1 a j ha (by omega) hj
theorem qd_Wa_s {R : Nat → Nat → Prop} {n m : Nat} {nm0 nm : Nat → Int32} (h : qd_Wa R n m nm0) (hm : m < n) (hs : qd_St n m n nm0 nm) : qd_Wa R n (m + 1) nm := by
  have f : ∀ a j, a < n → j < n → (bt (nm a) j = true ↔ (bt (nm0 a) j = true ∨ (bt (nm0 a) m = true ∧ bt (nm0 m) j = true))) := by
    intro a j ha hj
    rw [hs.1 a j ha ha hj, Bool.or_eq_true, Bool.and_eq_true]
  obtain ⟨h1, h2, h3⟩ := h
  refine ⟨fun i j hi hj hr => (f i j hi hj).mpr (Or.inl (h1 i j hi hj hr)), ?_, ?_⟩
  · intro q i j hq hi hj a b
    rw [f i q hi (by omega)] at a
    rw [f q j (by omega) hj] at b
    rw [f i j hi hj]
    by_cases e : q = m
    · subst e
      have a' : bt (nm0 i) q = true := a.elim id (fun z => z.1)
      have b' : bt (nm0 q) j = true := b.elim id (fun z => z.2)
      exact Or.inr ⟨a', b'⟩
    · have hq' : q < m := by omega
      rcases a with a | ⟨a1, a2⟩
      · rcases b with b | ⟨b1, b2⟩
        · exact Or.inl (h2 q i j hq' hi hj a b)
        · exact Or.inr ⟨h2 q i m hq' hi hm a b1, b2⟩
      · rcases b with b | ⟨b1, b2⟩
        · exact Or.inr ⟨a1, h2 q m j hq' hm hj a2 b⟩
        · exact Or.inr ⟨a1, b2⟩
  · intro L hL hT i j hi hj a
    rw [f i j hi hj] at a
    rcases a with a | ⟨a1, a2⟩
    · exact h3 L hL hT i j hi hj a
    · exact hT i m j (h3 L hL hT i m hi hm a1) (h3 L hL hT m j hm hj a2)
/-- all nodes are placed if and only if the closure has no node that reaches itself -/
theorem qd_eqv {R : Nat → Nat → Prop} {n p : Nat} {ord pl nm : Nat → Int32} (hn : n ≤ 20) (ho : qd_Or R n p ord pl) (hc : qd_Cl R n pl) (hw : qd_Wa R n n nm) : p = n ↔ ∀ i, i < n → ¬ bt (nm i) i = true := by
  obtain ⟨w1, w2, w3⟩ := hw
  obtain ⟨h1, h2, h3, h4⟩ := ho
  constructor
  · intro hp i hi hb
    have all : ∀ i, i < n → ¬ pl i = 0 := by
      intro i hi
      have := qd_cn_full _ n (h1.symm.trans hp) i hi
      simpa using this
    have hL := w3 (fun i j => ∃ k q, k < p ∧ q < k ∧ ord k = nI i ∧ ord q = nI j) ?_ ?_ i i hi hi hb
    · obtain ⟨k, q, hk, hq, e1, e2⟩ := hL
      have := h4 k q hk (by omega) (e1.trans e2.symm)
      omega
    · intro i j hi hj hr
      obtain ⟨k, hk, ek⟩ := h2 i hi (all i hi)
      obtain ⟨i', hi', ei', _, hb'⟩ := h3 k hk
      rw [ek, nI_eq (by omega) (by omega)] at ei'
      subst ei'
      obtain ⟨q, hq, eq⟩ := hb' j hj hr
      exact ⟨k, q, hk, hq, ek, eq⟩
    · intro i j k ⟨a, b, ha, hb, ea, eb⟩ ⟨c, d, hc', hd, ec, ed⟩
      have := h4 b c (by omega) hc' (eb.trans ec.symm)
      subst this
      exact ⟨a, d, ha, by omega, ea, ed⟩
  · intro hi
    rw [h1]
    apply qd_cn_all
    have key : ∀ d i, i < n → qd_cn (fun j => bt (nm i) j) n < d → ¬ pl i = 0 := by
      intro d
      induction d with
      | zero => intro i _ hd; omega
      | succ d ih =>
        intro i hin hd hz
        obtain ⟨j, hj, hr, hpj⟩ := hc i hin hz
        have hb : bt (nm i) j = true := w1 i j hin hj hr
        refine ih j hj ?_ hpj
        have := qd_cn_lt (f := fun k => bt (nm j) k) (g := fun k => bt (nm i) k) (j := j) (by simpa using hi j hj) hb n hj (fun k hk hjk => w2 j i k hj hin hk hb hjk)
        omega
    intro i hin
    simpa using key _ i hin (Nat.lt_succ_self _)
end
section
/-! the component's placing -/
theorem qd_within {post : Int32 → Prop} (c lo hi : Nat) (hc : c < 100) (hl : lo < 100) (hh : hi < 100) (h1 : lo ≤ c → c ≤ hi → post 1) (h0 : c < lo ∨ hi < c → post 0) : wpX_isWithin post (nI c) (nI lo) (nI hi) := by
  unfold wpX_isWithin
  refine pk_lt c lo (fun h => h0 (Or.inl h)) (fun h => pk_lt hi c (fun h2 => h0 (Or.inr h2)) (fun h2 => h1 h h2))
section
variable (n : Nat) (pc sc : Int32) (K A B T TN TC ord pl V pv : Nat → Int32)
theorem qd_atHand {post : Int32 → Prop} (a : Nat) (ha : a < 20) (hn : n ≤ 20) (h0 : a < n → pl a = 0 → post 0) (h1 : (a < n → ¬ pl a = 0) → post 1) : wpX_isAtHand post (pc, nI n, sc, K, A, B, T, TN, TC, ord, pl, V, pv) (nI a) := by
  unfold wpX_isAtHand
  dsimp only
  refine pk_le n a (fun h => h1 (fun z => absurd z (by omega))) (fun h => ⟨vp_in_nI ha (by omega), ?_⟩)
  rw [nI_clamp (by omega)]
  exact ⟨fun z => h0 h z, fun z => h1 (fun _ => z)⟩
theorem qd_taps17 {post : Int32 → Prop} (i t : Nat) (hi : i < 20) (ht : t ≤ 6) (hn : n ≤ 20) (hk : ∀ q, q < t → TN (6 * i + q) = nI (qd_c TN (6 * i + q)) ∧ qd_c TN (6 * i + q) < 20)
    (h0 : (∃ q, q < t ∧ qd_c TN (6 * i + q) < n ∧ pl (qd_c TN (6 * i + q)) = 0) → post 0) (h1 : (∀ q, q < t → qd_c TN (6 * i + q) < n → ¬ pl (qd_c TN (6 * i + q)) = 0) → post 1) :
    ∀ d q, q + d = t → (∀ z, z < q → qd_c TN (6 * i + z) < n → ¬ pl (qd_c TN (6 * i + z)) = 0) → wX_areTapsReady_17 post (nI (6 * i + t)) pc (nI n) sc K A B T TN TC ord pl V pv (d + 1) (nI (6 * i + q)) := by
  intro d
  induction d with
  | zero =>
    intro q hq hz
    rw [wX_areTapsReady_17]
    have e : q = t := by omega
    subst e
    exact br_t (nI_le (Nat.le_refl _) (by omega)) (h1 hz)
  | succ d ih =>
    intro q hq hz
    rw [wX_areTapsReady_17]
    refine br_f (nI_ge (by omega) (by omega)) ⟨vp_in_nI (by omega) (by omega), ?_⟩
    obtain ⟨e1, e2⟩ := hk q (by omega)
    rw [nI_clamp (by omega), e1]
    refine qd_atHand n pc sc K A B T TN TC ord pl V pv _ e2 hn (fun a b => br_t rfl (h0 ⟨q, by omega, a, b⟩)) (fun a => br_f (by decide) (nm_r (nI_1 (6 * i + q)) ?_))
    refine ih (q + 1) (by omega) (fun z hzq => ?_)
    by_cases ez : z = q
    · rw [ez]; exact a
    · exact hz z (by omega)
theorem qd_ready {post : Int32 → Prop} (i : Nat) (hi : i < 20) (hn : n ≤ 20) (ho : qd_ok K A B T TN TC i)
    (h0 : (∃ j, j < n ∧ qd_need K A B T TN i j ∧ pl j = 0) → post 0) (h1 : (∀ j, j < n → qd_need K A B T TN i j → ¬ pl j = 0) → post 1) :
    wpX_isReady post (pc, nI n, sc, K, A, B, T, TN, TC, ord, pl, V, pv) (nI i) := by
  obtain ⟨⟨k1, k2⟩, oa, ob, ⟨t1, t2, t3⟩, ot, _⟩ := ho
  unfold wpX_isReady
  dsimp only
  refine ⟨vp_in_nI hi (by omega), ?_⟩
  rw [nI_clamp (by omega), k1]
  refine nm_e ?_
  refine pk_eq (qd_c K i) 10 (fun h10 => ?_) (fun h10 => ?_)
  · unfold wpX_areTapsReady
    dsimp only
    refine nm_r (e' := nI (6 * i)) (by rw [show (6 : Int32) = nI 6 from rfl, pk_mul, Nat.mul_comm]) ⟨vp_in_nI hi (by omega), ?_⟩
    rw [nI_clamp (by omega), t1]
    refine nm_r (nI_add (6 * i) (qd_c T i)) ⟨qd_c T i + 1, ?_⟩
    refine qd_taps17 n pc sc K A B T TN TC ord pl V pv i (qd_c T i) hi t2 hn (fun q hq => ⟨(ot q hq).1, (ot q hq).2.1⟩) ?_ ?_ (qd_c T i) 0 (by omega) (fun z hz => by omega)
    · rintro ⟨q, hq, a, b⟩
      exact ⟨qd_nb0, h0 ⟨_, a, Or.inr (Or.inr ⟨q, hq, rfl⟩), b⟩⟩
    · intro a
      refine ⟨qd_nb1, h1 ?_⟩
      rintro j hj (⟨_, b, _⟩ | ⟨_, b, _⟩ | ⟨q, hq, e⟩)
      · omega
      · omega
      · rw [← e] at hj ⊢; exact a q hq hj
  · have hT := t3 h10
    refine pk_eq (qd_c K i) 2 (fun h2 => ?_) (fun h2 => ?_)
    · refine h1 ?_
      rintro j hj (⟨b, _, _⟩ | ⟨b, _, _⟩ | ⟨q, hq, e⟩) <;> omega
    · unfold wpX_namesFirst
      refine qd_within (qd_c K i) 2 9 (by omega) (by omega) (by omega) (fun a b => ⟨qd_nb1, br_f (by decide) ?_⟩) (fun a => ⟨qd_nb0, br_t rfl (h1 ?_)⟩)
      · obtain ⟨a1, a2⟩ := oa a b
        refine ⟨vp_in_nI hi (by omega), ?_⟩
        rw [a1]
        refine qd_atHand n pc sc K A B T TN TC ord pl V pv _ a2 hn (fun x y => br_t rfl (h0 ⟨_, x, Or.inl ⟨by omega, b, rfl⟩, y⟩)) (fun x => br_f (by decide) ?_)
        unfold wpX_namesSecond
        refine qd_within (qd_c K i) 3 5 (by omega) (by omega) (by omega) (fun c d => ⟨qd_nb1, br_f (by decide) ⟨vp_in_nI hi (by omega), ?_⟩⟩) (fun c => ⟨qd_nb0, br_t rfl (h1 ?_)⟩)
        · obtain ⟨b1, b2⟩ := ob c d
          rw [b1]
          refine qd_atHand n pc sc K A B T TN TC ord pl V pv _ b2 hn (fun x' y => br_t rfl (h0 ⟨_, x', Or.inr (Or.inl ⟨c, d, rfl⟩), y⟩)) (fun x' => br_f (by decide) (h1 ?_))
          rintro j hj (⟨_, _, e⟩ | ⟨_, _, e⟩ | ⟨q, hq, e⟩)
          · rw [← e] at hj ⊢; exact x hj
          · rw [← e] at hj ⊢; exact x' hj
          · omega
        · rintro j hj (⟨_, _, e⟩ | ⟨_, _, e⟩ | ⟨q, hq, e⟩)
          · rw [← e] at hj ⊢; exact x hj
          · omega
          · omega
      · rintro j hj (⟨_, _, e⟩ | ⟨_, _, e⟩ | ⟨q, hq, e⟩) <;> omega
end
section
variable (n : Nat) (sc : Int32) (K A B T TN TC V pv : Nat → Int32)
theorem qd_ord38 {post : SX → Prop} {J : Int32 → Int32 → Int32 → Int32 → (Nat → Int32) → (Nat → Int32) → (Nat → Int32) → (Nat → Int32) → (Nat → Int32) → (Nat → Int32) → (Nat → Int32) → (Nat → Int32) → (Nat → Int32) → (Nat → Int32) → Prop} {x1 : Int32} (hW : qd_WF n K A B T TN TC) (r p0 : Nat) (pl0 : Nat → Int32)
    (hs : qd_Cl (qd_need K A B T TN) n pl0 ∨ r ≤ p0)
    (hJ : ∀ p ord pl, qd_Or (qd_need K A B T TN) n p ord pl → (qd_Cl (qd_need K A B T TN) n pl ∨ r + 1 ≤ p) → J (x1 + 1) (nI p) (nI n) sc K A B T TN TC ord pl V pv) :
    ∀ d i p ord pl, i + d = n → qd_Or (qd_need K A B T TN) n p ord pl → ((p = p0 ∧ pl = pl0 ∧ ∀ a, a < i → pl a = 0 → ∃ j, j < n ∧ qd_need K A B T TN a j ∧ pl j = 0) ∨ r + 1 ≤ p) →
      wX_orderNodes_38 post J x1 (d + 1) (nI i) (nI p) (nI n) sc K A B T TN TC ord pl V pv := by
  have hn := hW.1
  intro d
  induction d with
  | zero =>
    intro i p ord pl hi ho hv
    rw [wX_orderNodes_38]
    have e : i = n := by omega
    subst e
    refine br_t (nI_le (Nat.le_refl _) (by omega)) (nm_e (hJ p ord pl ho ?_))
    rcases hv with ⟨_, _, hv⟩ | hv
    · exact Or.inl hv
    · exact Or.inr hv
  | succ d ih =>
    intro i p ord pl hi ho hv
    rw [wX_orderNodes_38]
    have hin : i < n := by omega
    refine br_f (nI_ge hin (by omega)) ⟨vp_in_nI (by omega) (by omega), ?_⟩
    rw [nI_clamp (by omega)]
    refine br_c (fun hz => ?_) (fun hz => nm_r (nI_1 i) (ih (i + 1) p ord pl (by omega) ho ?_))
    · refine qd_ready n (nI p) sc K A B T TN TC ord pl V pv i (by omega) hn (hW.2 i hin) (fun hr => br_t rfl (nm_r (nI_1 i) (ih (i + 1) p ord pl (by omega) ho ?_))) (fun hr => br_f (by decide) ?_)
      · rcases hv with ⟨e1, e2, hv⟩ | hv
        · refine Or.inl ⟨e1, e2, fun a ha hpa => ?_⟩
          by_cases ea : a = i
          · rw [ea]; exact hr
          · exact hv a (by omega) hpa
        · exact Or.inr hv
      · have hp : p < n := by
          have h1 := qd_Or_p ho
          have h2 : p ≠ n := by
            intro e
            have := qd_cn_full _ n (ho.1.symm.trans e) i hin
            simp [hz] at this
          omega
        unfold wpX_placeNext
        dsimp only
        refine ⟨vp_in_nI (by omega) (by omega), ?_⟩
        rw [nI_clamp (by omega), nI_clamp (by omega), qd_nar1]
        refine nm_e ⟨vp_in_nI (by omega) (by omega), nm_e (nm_r (nI_1 p) (nm_r (nI_1 i) (ih (i + 1) (p + 1) _ _ (by omega) (qd_Or_s ho hn hin hz hr) (Or.inr ?_))))⟩
        rcases hv with ⟨e1, e2, hv⟩ | hv
        · rcases hs with hs | hs
          · rw [← e2] at hs
            obtain ⟨j, hj, hij, hpj⟩ := hs i hin hz
            exact absurd hpj (hr j hj hij)
          · omega
        · omega
    · rcases hv with ⟨e1, e2, hv⟩ | hv
      · refine Or.inl ⟨e1, e2, fun a ha hpa => ?_⟩
        by_cases ea : a = i
        · rw [ea] at hpa; exact absurd hpa hz
        · exact hv a (by omega) hpa
      · exact Or.inr hv
theorem qd_ord28 {post : SX → Prop} (hW : qd_WF n K A B T TN TC)
    (hp : ∀ p ord pl, qd_Or (qd_need K A B T TN) n p ord pl → qd_Cl (qd_need K A B T TN) n pl → post (nI p, nI n, sc, K, A, B, T, TN, TC, ord, pl, V, pv)) :
    ∀ d r p ord pl, r + d = n → qd_Or (qd_need K A B T TN) n p ord pl → (qd_Cl (qd_need K A B T TN) n pl ∨ r ≤ p) →
      wX_orderNodes_28 post (d + 1) (nI r) (nI p) (nI n) sc K A B T TN TC ord pl V pv := by
  have hn := hW.1
  intro d
  induction d with
  | zero =>
    intro r p ord pl hr ho hv
    rw [wX_orderNodes_28]
    have e : r = n := by omega
    subst e
    refine br_t (nI_le (Nat.le_refl _) (by omega)) (hp p ord pl ho ?_)
    rcases hv with hv | hv
    · exact hv
    · intro i hi hz
      have h1 := qd_Or_p ho
      have := qd_cn_full _ r (ho.1.symm.trans (by omega)) i hi
      simp [hz] at this
  | succ d ih =>
    intro r p ord pl hr ho hv
    rw [wX_orderNodes_28]
    refine br_f (nI_ge (by omega) (by omega)) ⟨n + 1, ?_⟩
    refine qd_ord38 n sc K A B T TN TC V pv hW r p pl hv ?_ n 0 p ord pl (by omega) ho (Or.inl ⟨rfl, rfl, fun a ha => by omega⟩)
    intro p' ord' pl' ho' hv'
    rw [nI_1]
    exact ih (r + 1) p' ord' pl' (by omega) ho' hv'
theorem qd_ord7 {post : SX → Prop} (ord : Nat → Int32) (hW : qd_WF n K A B T TN TC)
    (hp : ∀ p ord pl, qd_Or (qd_need K A B T TN) n p ord pl → qd_Cl (qd_need K A B T TN) n pl → post (nI p, nI n, sc, K, A, B, T, TN, TC, ord, pl, V, pv)) :
    ∀ d i pl, i + d = 20 → (∀ j, j < i → pl j = 0) → wX_orderNodes_7 post 0 (nI n) sc (d + 1) (nI i) K A B T TN TC ord pl V pv := by
  have hn := hW.1
  intro d
  induction d with
  | zero =>
    intro i pl hi hz
    rw [wX_orderNodes_7]
    have e : i = 20 := by omega
    subst e
    refine br_t (by decide) ⟨n + 1, ?_⟩
    exact qd_ord28 n sc K A B T TN TC V pv hW hp n 0 0 ord pl (by omega) (qd_Or_0 _ n ord pl (fun j hj => hz j (by omega))) (Or.inr (Nat.le_refl 0))
  | succ d ih =>
    intro i pl hi hz
    rw [wX_orderNodes_7]
    refine br_f (nI_ge (b := 20) (by omega) (by decide)) ⟨vp_in_nI (by omega) (by omega), ?_⟩
    rw [nI_clamp (by omega), qd_nar0]
    refine nm_e (nm_r (nI_1 i) (ih (i + 1) _ (by omega) (fun j hj => ?_)))
    by_cases e : j = i
    · rw [e, pk_us]
    · rw [pk_un e]; exact hz j (by omega)
theorem qd_order {post : SX → Prop} (pc : Int32) (ord pl : Nat → Int32) (hW : qd_WF n K A B T TN TC)
    (hp : ∀ p ord pl, qd_Or (qd_need K A B T TN) n p ord pl → qd_Cl (qd_need K A B T TN) n pl → post (nI p, nI n, sc, K, A, B, T, TN, TC, ord, pl, V, pv)) :
    wpX_orderNodes post (pc, nI n, sc, K, A, B, T, TN, TC, ord, pl, V, pv) := by
  unfold wpX_orderNodes
  exact ⟨21, qd_ord7 n sc K A B T TN TC V pv ord hW hp 20 0 pl (by omega) (fun j hj => by omega)⟩
/-- a run begun anew: all values 0 -/
theorem qd_begin7 {post : SX → Prop} (pc sc nc : Int32) (ord pl : Nat → Int32) (hp : post (pc, nc, sc, K, A, B, T, TN, TC, ord, pl, (fun _ => 0), pv)) :
    ∀ d i V, i + d = 20 → (∀ j, 20 ≤ j → V j = 0) → (∀ j, j < i → V j = 0) → wX_beginRun_7 post pc nc sc (d + 1) (nI i) K A B T TN TC ord pl V pv := by
  intro d
  induction d with
  | zero =>
    intro i V hi hv hz
    rw [wX_beginRun_7]
    have e : i = 20 := by omega
    subst e
    refine br_t (by decide) ?_
    have e : V = fun _ => 0 := funext fun j => by
      by_cases hj : j < 20
      · exact hz j hj
      · exact hv j (by omega)
    rw [e]; exact hp
  | succ d ih =>
    intro i V hi hv hz
    rw [wX_beginRun_7]
    refine br_f (nI_ge (b := 20) (by omega) (by decide)) ⟨vp_in_nI (by omega) (by omega), ?_⟩
    rw [nI_clamp (by omega)]
    refine nm_e (nm_r (nI_1 i) (ih (i + 1) _ (by omega) (fun j hj => ?_) (fun j hj => ?_)))
    · rw [pk_un (by omega)]; exact hv j hj
    · by_cases e : j = i
      · rw [e, pk_us]
      · rw [pk_un e]; exact hz j (by omega)
theorem qd_begin {post : SX → Prop} (pc sc nc : Int32) (ord pl : Nat → Int32) (hv : ∀ j, 20 ≤ j → V j = 0) (hp : post (pc, nc, 0, K, A, B, T, TN, TC, ord, pl, (fun _ => 0), pv)) :
    wpX_beginRun post (pc, nc, sc, K, A, B, T, TN, TC, ord, pl, V, pv) := by
  unfold wpX_beginRun
  exact ⟨21, qd_begin7 K A B T TN TC pv pc 0 nc ord pl hp 20 0 V (by omega) hv (fun j hj => by omega)⟩
end
end
section
/-! the reference's loop test, and its restart -/
theorem qd_six (i t : Nat) : (6 : Int32) * nI i + nI t = nI (6 * i + t) := by
  rw [show (6 : Int32) = nI 6 from rfl, pk_mul, nI_add]
section
variable (n : Nat) (sc : Int32) (K A B T TN TC V bf : Nat → Int32)
theorem qd_nb65 {post : Int32 → Prop} (nm : Nat → Int32) (i : Nat) (hi : i < 20) (hn : n ≤ 20) (ho : qd_ok K A B T TN TC i) (pre : Nat → Prop)
    (hp : ∀ r, (∀ j, j < 20 → (bt r j = true ↔ j < n ∧ (pre j ∨ ∃ q, q < qd_c T i ∧ qd_c TN (6 * i + q) = j))) → post r) :
    ∀ d t x2, t + d = qd_c T i → (∀ j, j < 20 → (bt x2 j = true ↔ (pre j ∨ ∃ q, q < t ∧ qd_c TN (6 * i + q) = j))) →
      wY_namedBy_65 post (nI i) (nI n) sc K A B T TN TC V bf nm (d + 1) x2 (nI t) := by
  obtain ⟨_, _, _, ⟨t1, t2, _⟩, ot, _⟩ := ho
  intro d
  induction d with
  | zero =>
    intro t x2 ht hx
    rw [wY_namedBy_65]
    refine ⟨vp_in_nI hi (by omega), ?_⟩
    rw [nI_clamp (by omega), t1]
    refine br_t (nI_le (by omega) (by omega)) (hp _ (fun j hj => ?_))
    rw [b_and, qd_mask n (by omega) j (by omega), Bool.and_eq_true, hx j hj, decide_eq_true_iff, and_comm, show t = qd_c T i by omega]
  | succ d ih =>
    intro t x2 ht hx
    rw [wY_namedBy_65]
    refine ⟨vp_in_nI hi (by omega), ?_⟩
    rw [nI_clamp (n := i) (by omega), t1]
    refine br_f (nI_ge (by omega) (by omega)) ?_
    rw [qd_six]
    refine ⟨vp_in_nI (by omega) (by omega), ?_⟩
    obtain ⟨e1, e2, _⟩ := ot t (by omega)
    rw [nI_clamp (by omega), e1]
    refine nm_e (nm_r (nI_1 t) (ih (t + 1) _ (by omega) (fun j hj => ?_)))
    rw [b_or, Bool.or_eq_true, hx j hj, qd_one (by omega) (by omega), decide_eq_true_iff]
    constructor
    · rintro ((h | ⟨q, hq, e⟩) | h)
      · exact Or.inl h
      · exact Or.inr ⟨q, by omega, e⟩
      · exact Or.inr ⟨t, by omega, h⟩
    · rintro (h | ⟨q, hq, e⟩)
      · exact Or.inl (Or.inl h)
      · by_cases eq : q = t
        · rw [eq] at e; exact Or.inr e
        · exact Or.inl (Or.inr ⟨q, by omega, e⟩)
theorem qd_nb32 {post : Int32 → Prop} (nm : Nat → Int32) (i : Nat) (hi : i < 20) (hn : n ≤ 20) (ho : qd_ok K A B T TN TC i) (pre : Nat → Prop) (x2 : Int32)
    (hx : ∀ j, j < 20 → (bt x2 j = true ↔ pre j))
    (hp : ∀ r, (∀ j, j < 20 → (bt r j = true ↔ j < n ∧ ((pre j ∨ (3 ≤ qd_c K i ∧ qd_c K i ≤ 5 ∧ qd_c B i = j)) ∨ ∃ q, q < qd_c T i ∧ qd_c TN (6 * i + q) = j))) → post r) :
    wY_namedBy_32 post (nI i) x2 (nI n) sc K A B T TN TC V bf nm := by
  have ho' := ho
  obtain ⟨⟨k1, k2⟩, oa, ob, _⟩ := ho
  unfold wY_namedBy_32
  refine ⟨vp_in_nI hi (by omega), ?_⟩
  rw [nI_clamp (by omega), k1]
  have z : ∀ y : Int32, (∀ j, j < 20 → (bt y j = true ↔ pre j ∨ (3 ≤ qd_c K i ∧ qd_c K i ≤ 5 ∧ qd_c B i = j))) → ∃ n65 : Nat, wY_namedBy_65 post (nI i) (nI n) sc K A B T TN TC V bf nm n65 y 0 := by
    intro y hy
    refine ⟨qd_c T i + 1, qd_nb65 n sc K A B T TN TC V bf nm i hi hn ho' _ hp (qd_c T i) 0 y (by omega) (fun j hj => ?_)⟩
    rw [hy j hj]
    exact ⟨Or.inl, fun h => h.elim id (fun ⟨q, hq, _⟩ => absurd hq (by omega))⟩
  refine pk_lt (qd_c K i) 3 (fun h => z x2 (fun j hj => ?_)) (fun h => ⟨vp_in_nI hi (by omega), pk_lt 5 (qd_c K i) (fun h2 => z x2 (fun j hj => ?_)) (fun h2 => ⟨vp_in_nI hi (by omega), ?_⟩)⟩)
  · rw [hx j hj]; exact ⟨Or.inl, fun h' => h'.elim id (fun h'' => absurd h''.1 (by omega))⟩
  · rw [hx j hj]; exact ⟨Or.inl, fun h' => h'.elim id (fun h'' => absurd h''.2.1 (by omega))⟩
  · obtain ⟨b1, b2⟩ := ob h h2
    rw [b1]
    refine nm_e (z _ (fun j hj => ?_))
    rw [b_or, Bool.or_eq_true, hx j hj, qd_one (by omega) (by omega), decide_eq_true_iff]
    exact ⟨fun h' => h'.elim Or.inl (fun e => Or.inr ⟨h, h2, e⟩), fun h' => h'.elim Or.inl (fun e => Or.inr e.2.2)⟩
theorem qd_named {post : Int32 → Prop} (nm : Nat → Int32) (i : Nat) (hi : i < 20) (hn : n ≤ 20) (ho : qd_ok K A B T TN TC i)
    (hp : ∀ r, (∀ j, j < 20 → (bt r j = true ↔ j < n ∧ qd_need K A B T TN i j)) → post r) :
    wpY_namedBy post (nI n, sc, K, A, B, T, TN, TC, V, bf, nm) (nI i) := by
  have ho' := ho
  obtain ⟨⟨k1, k2⟩, oa, ob, _⟩ := ho
  unfold wpY_namedBy
  dsimp only
  refine ⟨vp_in_nI hi (by omega), ?_⟩
  rw [nI_clamp (by omega), k1]
  have z : ∀ y : Int32, (∀ j, j < 20 → (bt y j = true ↔ (3 ≤ qd_c K i ∧ qd_c K i ≤ 9 ∧ qd_c A i = j))) → wY_namedBy_32 post (nI i) y (nI n) sc K A B T TN TC V bf nm := by
    intro y hy
    refine qd_nb32 n sc K A B T TN TC V bf nm i hi hn ho' _ y hy (fun r hr => hp r (fun j hj => ?_))
    rw [hr j hj]
    unfold qd_need
    rw [or_assoc]
  have z0 : (qd_c K i < 3 ∨ 9 < qd_c K i) → ∀ j, j < 20 → (bt 0 j = true ↔ (3 ≤ qd_c K i ∧ qd_c K i ≤ 9 ∧ qd_c A i = j)) := by
    intro h j hj
    rw [b_0]
    exact ⟨fun h' => absurd h' (by decide), fun ⟨a, b, _⟩ => absurd h (by omega)⟩
  refine pk_lt (qd_c K i) 3 (fun h => z 0 (z0 (Or.inl h))) (fun h => ⟨vp_in_nI hi (by omega), pk_lt 9 (qd_c K i) (fun h2 => z 0 (z0 (Or.inr h2))) (fun h2 => ⟨vp_in_nI hi (by omega), ?_⟩)⟩)
  obtain ⟨a1, a2⟩ := oa (by omega) h2
  rw [a1]
  refine nm_e (z _ (fun j hj => ?_))
  rw [qd_one (by omega) (by omega), decide_eq_true_iff]
  exact ⟨fun e => ⟨h, h2, e⟩, fun e => e.2.2⟩
theorem qd_s94 {post : Int32 → SY → Prop} (nm : Nat → Int32) (hn : n ≤ 20)
    (h0 : (∃ i, i < n ∧ bt (nm i) i = true) → post 0 (nI n, sc, K, A, B, T, TN, TC, V, bf, nm)) (h1 : (∀ i, i < n → ¬ bt (nm i) i = true) → post 1 (nI n, sc, K, A, B, T, TN, TC, V, bf, nm)) :
    ∀ d i, i + d = n → (∀ a, a < i → ¬ bt (nm a) a = true) → wY_sound_94 post (nI n) sc K A B T TN TC V bf nm (d + 1) (nI i) := by
  intro d
  induction d with
  | zero =>
    intro i hi hz
    rw [wY_sound_94]
    have e : i = n := by omega
    subst e
    exact br_t (nI_le (Nat.le_refl _) (by omega)) (h1 hz)
  | succ d ih =>
    intro i hi hz
    rw [wY_sound_94]
    refine br_f (nI_ge (by omega) (by omega)) ⟨vp_in_nI (by omega) (by omega), ?_⟩
    rw [nI_clamp (by omega), qd_bit _ (by omega)]
    refine br_c (fun h => h0 ⟨i, by omega, h⟩) (fun h => nm_r (nI_1 i) (ih (i + 1) (by omega) (fun a ha => ?_)))
    by_cases e : a = i
    · rw [e]; exact h
    · exact hz a (by omega)
theorem qd_s39 {post : Int32 → SY → Prop} {J : Int32 → (Nat → Int32) → (Nat → Int32) → (Nat → Int32) → (Nat → Int32) → (Nat → Int32) → (Nat → Int32) → (Nat → Int32) → (Nat → Int32) → (Nat → Int32) → Prop} (hn : n ≤ 20) (m : Nat) (hm : m < n) (nm0 : Nat → Int32)
    (hJ : ∀ nm, qd_St n m n nm0 nm → J (nI (m + 1)) K A B T TN TC V bf nm) :
    ∀ d i nm, i + d = n → qd_St n m i nm0 nm → wY_sound_39 post J (nI m) (nI n) sc (d + 1) (nI i) K A B T TN TC V bf nm := by
  intro d
  induction d with
  | zero =>
    intro i nm hi hs
    rw [wY_sound_39]
    have e : i = n := by omega
    subst e
    exact br_t (nI_le (Nat.le_refl _) (by omega)) (nm_r (nI_1 m) (hJ nm hs))
  | succ d ih =>
    intro i nm hi hs
    rw [wY_sound_39]
    refine br_f (nI_ge (by omega) (by omega)) ⟨vp_in_nI (by omega) (by omega), ?_⟩
    rw [nI_clamp (by omega), nI_clamp (by omega), qd_bit _ (by omega)]
    refine br_c (fun h => ⟨vp_in_nI (by omega) (by omega), vp_in_nI (by omega) (by omega), vp_in_nI (by omega) (by omega), nm_e (nm_r (nI_1 i) (ih (i + 1) _ (by omega) (qd_St_s hs hm (by omega) h)))⟩) (fun h => nm_r (nI_1 i) (ih (i + 1) nm (by omega) (qd_St_n hs (by omega) h)))
theorem qd_s29 {post : Int32 → SY → Prop} {R : Nat → Nat → Prop} (hn : n ≤ 20)
    (hp : ∀ nm, qd_Wa R n n nm → ∃ n94 : Nat, wY_sound_94 post (nI n) sc K A B T TN TC V bf nm n94 0) :
    ∀ d m nm, m + d = n → qd_Wa R n m nm → wY_sound_29 post (nI n) sc (d + 1) (nI m) K A B T TN TC V bf nm := by
  intro d
  induction d with
  | zero =>
    intro m nm hm hw
    rw [wY_sound_29]
    have e : m = n := by omega
    subst e
    exact br_t (nI_le (Nat.le_refl _) (by omega)) (hp nm hw)
  | succ d ih =>
    intro m nm hm hw
    rw [wY_sound_29]
    refine br_f (nI_ge (by omega) (by omega)) ⟨n + 1, ?_⟩
    exact qd_s39 n sc K A B T TN TC V bf hn m (by omega) nm (fun nm' hs => ih (m + 1) nm' (by omega) (qd_Wa_s hw (by omega) hs)) n 0 nm (by omega) ⟨fun a j _ h => by omega, fun a _ _ => rfl⟩
theorem qd_s2 {post : Int32 → SY → Prop} (hW : qd_WF n K A B T TN TC)
    (hp : ∀ nm, qd_Wa (qd_need K A B T TN) n 0 nm → ∃ n29 : Nat, wY_sound_29 post (nI n) sc n29 0 K A B T TN TC V bf nm) :
    ∀ d i nm, i + d = n → (∀ a j, a < i → j < 20 → (bt (nm a) j = true ↔ j < n ∧ qd_need K A B T TN a j)) → wY_sound_2 post (nI n) sc (d + 1) (nI i) K A B T TN TC V bf nm := by
  have hn := hW.1
  intro d
  induction d with
  | zero =>
    intro i nm hi hw
    rw [wY_sound_2]
    have e : i = n := by omega
    subst e
    refine br_t (nI_le (Nat.le_refl _) (by omega)) (hp nm ⟨fun a j ha hj hr => (hw a j ha (by omega)).mpr ⟨hj, hr⟩, fun q a j hq => by omega, fun L hL hT a j ha hj hb => hL a j ha hj ((hw a j ha (by omega)).mp hb).2⟩)
  | succ d ih =>
    intro i nm hi hw
    rw [wY_sound_2]
    refine br_f (nI_ge (by omega) (by omega)) ?_
    refine qd_named n sc K A B T TN TC V bf nm i (by omega) hn (hW.2 i (by omega)) (fun r hr => ⟨vp_in_nI (by omega) (by omega), ?_⟩)
    rw [nI_clamp (by omega)]
    refine nm_e (nm_r (nI_1 i) (ih (i + 1) _ (by omega) (fun a j ha hj => ?_)))
    by_cases e : a = i
    · rw [e, pk_us]; exact hr j hj
    · rw [pk_un e]; exact hw a j (by omega) hj
theorem qd_sound {post : Int32 → SY → Prop} {p : Nat} {ord pl : Nat → Int32} (nm : Nat → Int32) (hW : qd_WF n K A B T TN TC) (ho : qd_Or (qd_need K A B T TN) n p ord pl) (hc : qd_Cl (qd_need K A B T TN) n pl)
    (h1 : p = n → ∀ nm, post 1 (nI n, sc, K, A, B, T, TN, TC, V, bf, nm)) (h0 : p ≠ n → ∀ nm, post 0 (nI n, sc, K, A, B, T, TN, TC, V, bf, nm)) :
    wpY_sound post (nI n, sc, K, A, B, T, TN, TC, V, bf, nm) := by
  have hn := hW.1
  unfold wpY_sound
  refine ⟨n + 1, qd_s2 n sc K A B T TN TC V bf hW (fun nm' hw => ⟨n + 1, qd_s29 n sc K A B T TN TC V bf hn (fun nm2 hw2 => ⟨n + 1, ?_⟩) n 0 nm' (by omega) hw⟩) n 0 nm (by omega) (fun a j ha => by omega)⟩
  have key := qd_eqv hn ho hc hw2
  refine qd_s94 n sc K A B T TN TC V bf nm2 hn (fun ⟨i, hi, hb⟩ => h0 (fun e => key.mp e i hi hb) nm2) (fun h => h1 (key.mpr h) nm2) n 0 (by omega) (fun a ha => by omega)
theorem qd_rest7 {post : SY → Prop} (nc : Int32) (nm : Nat → Int32) (hp : post (nc, sc, K, A, B, T, TN, TC, (fun _ => 0), bf, nm)) :
    ∀ d i V, i + d = 20 → (∀ j, 20 ≤ j → V j = 0) → (∀ j, j < i → V j = 0) → wY_restart_7 post nc sc (d + 1) (nI i) K A B T TN TC V bf nm := by
  intro d
  induction d with
  | zero =>
    intro i V hi hv hz
    rw [wY_restart_7]
    have e : i = 20 := by omega
    subst e
    refine br_t (by decide) ?_
    have e : V = fun _ => 0 := funext fun j => by
      by_cases hj : j < 20
      · exact hz j hj
      · exact hv j (by omega)
    rw [e]; exact hp
  | succ d ih =>
    intro i V hi hv hz
    rw [wY_restart_7]
    refine br_f (nI_ge (b := 20) (by omega) (by decide)) ⟨vp_in_nI (by omega) (by omega), ?_⟩
    rw [nI_clamp (by omega)]
    refine nm_e (nm_r (nI_1 i) (ih (i + 1) _ (by omega) (fun j hj => ?_) (fun j hj => ?_)))
    · rw [pk_un (by omega)]; exact hv j hj
    · by_cases e : j = i
      · rw [e, pk_us]
      · rw [pk_un e]; exact hz j (by omega)
theorem qd_rest {post : SY → Prop} (nc : Int32) (nm : Nat → Int32) (hv : ∀ j, 20 ≤ j → V j = 0) (hp : post (nc, 0, K, A, B, T, TN, TC, (fun _ => 0), bf, nm)) :
    wpY_restart post (nc, sc, K, A, B, T, TN, TC, V, bf, nm) := by
  unfold wpY_restart
  exact ⟨21, qd_rest7 0 K A B T TN TC bf nc nm hp 20 0 V (by omega) hv (fun j hj => by omega)⟩
end
end
section
/-! a node's value, on both sides -/
def qd_sat (v : Int32) : Int32 := if v < -32768 then -32768 else if 32767 < v then 32767 else v
theorem qd_satX {post : Int32 → Prop} {v : Int32} (h : post (qd_sat v)) : wpX_saturated post v := by
  unfold wpX_saturated wpX_clamped
  unfold qd_sat at h
  refine ⟨fun h1 => ⟨fun h2 => ?_, fun h2 => ?_⟩, fun h1 => ?_⟩
  · rwa [if_neg (Int32.not_lt.mpr h1), if_neg (Int32.not_lt.mpr h2)] at h
  · rwa [if_neg (Int32.not_lt.mpr h1), if_pos (Int32.not_le.mp h2)] at h
  · rwa [if_pos (Int32.not_le.mp h1)] at h
theorem qd_sat_in (v : Int32) : qd_in (qd_sat v) := by
  unfold qd_sat
  by_cases h1 : v < -32768
  · rw [if_pos h1]; unfold qd_in; decide
  · rw [if_neg h1]
    by_cases h2 : 32767 < v
    · rw [if_pos h2]; unfold qd_in; decide
    · rw [if_neg h2]
      exact qd_ofI h1 h2
theorem qd_l2i (v : Int32) : v.toInt64.toInt32 = v := by
  apply Int32.toInt_inj.mp
  rw [Int64.toInt_toInt32, Int32.toInt_toInt64]
  have h1 := Int32.le_toInt v
  have h2 := Int32.toInt_lt v
  exact Int.bmod_eq_of_le (by omega) (by omega)
theorem qd_i2l (y : Int64) (h1 : -2147483648 ≤ y.toInt) (h2 : y.toInt < 2147483648) : y.toInt32.toInt64 = y := by
  apply Int64.toInt_inj.mp
  rw [Int32.toInt_toInt64, Int64.toInt_toInt32]
  exact Int.bmod_eq_of_le (by omega) (by omega)
theorem qd_satY {post : Int32 → Prop} {u : SY} {v : Int32} (h : post (qd_sat v)) : wpY_sat post u v.toInt64 := by
  obtain ⟨a, b, c, d, e, f, g, i, j, k, l⟩ := u
  unfold wpY_sat
  dsimp only
  unfold qd_sat at h
  rw [Int64.le_iff_toInt_le, Int64.le_iff_toInt_le, Int32.toInt_toInt64, qd_l2i]
  have e1 : (32767 : Int64).toInt = 32767 := by decide
  have e2 : (-32768 : Int64).toInt = -32768 := by decide
  have e3 : (32767 : Int32).toInt = 32767 := by decide
  have e4 : (-32768 : Int32).toInt = -32768 := by decide
  have f1 : v < -32768 ↔ v.toInt < -32768 := by rw [Int32.lt_iff_toInt_lt, e4]
  have f2 : 32767 < v ↔ 32767 < v.toInt := by rw [Int32.lt_iff_toInt_lt, e3]
  rw [e1, e2]
  refine ⟨fun h1 => ⟨fun h2 => ?_, fun h2 => ?_⟩, fun h1 => ?_⟩
  · rwa [if_neg (fun z => by have := f1.mp z; omega), if_neg (fun z => by have := f2.mp z; omega)] at h
  · rwa [if_pos (f1.mpr (by omega))] at h
  · rwa [if_neg (fun z => by have := f1.mp z; omega), if_pos (f2.mpr (by omega))] at h
/-- the sum of the first t taps of node i -/
def qd_ts (TN TC V : Nat → Int32) (i : Nat) : Nat → Int64
  | 0 => 0
  | t + 1 => qd_ts TN TC V i t + (TC (6 * i + t)).toInt64 * (V (qd_c TN (6 * i + t))).toInt64
def qd_fin (s : Int64) : Int32 := qd_sat ((s + 16384) >>> ((15 : Int32).toInt64 &&& 63)).toInt32
theorem qd_mulB {a b : Int} (ha : -32768 ≤ a ∧ a ≤ 32767) (hb : -32768 ≤ b ∧ b ≤ 32767) : -1073741824 ≤ a * b ∧ a * b ≤ 1073741824 := by
  have h : (a * b).natAbs ≤ 32768 * 32768 := by
    rw [Int.natAbs_mul]
    exact Nat.mul_le_mul (by omega) (by omega)
  omega
theorem qd_prod (a b : Int32) (ha : qd_in a) (hb : qd_in b) : (a.toInt64 * b.toInt64).toInt = a.toInt * b.toInt := by
  have := qd_mulB ha hb
  rw [Int64.toInt_mul, Int32.toInt_toInt64, Int32.toInt_toInt64]
  exact Int.bmod_eq_of_le (by omega) (by omega)
theorem qd_tsB (TN TC V : Nat → Int32) (i : Nat) (hV : ∀ j, qd_in (V j)) : ∀ t : Nat, t ≤ 6 → (∀ q, q < t → qd_in (TC (6 * i + q))) → -(t * 1073741824 : Int) ≤ (qd_ts TN TC V i t).toInt ∧ (qd_ts TN TC V i t).toInt ≤ (t * 1073741824 : Int) := by
  intro t
  induction t with
  | zero => intro _ _; unfold qd_ts; decide
  | succ t ih =>
    intro ht hc
    have h1 := ih (by omega) (fun q hq => hc q (by omega))
    have h2 := qd_mulB (hc t (by omega)) (hV (qd_c TN (6 * i + t)))
    unfold qd_ts
    rw [Int64.toInt_add, qd_prod _ _ (hc t (by omega)) (hV _)]
    generalize (TC (6 * i + t)).toInt * (V (qd_c TN (6 * i + t))).toInt = z at h2 ⊢
    generalize (qd_ts TN TC V i t).toInt = w at h1 ⊢
    rw [Int.bmod_eq_of_le (by omega) (by omega)]
    omega
theorem qd_shr15 (y : Int64) : (y >>> ((15 : Int32).toInt64 &&& 63)).toInt = y.toInt / 32768 := by
  show (y.toBitVec.sshiftRight ((((15 : Int32).toInt64 &&& 63) : Int64).toBitVec.smod 64).toNat).toInt = _
  rw [show ((((15 : Int32).toInt64 &&& 63) : Int64).toBitVec.smod 64).toNat = 15 from by decide, BitVec.toInt_sshiftRight, Int.shiftRight_eq_div_pow]
  rfl
theorem qd_finY {post : Int32 → Prop} {u : SY} {s : Int64} (h1 : -6442450944 ≤ s.toInt) (h2 : s.toInt ≤ 6442450944) (h : post (qd_fin s)) : wpY_sat post u ((s + 16384) >>> ((15 : Int32).toInt64 &&& 63)) := by
  have e : (s + 16384).toInt = s.toInt + 16384 := by
    rw [Int64.toInt_add, show (16384 : Int64).toInt = 16384 from by decide]
    exact Int.bmod_eq_of_le (by omega) (by omega)
  have e2 := qd_shr15 (s + 16384)
  rw [e] at e2
  rw [← qd_i2l ((s + 16384) >>> ((15 : Int32).toInt64 &&& 63)) (by omega) (by omega)]
  exact qd_satY h
/-- the value of node i, from the input x, the values P of the sample before and the values V of this one -/
def qd_val (K A B T TN TC : Nat → Int32) (x : Int32) (P V : Nat → Int32) (i : Nat) : Int32 :=
  if qd_c K i = 0 then x else
  if qd_c K i = 1 then A i else
  if qd_c K i = 2 then P (qd_c A i) else
  if qd_c K i = 3 then qd_sat (V (qd_c A i) + V (qd_c B i)) else
  if qd_c K i = 4 then qd_sat (V (qd_c A i) - V (qd_c B i)) else
  if qd_c K i = 5 then (if V (qd_c A i) ≤ V (qd_c B i) then V (qd_c B i) else V (qd_c A i)) else
  if qd_c K i = 6 then qd_sat (-V (qd_c A i)) else
  if qd_c K i = 7 then (if 0 ≤ V (qd_c A i) then qd_sat (V (qd_c A i)) else qd_sat (-V (qd_c A i))) else
  if qd_c K i = 8 then qd_sat (V (qd_c A i) <<< (B i &&& 31)) else
  if qd_c K i = 9 then V (qd_c A i) >>> (B i &&& 31) else
  qd_fin (qd_ts TN TC V i (qd_c T i))
theorem qd_ts_dep {TN TC V V' : Nat → Int32} {i : Nat} : ∀ t, (∀ q, q < t → V (qd_c TN (6 * i + q)) = V' (qd_c TN (6 * i + q))) → qd_ts TN TC V i t = qd_ts TN TC V' i t := by
  intro t
  induction t with
  | zero => intro _; rfl
  | succ t ih =>
    intro h
    unfold qd_ts
    rw [ih (fun q hq => h q (by omega)), h t (by omega)]
section
variable (K A B T TN TC : Nat → Int32) (x : Int32)
theorem qd_val_dep (P V V' : Nat → Int32) (i : Nat) (h : ∀ j, qd_need K A B T TN i j → V j = V' j) : qd_val K A B T TN TC x P V i = qd_val K A B T TN TC x P V' i := by
  have ht : qd_ts TN TC V i (qd_c T i) = qd_ts TN TC V' i (qd_c T i) := qd_ts_dep _ (fun q hq => h _ (Or.inr (Or.inr ⟨q, hq, rfl⟩)))
  have ha : 3 ≤ qd_c K i → qd_c K i ≤ 9 → V (qd_c A i) = V' (qd_c A i) := fun a b => h _ (Or.inl ⟨a, b, rfl⟩)
  have hb : 3 ≤ qd_c K i → qd_c K i ≤ 5 → V (qd_c B i) = V' (qd_c B i) := fun a b => h _ (Or.inr (Or.inl ⟨a, b, rfl⟩))
  unfold qd_val
  by_cases h0 : qd_c K i = 0
  · rw [if_pos h0, if_pos h0]
  rw [if_neg h0, if_neg h0]
  by_cases h1 : qd_c K i = 1
  · rw [if_pos h1, if_pos h1]
  rw [if_neg h1, if_neg h1]
  by_cases h2 : qd_c K i = 2
  · rw [if_pos h2, if_pos h2]
  rw [if_neg h2, if_neg h2]
  by_cases h3 : qd_c K i = 3
  · rw [if_pos h3, if_pos h3, ha (by omega) (by omega), hb (by omega) (by omega)]
  rw [if_neg h3, if_neg h3]
  by_cases h4 : qd_c K i = 4
  · rw [if_pos h4, if_pos h4, ha (by omega) (by omega), hb (by omega) (by omega)]
  rw [if_neg h4, if_neg h4]
  by_cases h5 : qd_c K i = 5
  · rw [if_pos h5, if_pos h5, ha (by omega) (by omega), hb (by omega) (by omega)]
  rw [if_neg h5, if_neg h5]
  by_cases h6 : qd_c K i = 6
  · rw [if_pos h6, if_pos h6, ha (by omega) (by omega)]
  rw [if_neg h6, if_neg h6]
  by_cases h7 : qd_c K i = 7
  · rw [if_pos h7, if_pos h7, ha (by omega) (by omega)]
  rw [if_neg h7, if_neg h7]
  by_cases h8 : qd_c K i = 8
  · rw [if_pos h8, if_pos h8, ha (by omega) (by omega)]
  rw [if_neg h8, if_neg h8]
  by_cases h9 : qd_c K i = 9
  · rw [if_pos h9, if_pos h9, ha (by omega) (by omega)]
  rw [if_neg h9, if_neg h9]
  rw [ht]
theorem qd_shrB (v s : Int32) (h : qd_in v) : qd_in (v >>> (s &&& 31)) := by
  unfold qd_in at h ⊢
  rw [pk_shr v (s &&& 31) _ rfl, Int.shiftRight_eq_div_pow]
  generalize ((s &&& 31).toBitVec.smod 32).toNat = k
  have hp : (0 : Int) < ((2 ^ k : Nat) : Int) := by
    have := Nat.two_pow_pos k
    omega
  have hk : (1 : Int) ≤ ((2 ^ k : Nat) : Int) := by omega
  generalize ((2 ^ k : Nat) : Int) = m at hp hk
  constructor
  · rw [Int.le_ediv_iff_mul_le hp]
    have : (32768 : Int) * 1 ≤ 32768 * m := Int.mul_le_mul_of_nonneg_left hk (by decide)
    have e : (-32768 : Int) * m = -(32768 * m) := Int.neg_mul _ _
    rw [e]; omega
  · have : v.toInt / m < 32768 := by
      rw [Int.ediv_lt_iff_lt_mul hp]
      have : (32768 : Int) * 1 ≤ 32768 * m := Int.mul_le_mul_of_nonneg_left hk (by decide)
      omega
    omega
theorem qd_val_in (P V : Nat → Int32) (i : Nat) (ho : qd_ok K A B T TN TC i) (hx : qd_in x) (hP : ∀ j, qd_in (P j)) (hV : ∀ j, qd_in (V j)) : qd_in (qd_val K A B T TN TC x P V i) := by
  have h1 := ho.2.2.2.2.2
  unfold qd_val
  by_cases g0 : qd_c K i = 0
  · rw [if_pos g0]
    exact hx
  rw [if_neg g0]
  by_cases g1 : qd_c K i = 1
  · rw [if_pos g1]
    exact h1 g1
  rw [if_neg g1]
  by_cases g2 : qd_c K i = 2
  · rw [if_pos g2]
    exact hP _
  rw [if_neg g2]
  by_cases g3 : qd_c K i = 3
  · rw [if_pos g3]
    exact qd_sat_in _
  rw [if_neg g3]
  by_cases g4 : qd_c K i = 4
  · rw [if_pos g4]
    exact qd_sat_in _
  rw [if_neg g4]
  by_cases g5 : qd_c K i = 5
  · rw [if_pos g5]
    by_cases h : V (qd_c A i) ≤ V (qd_c B i)
    · rw [if_pos h]; exact hV _
    · rw [if_neg h]; exact hV _
  rw [if_neg g5]
  by_cases g6 : qd_c K i = 6
  · rw [if_pos g6]
    exact qd_sat_in _
  rw [if_neg g6]
  by_cases g7 : qd_c K i = 7
  · rw [if_pos g7]
    by_cases h : 0 ≤ V (qd_c A i)
    · rw [if_pos h]; exact qd_sat_in _
    · rw [if_neg h]; exact qd_sat_in _
  rw [if_neg g7]
  by_cases g8 : qd_c K i = 8
  · rw [if_pos g8]
    exact qd_sat_in _
  rw [if_neg g8]
  by_cases g9 : qd_c K i = 9
  · rw [if_pos g9]
    exact qd_shrB _ _ (hV _)
  rw [if_neg g9]
  exact qd_sat_in _
end
end
section
/-! the walks that reckon a node's value, and a sample -/
section
variable (n : Nat) (pc sc : Int32) (K A B T TN TC ord pl V pv : Nat → Int32)
theorem qd_sum20 {post : Int32 → Prop} (i t : Nat) (hi : i < 20) (ht : t ≤ 6) (hk : ∀ q, q < t → TN (6 * i + q) = nI (qd_c TN (6 * i + q)) ∧ qd_c TN (6 * i + q) < 20) (hp : post (qd_fin (qd_ts TN TC V i t))) :
    ∀ d q, q + d = t → wX_sumOfTaps_20 post (nI (6 * i + t)) pc (nI n) sc K A B T TN TC ord pl V pv (d + 1) (qd_ts TN TC V i q) (nI (6 * i + q)) := by
  intro d
  induction d with
  | zero =>
    intro q hq
    rw [wX_sumOfTaps_20]
    have e : q = t := by omega
    subst e
    exact br_t (nI_le (Nat.le_refl _) (by omega)) (nm_e (qd_satX hp))
  | succ d ih =>
    intro q hq
    rw [wX_sumOfTaps_20]
    obtain ⟨e1, e2⟩ := hk q (by omega)
    have hv : vp_in (TN (6 * i + q)) 20 := by rw [e1]; exact vp_in_nI e2 (by omega)
    refine br_f (nI_ge (by omega) (by omega)) ⟨vp_in_nI (by omega) (by omega), vp_in_nI (by omega) (by omega), ?_⟩
    rw [nI_clamp (by omega)]
    exact ⟨hv, nm_e (nm_r (nI_1 (6 * i + q)) (ih (q + 1) (by omega)))⟩
theorem qd_sumX {post : Int32 → Prop} (i : Nat) (hi : i < 20) (ho : qd_ok K A B T TN TC i) (hp : post (qd_fin (qd_ts TN TC V i (qd_c T i)))) :
    wpX_sumOfTaps post (pc, nI n, sc, K, A, B, T, TN, TC, ord, pl, V, pv) (nI i) := by
  obtain ⟨_, _, _, ⟨t1, t2, _⟩, ot, _⟩ := ho
  unfold wpX_sumOfTaps
  dsimp only
  refine nm_r (e' := nI (6 * i)) (by rw [show (6 : Int32) = nI 6 from rfl, pk_mul, Nat.mul_comm]) ⟨vp_in_nI hi (by omega), ?_⟩
  rw [nI_clamp (by omega), t1]
  refine nm_r (nI_add (6 * i) (qd_c T i)) ⟨qd_c T i + 1, ?_⟩
  exact qd_sum20 n pc sc K A B T TN TC ord pl V pv i (qd_c T i) hi t2 (fun q hq => ⟨(ot q hq).1, (ot q hq).2.1⟩) hp (qd_c T i) 0 (by omega)
theorem qd_compX {post : Int32 → Prop} (x : Int32) (P : Nat → Int32) (i : Nat) (hi : i < 20) (ho : qd_ok K A B T TN TC i) (hP : ∀ j, j < 20 → pv j = P j) (hp : post (qd_val K A B T TN TC x P V i)) :
    wpX_computed post (pc, nI n, sc, K, A, B, T, TN, TC, ord, pl, V, pv) (nI i) x := by
  have ho' := ho
  obtain ⟨⟨k1, k2⟩, oa, ob, _⟩ := ho
  have va : 2 ≤ qd_c K i → qd_c K i ≤ 9 → vp_in (A i) 20 := fun a b => by
    obtain ⟨e1, e2⟩ := oa a b
    rw [e1]; exact vp_in_nI e2 (by omega)
  have vb : 3 ≤ qd_c K i → qd_c K i ≤ 5 → vp_in (B i) 20 := fun a b => by
    obtain ⟨e1, e2⟩ := ob a b
    rw [e1]; exact vp_in_nI e2 (by omega)
  unfold qd_val at hp
  unfold wpX_computed
  dsimp only
  refine ⟨vp_in_nI hi (by omega), ?_⟩
  rw [nI_clamp (by omega)]
  refine nm_e ⟨vp_in_nI hi (by omega), nm_e ⟨vp_in_nI hi (by omega), nm_r k1 ?_⟩⟩
  refine pk_lt (qd_c K i) 0 (fun h => absurd h (by omega)) (fun _ => ?_)
  refine pk_lt 9 (qd_c K i) (fun h => ?_) (fun h9 => ?_)
  · rw [if_neg (by omega), if_neg (by omega), if_neg (by omega), if_neg (by omega), if_neg (by omega), if_neg (by omega), if_neg (by omega), if_neg (by omega), if_neg (by omega), if_neg (by omega)] at hp
    exact qd_sumX n pc sc K A B T TN TC ord pl V pv i hi ho' hp
  refine pk_eq (qd_c K i) 0 (fun h0 => ?_) (fun h0 => ?_)
  · rw [if_pos h0] at hp
    exact hp
  rw [if_neg h0] at hp
  refine pk_eq (qd_c K i) 1 (fun h1 => ?_) (fun h1 => ?_)
  · rw [if_pos h1] at hp
    exact hp
  rw [if_neg h1] at hp
  refine pk_eq (qd_c K i) 2 (fun h2 => ?_) (fun h2 => ?_)
  · rw [if_pos h2] at hp
    refine ⟨va (by omega) (by omega), ?_⟩
    rw [show pv (A i).toNatClampNeg = P (qd_c A i) from hP _ (oa (by omega) (by omega)).2]
    exact hp
  rw [if_neg h2] at hp
  refine pk_eq (qd_c K i) 3 (fun h3 => ?_) (fun h3 => ?_)
  · rw [if_pos h3] at hp
    exact ⟨va (by omega) (by omega), vb (by omega) (by omega), qd_satX hp⟩
  rw [if_neg h3] at hp
  refine pk_eq (qd_c K i) 4 (fun h4 => ?_) (fun h4 => ?_)
  · rw [if_pos h4] at hp
    exact ⟨va (by omega) (by omega), vb (by omega) (by omega), qd_satX hp⟩
  rw [if_neg h4] at hp
  refine pk_eq (qd_c K i) 5 (fun h5 => ?_) (fun h5 => ?_)
  · rw [if_pos h5] at hp
    refine ⟨va (by omega) (by omega), vb (by omega) (by omega), br_c (fun h => ⟨vb (by omega) (by omega), ?_⟩) (fun h => ⟨va (by omega) (by omega), ?_⟩)⟩
    · rw [if_pos (show V (qd_c A i) ≤ V (qd_c B i) from h)] at hp; exact hp
    · rw [if_neg (show ¬ V (qd_c A i) ≤ V (qd_c B i) from h)] at hp; exact hp
  rw [if_neg h5] at hp
  refine pk_eq (qd_c K i) 6 (fun h6 => ?_) (fun h6 => ?_)
  · rw [if_pos h6] at hp
    exact ⟨va (by omega) (by omega), qd_satX hp⟩
  rw [if_neg h6] at hp
  refine pk_eq (qd_c K i) 7 (fun h7 => ?_) (fun h7 => ?_)
  · rw [if_pos h7] at hp
    refine ⟨va (by omega) (by omega), br_c (fun h => ⟨va (by omega) (by omega), ?_⟩) (fun h => ⟨va (by omega) (by omega), ?_⟩)⟩
    · rw [if_pos (show 0 ≤ V (qd_c A i) from h)] at hp; unfold wX_computed_192; exact qd_satX hp
    · rw [if_neg (show ¬ 0 ≤ V (qd_c A i) from h)] at hp; unfold wX_computed_192; exact qd_satX hp
  rw [if_neg h7] at hp
  refine pk_eq (qd_c K i) 8 (fun h8 => ?_) (fun h8 => ?_)
  · rw [if_pos h8] at hp
    exact ⟨va (by omega) (by omega), qd_satX hp⟩
  rw [if_neg h8] at hp
  refine pk_eq (qd_c K i) 9 (fun h9' => ?_) (fun _ => trivial)
  rw [if_pos h9'] at hp
  exact ⟨va (by omega) (by omega), hp⟩
end
section
variable (n : Nat) (sc : Int32) (K A B T TN TC V bf nm : Nat → Int32)
theorem qd_nowAt {post : Int32 → Prop} (a : Nat) (ha : a < 20) (hn : n ≤ 20) (hv : ∀ j, n ≤ j → V j = 0) (hp : post (V a)) : wpY_nowAt post (nI n, sc, K, A, B, T, TN, TC, V, bf, nm) (nI a) := by
  unfold wpY_nowAt
  dsimp only
  refine pk_le n a (fun h => ?_) (fun h => ⟨vp_in_nI ha (by omega), ?_⟩)
  · rw [hv a h] at hp; exact hp
  · rw [nI_clamp (by omega)]; exact hp
theorem qd_sum7 {post : Int32 → Prop} (i : Nat) (hi : i < 20) (hn : n ≤ 20) (ho : qd_ok K A B T TN TC i) (hv : ∀ j, n ≤ j → V j = 0) (hV : ∀ j, qd_in (V j)) (hp : post (qd_fin (qd_ts TN TC V i (qd_c T i)))) :
    ∀ d q, q + d = qd_c T i → wY_sumOf_7 post (nI i) (nI n) sc K A B T TN TC V bf nm (d + 1) (qd_ts TN TC V i q + 16384) (nI q) := by
  obtain ⟨_, _, _, ⟨t1, t2, _⟩, ot, _⟩ := ho
  intro d
  induction d with
  | zero =>
    intro q hq
    rw [wY_sumOf_7]
    refine ⟨vp_in_nI hi (by omega), ?_⟩
    rw [nI_clamp (by omega), t1]
    have e : q = qd_c T i := by omega
    rw [e]
    have hb := qd_tsB TN TC V i hV (qd_c T i) t2 (fun z hz => (ot z hz).2.2)
    exact br_t (nI_le (Nat.le_refl _) (by omega)) (qd_finY (by omega) (by omega) hp)
  | succ d ih =>
    intro q hq
    rw [wY_sumOf_7]
    refine ⟨vp_in_nI hi (by omega), ?_⟩
    rw [nI_clamp (n := i) (by omega), t1]
    refine br_f (nI_ge (by omega) (by omega)) ?_
    rw [qd_six]
    obtain ⟨e1, e2, _⟩ := ot q (by omega)
    refine ⟨vp_in_nI (by omega) (by omega), ?_⟩
    rw [nI_clamp (by omega)]
    rw [e1]
    refine qd_nowAt n sc K A B T TN TC V bf nm (qd_c TN (6 * i + q)) e2 hn hv ⟨vp_in_nI (by omega) (by omega), nm_r (e' := qd_ts TN TC V i (q + 1) + 16384) ?_ (nm_r (nI_1 q) (ih (q + 1) (by omega)))⟩
    show _ = qd_ts TN TC V i q + (TC (6 * i + q)).toInt64 * (V (qd_c TN (6 * i + q))).toInt64 + 16384
    rw [Int64.add_assoc, Int64.add_comm 16384, Int64.add_assoc]
theorem qd_sumY {post : Int32 → Prop} (i : Nat) (hi : i < 20) (hn : n ≤ 20) (ho : qd_ok K A B T TN TC i) (hv : ∀ j, n ≤ j → V j = 0) (hV : ∀ j, qd_in (V j)) (hp : post (qd_fin (qd_ts TN TC V i (qd_c T i)))) :
    wpY_sumOf post (nI n, sc, K, A, B, T, TN, TC, V, bf, nm) (nI i) := by
  unfold wpY_sumOf
  dsimp only
  exact ⟨qd_c T i + 1, qd_sum7 n sc K A B T TN TC V bf nm i hi hn ho hv hV hp (qd_c T i) 0 (by omega)⟩
theorem qd_compY {post : Int32 → Prop} (s : Nat) (hs : s < 100000) (x : Int32) (P : Nat → Int32) (i : Nat) (hi : i < 20) (hn : n ≤ 20) (ho : qd_ok K A B T TN TC i) (hv : ∀ j, n ≤ j → V j = 0) (hV : ∀ j, qd_in (V j))
    (hb : ∀ j, j < n → bf j = P j) (hP0 : s = 0 → ∀ j, P j = 0) (hPn : ∀ j, n ≤ j → P j = 0) (hp : post (qd_val K A B T TN TC (qd_sat x) P V i)) :
    wpY_worth post (nI n, nI s, K, A, B, T, TN, TC, V, bf, nm) (nI i) x := by
  have ho' := ho
  obtain ⟨⟨k1, k2⟩, oa, ob, _⟩ := ho
  have vi : vp_in (nI i) 20 := vp_in_nI hi (by omega)
  unfold qd_val at hp
  unfold wpY_worth
  dsimp only
  refine ⟨vi, ?_⟩
  rw [nI_clamp (by omega), k1]
  refine pk_eq (qd_c K i) 0 (fun h0 => ?_) (fun h0 => ⟨vi, ?_⟩)
  · rw [if_pos h0] at hp
    exact qd_satY hp
  refine pk_eq (qd_c K i) 1 (fun h1 => ?_) (fun h1 => ⟨vi, ?_⟩)
  · rw [if_neg (by omega), if_pos h1] at hp
    exact ⟨vi, hp⟩
  refine pk_eq (qd_c K i) 10 (fun h10 => ?_) (fun h10 => ⟨vi, ?_⟩)
  · rw [if_neg (by omega), if_neg (by omega), if_neg (by omega), if_neg (by omega), if_neg (by omega), if_neg (by omega), if_neg (by omega), if_neg (by omega), if_neg (by omega), if_neg (by omega)] at hp
    exact qd_sumY n (nI s) K A B T TN TC V bf nm i hi hn ho' hv hV hp
  refine pk_eq (qd_c K i) 2 (fun h2 => ?_) (fun h2 => ⟨vi, ?_⟩)
  · rw [if_neg (by omega), if_neg (by omega), if_pos h2] at hp
    obtain ⟨a1, a2⟩ := oa (by omega) (by omega)
    refine pk_eq s 0 (fun hs0 => ?_) (fun hs0 => ⟨vi, ?_⟩)
    · rw [hP0 hs0] at hp; exact hp
    · rw [a1]
      refine pk_lt (qd_c A i) n (fun h => ⟨vi, vp_in_nI a2 (by omega), ?_⟩) (fun h => ?_)
      · rw [nI_clamp (by omega), hb _ h]; exact hp
      · rw [hPn _ h] at hp; exact hp
  obtain ⟨a1, a2⟩ := oa (by omega) (by omega)
  rw [a1]
  refine qd_nowAt n (nI s) K A B T TN TC V bf nm (qd_c A i) a2 hn hv ⟨vi, ?_⟩
  refine pk_eq (qd_c K i) 6 (fun h6 => ?_) (fun h6 => ⟨vi, ?_⟩)
  · rw [if_neg (by omega), if_neg (by omega), if_neg (by omega), if_neg (by omega), if_neg (by omega), if_neg (by omega), if_pos h6] at hp
    exact qd_satY hp
  refine pk_eq (qd_c K i) 7 (fun h7 => ?_) (fun h7 => ⟨vi, ?_⟩)
  · rw [if_neg (by omega), if_neg (by omega), if_neg (by omega), if_neg (by omega), if_neg (by omega), if_neg (by omega), if_neg (by omega), if_pos h7] at hp
    unfold wY_worth_150
    refine br_c (fun h => ?_) (fun h => ?_)
    · rw [if_pos h] at hp; exact qd_satY hp
    · rw [if_neg h] at hp; exact qd_satY hp
  refine pk_eq (qd_c K i) 8 (fun h8 => ?_) (fun h8 => ⟨vi, ?_⟩)
  · rw [if_neg (by omega), if_neg (by omega), if_neg (by omega), if_neg (by omega), if_neg (by omega), if_neg (by omega), if_neg (by omega), if_neg (by omega), if_pos h8] at hp
    exact ⟨vi, qd_satY hp⟩
  refine pk_eq (qd_c K i) 9 (fun h9 => ?_) (fun h9 => ⟨vi, ?_⟩)
  · rw [if_neg (by omega), if_neg (by omega), if_neg (by omega), if_neg (by omega), if_neg (by omega), if_neg (by omega), if_neg (by omega), if_neg (by omega), if_neg (by omega), if_pos h9] at hp
    exact ⟨vi, hp⟩
  obtain ⟨b1, b2⟩ := ob (by omega) (by omega)
  rw [b1]
  refine qd_nowAt n (nI s) K A B T TN TC V bf nm (qd_c B i) b2 hn hv ⟨vi, ?_⟩
  refine pk_eq (qd_c K i) 3 (fun h3 => ?_) (fun h3 => ⟨vi, ?_⟩)
  · rw [if_neg (by omega), if_neg (by omega), if_neg (by omega), if_pos h3] at hp
    exact qd_satY hp
  refine pk_eq (qd_c K i) 4 (fun h4 => ?_) (fun h4 => ?_)
  · rw [if_neg (by omega), if_neg (by omega), if_neg (by omega), if_neg (by omega), if_pos h4] at hp
    exact qd_satY hp
  rw [if_neg (by omega), if_neg (by omega), if_neg (by omega), if_neg (by omega), if_neg (by omega), if_pos (show qd_c K i = 5 by omega)] at hp
  refine br_c (fun h => ?_) (fun h => ?_)
  · rw [if_pos h] at hp; exact hp
  · rw [if_neg h] at hp; exact hp
end
end
section
/-! a sample on both sides -/
/-- the values when the first k nodes of the order have taken theirs -/
def qd_run (K A B T TN TC : Nat → Int32) (x : Int32) (P ord V : Nat → Int32) : Nat → (Nat → Int32)
  | 0 => V
  | k + 1 => upd (qd_run K A B T TN TC x P ord V k) (qd_c ord k) (qd_val K A B T TN TC x P (qd_run K A B T TN TC x P ord V k) (qd_c ord k))
section
variable (n p : Nat) (sc : Int32) (K A B T TN TC ord pl : Nat → Int32)
theorem qd_ordc {R : Nat → Nat → Prop} {n p : Nat} {ord pl : Nat → Int32} (hn : n ≤ 20) (ho : qd_Or R n p ord pl) {k : Nat} (hk : k < p) : ord k = nI (qd_c ord k) ∧ qd_c ord k < n := by
  obtain ⟨i, hi, e, _⟩ := ho.2.2.1 k hk
  have : qd_c ord k = i := by unfold qd_c; rw [e]; exact nI_clamp (by omega)
  rw [this]; exact ⟨e, hi⟩
theorem qd_take28 {post : SX → Prop} (x : Int32) (P V pv : Nat → Int32) (hW : qd_WF n K A B T TN TC) (ho : qd_Or (qd_need K A B T TN) n p ord pl) (hP : ∀ j, j < 20 → pv j = P j)
    (hp : post (nI p, nI n, sc + 1, K, A, B, T, TN, TC, ord, pl, qd_run K A B T TN TC x P ord V p, pv)) :
    ∀ d k, k + d = p → wX_takeSample_28 post x (nI p) (nI n) sc (d + 1) (nI k) K A B T TN TC ord pl (qd_run K A B T TN TC x P ord V k) pv := by
  have hn := hW.1
  have hpn := qd_Or_p ho
  intro d
  induction d with
  | zero =>
    intro k hk
    rw [wX_takeSample_28]
    have e : k = p := by omega
    subst e
    exact br_t (nI_le (Nat.le_refl _) (by omega)) (nm_e hp)
  | succ d ih =>
    intro k hk
    rw [wX_takeSample_28]
    obtain ⟨e1, e2⟩ := qd_ordc hn ho (k := k) (by omega)
    refine br_f (nI_ge (by omega) (by omega)) ⟨vp_in_nI (by omega) (by omega), ?_⟩
    rw [nI_clamp (by omega)]
    refine nm_r e1 ?_
    refine qd_compX n (nI p) sc K A B T TN TC ord pl _ pv x P (qd_c ord k) (by omega) (hW.2 _ e2) hP ⟨vp_in_nI (by omega) (by omega), ?_⟩
    rw [nI_clamp (by omega)]
    exact nm_e (nm_r (nI_1 k) (ih (k + 1) (by omega)))
theorem qd_take2 {post : SX → Prop} (x : Int32) (V : Nat → Int32) (hW : qd_WF n K A B T TN TC) (ho : qd_Or (qd_need K A B T TN) n p ord pl)
    (hp : ∀ pv, post (nI p, nI n, sc + 1, K, A, B, T, TN, TC, ord, pl, qd_run K A B T TN TC x V ord V p, pv)) :
    ∀ d i pv, i + d = 20 → (∀ j, j < i → pv j = V j) → wX_takeSample_2 post x (nI p) (nI n) sc (d + 1) (nI i) K A B T TN TC ord pl V pv := by
  intro d
  induction d with
  | zero =>
    intro i pv hi hz
    rw [wX_takeSample_2]
    have e : i = 20 := by omega
    subst e
    exact br_t (by decide) ⟨p + 1, qd_take28 n p sc K A B T TN TC ord pl x V V pv hW ho hz (hp pv) p 0 (by omega)⟩
  | succ d ih =>
    intro i pv hi hz
    rw [wX_takeSample_2]
    refine br_f (nI_ge (b := 20) (by omega) (by decide)) ⟨vp_in_nI (by omega) (by omega), vp_in_nI (by omega) (by omega), ?_⟩
    rw [nI_clamp (by omega)]
    refine nm_e (nm_r (nI_1 i) (ih (i + 1) _ (by omega) (fun j hj => ?_)))
    by_cases e : j = i
    · rw [e, pk_us]
    · rw [pk_un e]; exact hz j (by omega)
theorem qd_take {post : SX → Prop} (x : Int32) (V pv : Nat → Int32) (hW : qd_WF n K A B T TN TC) (ho : qd_Or (qd_need K A B T TN) n p ord pl)
    (hp : ∀ pv, post (nI p, nI n, sc + 1, K, A, B, T, TN, TC, ord, pl, qd_run K A B T TN TC x V ord V p, pv)) :
    wpX_takeSample post (nI p, nI n, sc, K, A, B, T, TN, TC, ord, pl, V, pv) x := by
  unfold wpX_takeSample
  exact ⟨21, qd_take2 n p sc K A B T TN TC ord pl x V hW ho hp 20 0 pv (by omega) (fun j hj => by omega)⟩
theorem qd_run_hi (x : Int32) (P V : Nat → Int32) (hn : n ≤ 20) (ho : qd_Or (qd_need K A B T TN) n p ord pl) : ∀ k, k ≤ p → ∀ j, n ≤ j → qd_run K A B T TN TC x P ord V k j = V j := by
  intro k
  induction k with
  | zero => intro _ j _; rfl
  | succ k ih =>
    intro hk j hj
    obtain ⟨_, e2⟩ := qd_ordc hn ho (k := k) (by omega)
    unfold qd_run
    rw [pk_un (by omega)]
    exact ih (by omega) j hj
theorem qd_run_in (x : Int32) (P V : Nat → Int32) (hW : qd_WF n K A B T TN TC) (ho : qd_Or (qd_need K A B T TN) n p ord pl) (hx : qd_in x) (hP : ∀ j, qd_in (P j)) (hV : ∀ j, qd_in (V j)) : ∀ k, k ≤ p → ∀ j, qd_in (qd_run K A B T TN TC x P ord V k j) := by
  intro k
  induction k with
  | zero => intro _ j; exact hV j
  | succ k ih =>
    intro hk j
    obtain ⟨_, e2⟩ := qd_ordc hW.1 ho (k := k) (by omega)
    unfold qd_run
    by_cases e : j = qd_c ord k
    · rw [e, pk_us]
      exact qd_val_in K A B T TN TC x P _ _ (hW.2 _ e2) hx hP (ih (by omega))
    · rw [pk_un e]; exact ih (by omega) j
/-- a node that comes at k is named by none that comes at k or before -/
theorem qd_ord_ne {R : Nat → Nat → Prop} {n p : Nat} {ord pl : Nat → Int32} (hn : n ≤ 20) (ho : qd_Or R n p ord pl) {q k j : Nat} (hq : q ≤ k) (hk : k < p) (hr : R (qd_c ord q) j) : j ≠ qd_c ord k := by
  obtain ⟨e1, e2⟩ := qd_ordc hn ho hk
  intro e
  obtain ⟨i, hi, ei, _, hb⟩ := ho.2.2.1 q (by omega)
  have hc : qd_c ord q = i := by unfold qd_c; rw [ei]; exact nI_clamp (by omega)
  rw [hc] at hr
  obtain ⟨z, hz, ez⟩ := hb j (by omega) hr
  rw [e, ← e1] at ez
  have := ho.2.2.2 z k (by omega) hk ez
  omega
theorem qd_fix (x : Int32) (P V : Nat → Int32) (hn : n ≤ 20) (ho : qd_Or (qd_need K A B T TN) n p ord pl) : ∀ k, k ≤ p → ∀ q, q < k → qd_run K A B T TN TC x P ord V k (qd_c ord q) = qd_val K A B T TN TC x P (qd_run K A B T TN TC x P ord V k) (qd_c ord q) := by
  intro k
  induction k with
  | zero => intro _ q hq; omega
  | succ k ih =>
    intro hk q hq
    have dep : qd_val K A B T TN TC x P (qd_run K A B T TN TC x P ord V (k + 1)) (qd_c ord q) = qd_val K A B T TN TC x P (qd_run K A B T TN TC x P ord V k) (qd_c ord q) := by
      refine qd_val_dep K A B T TN TC x P _ _ _ (fun j hj => ?_)
      show upd _ _ _ j = _
      exact pk_un (qd_ord_ne hn ho (by omega) (by omega) hj)
    rw [dep]
    show upd _ _ _ _ = _
    by_cases e : q = k
    · subst e; exact pk_us
    · have ne : qd_c ord q ≠ qd_c ord k := by
        intro e2
        have h1 := qd_ordc hn ho (k := q) (by omega)
        have h2 := qd_ordc hn ho (k := k) (by omega)
        exact e (ho.2.2.2 q k (by omega) (by omega) (by rw [h1.1, h2.1, e2]))
      rw [pk_un ne]
      exact ih (by omega) q (by omega)
/-- what the reference's rounds keep: the nodes at the first r places of the order are right -/
def qd_Fd (n p r i : Nat) (ord W now : Nat → Int32) : Prop :=
  (∀ j, n ≤ j → now j = 0) ∧ (∀ j, qd_in (now j)) ∧ (∀ q, q < p → (q < r ∨ (q = r ∧ qd_c ord q < i)) → now (qd_c ord q) = W (qd_c ord q))
theorem qd_Fd_s (x : Int32) (P W : Nat → Int32) {r i : Nat} {now : Nat → Int32} (hW : qd_WF n K A B T TN TC) (ho : qd_Or (qd_need K A B T TN) n p ord pl) (hx : qd_in x) (hP : ∀ j, qd_in (P j)) (hi : i < n)
    (hw : ∀ q, q < p → W (qd_c ord q) = qd_val K A B T TN TC x P W (qd_c ord q)) (hw0 : ∀ j, n ≤ j → W j = 0) (h : qd_Fd n p r i ord W now) :
    qd_Fd n p r (i + 1) ord W (upd now i (qd_val K A B T TN TC x P now i)) := by
  obtain ⟨h1, h2, h3⟩ := h
  refine ⟨fun j hj => ?_, fun j => ?_, fun q hq hr => ?_⟩
  · rw [pk_un (by omega)]; exact h1 j hj
  · by_cases e : j = i
    · rw [e, pk_us]; exact qd_val_in K A B T TN TC x P _ _ (hW.2 i hi) hx hP h2
    · rw [pk_un e]; exact h2 j
  · by_cases e : qd_c ord q = i
    · rw [e, pk_us, ← e, hw q hq]
      refine qd_val_dep K A B T TN TC x P _ _ _ (fun j hj => ?_)
      by_cases hjn : j < n
      · obtain ⟨a, ha, ea, _, hb⟩ := ho.2.2.1 q hq
        have hc : qd_c ord q = a := by unfold qd_c; rw [ea]; exact nI_clamp (by have := hW.1; omega)
        rw [hc] at hj
        obtain ⟨z, hz, ez⟩ := hb j hjn hj
        have hzc : qd_c ord z = j := by unfold qd_c; rw [ez]; exact nI_clamp (by have := hW.1; omega)
        have := h3 z (by omega) (Or.inl (by omega))
        rw [hzc] at this; exact this
      · rw [h1 j (by omega), hw0 j (by omega)]
    · rw [pk_un e]
      exact h3 q hq (by omega)
theorem qd_feed47 {post : Int32 → SY → Prop} {J : Int32 → (Nat → Int32) → (Nat → Int32) → (Nat → Int32) → (Nat → Int32) → (Nat → Int32) → (Nat → Int32) → (Nat → Int32) → (Nat → Int32) → (Nat → Int32) → Prop}
    (s : Nat) (hs : s < 100000) (x : Int32) (P W bf nm : Nat → Int32) (r : Nat) (hW : qd_WF n K A B T TN TC) (ho : qd_Or (qd_need K A B T TN) n p ord pl) (hP : ∀ j, qd_in (P j))
    (hb : ∀ j, j < n → bf j = P j) (hP0 : s = 0 → ∀ j, P j = 0) (hPn : ∀ j, n ≤ j → P j = 0)
    (hw : ∀ q, q < p → W (qd_c ord q) = qd_val K A B T TN TC (qd_sat x) P W (qd_c ord q)) (hw0 : ∀ j, n ≤ j → W j = 0)
    (hJ : ∀ now, qd_Fd n p (r + 1) 0 ord W now → J (nI (r + 1)) K A B T TN TC now bf nm) :
    ∀ d i now, i + d = n → qd_Fd n p r i ord W now → wY_feed_47 post J x (nI r) (nI n) (nI s) (d + 1) (nI i) K A B T TN TC now bf nm := by
  have hn := hW.1
  intro d
  induction d with
  | zero =>
    intro i now hi hf
    rw [wY_feed_47]
    have e : i = n := by omega
    subst e
    refine br_t (nI_le (Nat.le_refl _) (by omega)) (nm_r (nI_1 r) (hJ now ⟨hf.1, hf.2.1, fun q hq hr => hf.2.2 q hq ?_⟩))
    have := (qd_ordc hn ho hq).2
    omega
  | succ d ih =>
    intro i now hi hf
    rw [wY_feed_47]
    refine br_f (nI_ge (by omega) (by omega)) ?_
    refine qd_compY n K A B T TN TC now bf nm s hs x P i (by omega) hn (hW.2 i (by omega)) hf.1 hf.2.1 hb hP0 hPn ⟨vp_in_nI (by omega) (by omega), ?_⟩
    rw [nI_clamp (by omega)]
    exact nm_e (nm_r (nI_1 i) (ih (i + 1) _ (by omega) (qd_Fd_s n p K A B T TN TC ord pl (qd_sat x) P W hW ho (qd_sat_in x) hP (by omega) hw hw0 hf)))
theorem qd_feed39 {post : Int32 → SY → Prop}
    (s : Nat) (hs : s < 100000) (x : Int32) (P W bf nm : Nat → Int32) (hW : qd_WF n K A B T TN TC) (ho : qd_Or (qd_need K A B T TN) n p ord pl) (hP : ∀ j, qd_in (P j))
    (hb : ∀ j, j < n → bf j = P j) (hP0 : s = 0 → ∀ j, P j = 0) (hPn : ∀ j, n ≤ j → P j = 0)
    (hw : ∀ q, q < p → W (qd_c ord q) = qd_val K A B T TN TC (qd_sat x) P W (qd_c ord q)) (hw0 : ∀ j, n ≤ j → W j = 0)
    (hp : ∀ now, qd_Fd n p 20 0 ord W now → post 1 (nI n, nI (s + 1), K, A, B, T, TN, TC, now, bf, nm)) :
    ∀ d r now, r + d = 20 → qd_Fd n p r 0 ord W now → wY_feed_39 post x (nI n) (nI s) (d + 1) (nI r) K A B T TN TC now bf nm := by
  intro d
  induction d with
  | zero =>
    intro r now hr hf
    rw [wY_feed_39]
    have e : r = 20 := by omega
    subst e
    exact br_t (by decide) (nm_r (nI_1 s) (hp now hf))
  | succ d ih =>
    intro r now hr hf
    rw [wY_feed_39]
    refine br_f (nI_ge (b := 20) (by omega) (by decide)) ⟨n + 1, ?_⟩
    exact qd_feed47 n p K A B T TN TC ord pl s hs x P W bf nm r hW ho hP hb hP0 hPn hw hw0 (fun now' hf' => ih (r + 1) now' (by omega) hf') n 0 now (by omega) hf
theorem qd_feed11 {post : Int32 → SY → Prop} (s : Int32) (x : Int32) (V nm : Nat → Int32) (hn : n ≤ 20)
    (hp : ∀ bf, (∀ j, j < n → bf j = V j) → ∃ n39 : Nat, wY_feed_39 post x (nI n) s n39 0 K A B T TN TC V bf nm) :
    ∀ d i bf, i + d = n → (∀ j, j < i → bf j = V j) → wY_feed_11 post x (nI n) s (d + 1) (nI i) K A B T TN TC V bf nm := by
  intro d
  induction d with
  | zero =>
    intro i bf hi hz
    rw [wY_feed_11]
    have e : i = n := by omega
    subst e
    exact br_t (nI_le (Nat.le_refl _) (by omega)) (hp bf hz)
  | succ d ih =>
    intro i bf hi hz
    rw [wY_feed_11]
    refine br_f (nI_ge (by omega) (by omega)) ⟨vp_in_nI (by omega) (by omega), vp_in_nI (by omega) (by omega), ?_⟩
    rw [nI_clamp (by omega)]
    refine nm_e (nm_r (nI_1 i) (ih (i + 1) _ (by omega) (fun j hj => ?_)))
    by_cases e : j = i
    · rw [e, pk_us]
    · rw [pk_un e]; exact hz j (by omega)
/-- the reference's sample: not sound, nothing but the scratch is changed; sound, the component's values -/
theorem qd_feedY {post : Int32 → SY → Prop} (s : Nat) (hs : s < 100000) (x : Int32) (V bf nm : Nat → Int32) (hW : qd_WF n K A B T TN TC) (ho : qd_Or (qd_need K A B T TN) n p ord pl) (hc : qd_Cl (qd_need K A B T TN) n pl)
    (hV : ∀ j, qd_in (V j)) (hV0 : s = 0 → ∀ j, V j = 0) (hVn : ∀ j, n ≤ j → V j = 0)
    (h1 : p = n → ∀ bf nm, post 1 (nI n, nI (s + 1), K, A, B, T, TN, TC, qd_run K A B T TN TC (qd_sat x) V ord V p, bf, nm))
    (h0 : p ≠ n → ∀ nm, post 0 (nI n, nI s, K, A, B, T, TN, TC, V, bf, nm)) :
    wpY_feed post (nI n, nI s, K, A, B, T, TN, TC, V, bf, nm) x := by
  have hn := hW.1
  unfold wpY_feed
  dsimp only
  refine qd_sound n (nI s) K A B T TN TC V bf nm hW ho hc (fun hpn nm' => ?_) (fun hpn nm' => ?_)
  · refine br_f (by decide) ⟨n + 1, ?_⟩
    refine qd_feed11 n K A B T TN TC (nI s) x V nm' hn (fun bf' hb => ⟨21, ?_⟩) n 0 bf (by omega) (fun j hj => by omega)
    refine qd_feed39 n p K A B T TN TC ord pl s hs x V (qd_run K A B T TN TC (qd_sat x) V ord V p) bf' nm' hW ho hV hb hV0 hVn (fun q hq => qd_fix n p K A B T TN TC ord pl (qd_sat x) V V hn ho p (Nat.le_refl _) q hq) (fun j hj => ?_) (fun now hf => ?_) 20 0 V (by omega) ⟨hVn, hV, fun q hq hr => by omega⟩
    · rw [qd_run_hi n p K A B T TN TC ord pl (qd_sat x) V V hn ho p (Nat.le_refl _) j hj]; exact hVn j hj
    · have e : now = qd_run K A B T TN TC (qd_sat x) V ord V p := funext fun j => by
        by_cases hj : j < n
        · have hpl : ¬ pl j = 0 := by
            have := qd_cn_full _ n (ho.1.symm.trans hpn) j hj
            simpa using this
          obtain ⟨k, hk, ek⟩ := ho.2.1 j hj hpl
          have hkc : qd_c ord k = j := by unfold qd_c; rw [ek]; exact nI_clamp (by omega)
          have := hf.2.2 k hk (Or.inl (by omega))
          rw [hkc] at this; exact this
        · rw [hf.1 j (by omega), qd_run_hi n p K A B T TN TC ord pl (qd_sat x) V V hn ho p (Nat.le_refl _) j (by omega)]
          exact (hVn j (by omega)).symm
      rw [e]; exact h1 hpn bf' nm'
  · exact br_t rfl (h0 hpn nm')
end
end
section
/-! what may be made, and what stays as it was -/
def qd_F (c : Nat) (a b : Int32) : Prop :=
  (c = 1 → ¬ a < -32768 ∧ ¬ 32767 < a) ∧ (2 ≤ c → c ≤ 9 → ¬ a < 0 ∧ ¬ 19 < a) ∧ (3 ≤ c → c ≤ 5 → ¬ b < 0 ∧ ¬ 19 < b) ∧ (c = 8 → ¬ b < 0 ∧ ¬ 7 < b) ∧ (c = 9 → ¬ b < 0 ∧ ¬ 15 < b)
theorem qd_wi {post : Int32 → Prop} {v lo hi : Int32} (h1 : (¬ v < lo ∧ ¬ hi < v) → post 1) (h0 : ¬ (¬ v < lo ∧ ¬ hi < v) → post 0) : wpX_isWithin post v lo hi := by
  unfold wpX_isWithin
  exact br_c (fun h => h0 (fun z => z.1 h)) (fun h => br_c (fun h2 => h0 (fun z => z.2 h2)) (fun h2 => h1 ⟨h, h2⟩))
theorem qd_can44 {post : Int32 → Prop} (c : Nat) (hc : c ≤ 10) (a b : Int32) (hc1 : c ≠ 1) (ha : 2 ≤ c → c ≤ 9 → ¬ a < 0 ∧ ¬ 19 < a) (h1 : qd_F c a b → post 1) (h0 : ¬ qd_F c a b → post 0) : wX_canBeMade_44 post (nI c) b := by
  unfold wX_canBeMade_44
  refine pk_eq c 8 (fun h8 => qd_wi (fun x => ⟨qd_nb1, h1 ?_⟩) (fun x => ⟨qd_nb0, h0 ?_⟩)) (fun h8 => ?_)
  · exact ⟨fun h => by omega, ha, fun _ h => by omega, fun _ => x, fun h => by omega⟩
  · exact fun f => x (f.2.2.2.1 h8)
  refine pk_eq c 9 (fun h9 => qd_wi (fun x => ⟨qd_nb1, h1 ?_⟩) (fun x => ⟨qd_nb0, h0 ?_⟩)) (fun h9 => ?_)
  · exact ⟨fun h => by omega, ha, fun _ h => by omega, fun h => by omega, fun _ => x⟩
  · exact fun f => x (f.2.2.2.2 h9)
  unfold wpX_namesSecond
  refine qd_within c 3 5 (by omega) (by omega) (by omega) (fun x y => ⟨qd_nb1, br_f (by decide) ?_⟩) (fun x => ⟨qd_nb0, br_t rfl (h1 ?_)⟩)
  · unfold wpX_isNodeNumber
    refine qd_wi (fun z => ⟨qd_nb1, br_f (by decide) (h1 ?_)⟩) (fun z => ⟨qd_nb0, br_t rfl (h0 ?_)⟩)
    · exact ⟨fun h => by omega, ha, fun _ _ => z, fun h => by omega, fun h => by omega⟩
    · exact fun f => z (f.2.2.1 x y)
  · exact ⟨fun h => by omega, ha, fun h h' => by omega, fun h => by omega, fun h => by omega⟩
theorem qd_canX {post : Int32 → Prop} (c : Nat) (hc : c ≤ 10) (a b : Int32) (h1 : qd_F c a b → post 1) (h0 : ¬ qd_F c a b → post 0) : wpX_canBeMade post (nI c) a b := by
  unfold wpX_canBeMade
  refine qd_within c 0 10 (by omega) (by omega) (by omega) (fun _ _ => br_f (by decide) ?_) (fun h => by omega)
  refine pk_eq c 1 (fun hc1 => qd_wi (fun x => ⟨qd_nb1, h1 ?_⟩) (fun x => ⟨qd_nb0, h0 ?_⟩)) (fun hc1 => ?_)
  · exact ⟨fun _ => x, fun h => by omega, fun h => by omega, fun h => by omega, fun h => by omega⟩
  · exact fun f => x (f.1 hc1)
  unfold wpX_namesFirst
  refine qd_within c 2 9 (by omega) (by omega) (by omega) (fun x y => ⟨qd_nb1, br_f (by decide) ?_⟩) (fun x => ⟨qd_nb0, br_t rfl (qd_can44 c hc a b hc1 (fun h h' => by omega) h1 h0)⟩)
  unfold wpX_isNodeNumber
  exact qd_wi (fun z => ⟨qd_nb1, br_f (by decide) (qd_can44 c hc a b hc1 (fun _ _ => z) h1 h0)⟩) (fun z => ⟨qd_nb0, br_t rfl (h0 (fun f => z (f.2.1 x y)))⟩)
theorem qd_canX0 {post : Int32 → Prop} {k : Int32} (a b : Int32) (h : ¬ (¬ k < 0 ∧ ¬ 10 < k)) (h0 : post 0) : wpX_canBeMade post k a b := by
  unfold wpX_canBeMade
  exact qd_wi (fun x => absurd x h) (fun _ => br_t rfl h0)
section
variable (u1 u2 : Int32) (K A B T TN TC V bf nm : Nat → Int32)
theorem qd_isName {post : Int32 → Prop} {v : Int32} (h1 : (¬ v < 0 ∧ ¬ 19 < v) → post 1) (h0 : ¬ (¬ v < 0 ∧ ¬ 19 < v) → post 0) : wpY_isName post (u1, u2, K, A, B, T, TN, TC, V, bf, nm) v := by
  unfold wpY_isName
  exact br_c (fun h => h0 (fun z => z.1 h)) (fun h => br_c (fun h2 => h0 (fun z => z.2 h2)) (fun h2 => h1 ⟨h, h2⟩))
theorem qd_isValue {post : Int32 → Prop} {v : Int32} (h1 : (¬ v < -32768 ∧ ¬ 32767 < v) → post 1) (h0 : ¬ (¬ v < -32768 ∧ ¬ 32767 < v) → post 0) : wpY_isValue post (u1, u2, K, A, B, T, TN, TC, V, bf, nm) v := by
  unfold wpY_isValue
  exact br_c (fun h => h0 (fun z => z.1 h)) (fun h => br_c (fun h2 => h0 (fun z => z.2 h2)) (fun h2 => h1 ⟨h, h2⟩))
theorem qd_fits60 {post : Int32 → Prop} (c : Nat) (hc : c ≤ 10) (a b : Int32) (hc1 : c ≠ 1) (hc2 : c < 3 ∨ 5 < c) (ha : 2 ≤ c → c ≤ 9 → ¬ a < 0 ∧ ¬ 19 < a) (h1 : qd_F c a b → post 1) (h0 : ¬ qd_F c a b → post 0) : wY_fits_60 post (nI c) b u1 u2 K A B T TN TC V bf nm := by
  unfold wY_fits_60
  refine pk_eq c 8 (fun h8 => ?_) (fun h8 => ?_)
  · exact br_c (fun h => h0 (fun f => (f.2.2.2.1 h8).1 h)) (fun h => br_c (fun h' => h0 (fun f => (f.2.2.2.1 h8).2 h')) (fun h' => h1 ⟨fun z => by omega, ha, fun _ z => by omega, fun _ => ⟨h, h'⟩, fun z => by omega⟩))
  refine pk_eq c 9 (fun h9 => ?_) (fun h9 => h1 ⟨fun z => by omega, ha, fun z z' => by omega, fun z => by omega, fun z => by omega⟩)
  exact br_c (fun h => h0 (fun f => (f.2.2.2.2 h9).1 h)) (fun h => br_c (fun h' => h0 (fun f => (f.2.2.2.2 h9).2 h')) (fun h' => h1 ⟨fun z => by omega, ha, fun _ z => by omega, fun z => by omega, fun _ => ⟨h, h'⟩⟩))
theorem qd_fits44 {post : Int32 → Prop} (c : Nat) (hc : c ≤ 10) (a b : Int32) (hc1 : c ≠ 1) (ha : 2 ≤ c → c ≤ 9 → ¬ a < 0 ∧ ¬ 19 < a) (h1 : qd_F c a b → post 1) (h0 : ¬ qd_F c a b → post 0) : wY_fits_44 post (nI c) b u1 u2 K A B T TN TC V bf nm := by
  unfold wY_fits_44
  refine pk_lt c 3 (fun h => qd_fits60 u1 u2 K A B T TN TC V bf nm c hc a b hc1 (Or.inl h) ha h1 h0) (fun h => pk_lt 5 c (fun h' => qd_fits60 u1 u2 K A B T TN TC V bf nm c hc a b hc1 (Or.inr h') ha h1 h0) (fun h' => ?_))
  exact qd_isName u1 u2 K A B T TN TC V bf nm (fun z => ⟨qd_nb1, h1 ⟨fun z => by omega, ha, fun _ _ => z, fun z => by omega, fun z => by omega⟩⟩) (fun z => ⟨qd_nb0, h0 (fun f => z (f.2.2.1 h h'))⟩)
theorem qd_fitsY {post : Int32 → Prop} (c : Nat) (hc : c ≤ 10) (a b : Int32) (h1 : qd_F c a b → post 1) (h0 : ¬ qd_F c a b → post 0) : wpY_fits post (u1, u2, K, A, B, T, TN, TC, V, bf, nm) (nI c) a b := by
  unfold wpY_fits
  dsimp only
  refine pk_lt c 0 (fun h => by omega) (fun _ => pk_le c 10 (fun _ => ?_) (fun h => by omega))
  refine pk_eq c 1 (fun hc1 => ?_) (fun hc1 => ?_)
  · exact qd_isValue u1 u2 K A B T TN TC V bf nm (fun x => ⟨qd_nb1, h1 ⟨fun _ => x, fun h => by omega, fun h => by omega, fun h => by omega, fun h => by omega⟩⟩) (fun x => ⟨qd_nb0, h0 (fun f => x (f.1 hc1))⟩)
  refine pk_lt c 2 (fun h => qd_fits44 u1 u2 K A B T TN TC V bf nm c hc a b hc1 (fun _ _ => by omega) h1 h0) (fun h => pk_lt 9 c (fun h' => qd_fits44 u1 u2 K A B T TN TC V bf nm c hc a b hc1 (fun _ _ => by omega) h1 h0) (fun h' => ?_))
  exact qd_isName u1 u2 K A B T TN TC V bf nm (fun z => br_f (by decide) (qd_fits44 u1 u2 K A B T TN TC V bf nm c hc a b hc1 (fun _ _ => z) h1 h0)) (fun z => br_t rfl (h0 (fun f => z (f.2.1 h h'))))
theorem qd_fitsY0 {post : Int32 → Prop} {k : Int32} (a b : Int32) (h : ¬ (¬ k < 0 ∧ ¬ 10 < k)) (h0 : post 0) : wpY_fits post (u1, u2, K, A, B, T, TN, TC, V, bf, nm) k a b := by
  unfold wpY_fits
  exact br_c (fun _ => h0) (fun h1 => br_f (fun h2 => h ⟨h1, Int32.not_lt.mpr h2⟩) h0)
end
/-- an int from 0 to m, as a natural number -/
theorem qd_nat {x M : Int32} {m : Nat} (hM : M.toInt = m) (h : ¬ x < 0 ∧ ¬ M < x) : ∃ j, j ≤ m ∧ x = nI j := nI_of2 hM h.1 (Int32.not_lt.mp h.2)
theorem qd_19 {x : Int32} (h : ¬ x < 0 ∧ ¬ 19 < x) : x = nI x.toNatClampNeg ∧ x.toNatClampNeg < 20 := by
  obtain ⟨j, hj, rfl⟩ := qd_nat (m := 19) (by decide) h
  rw [nI_clamp (by omega)]
  exact ⟨rfl, by omega⟩
theorem qd_inV {x : Int32} (h : ¬ x < -32768 ∧ ¬ 32767 < x) : qd_in x := qd_ofI h.1 h.2
theorem qd_c_us {f : Nat → Int32} {i : Nat} {x : Int32} : qd_c (upd f i x) i = x.toNatClampNeg := by unfold qd_c; rw [pk_us]
theorem qd_c_un {f : Nat → Int32} {i j : Nat} {x : Int32} (h : j ≠ i) : qd_c (upd f i x) j = qd_c f j := by unfold qd_c; rw [pk_un h]
theorem qd_WF_node {n c : Nat} {K A B T TN TC : Nat → Int32} {a b : Int32} (hW : qd_WF n K A B T TN TC) (hn : n < 20) (hc : c ≤ 10) (hF : qd_F c a b) : qd_WF (n + 1) (upd K n (nI c)) (upd A n a) (upd B n b) (upd T n 0) TN TC := by
  refine ⟨by omega, fun i hi => ?_⟩
  by_cases e : i = n
  · subst e
    unfold qd_ok
    rw [qd_c_us, qd_c_us, qd_c_us, qd_c_us, pk_us, pk_us, pk_us, pk_us, nI_clamp (by omega), show (0 : Int32).toNatClampNeg = 0 from rfl]
    exact ⟨⟨rfl, hc⟩, fun h h' => qd_19 (hF.2.1 h h'), fun h h' => qd_19 (hF.2.2.1 h h'), ⟨rfl, by omega, fun _ => rfl⟩, fun t ht => by omega, fun h => qd_inV (hF.1 h)⟩
  · unfold qd_ok
    rw [qd_c_un e, qd_c_un e, qd_c_un e, qd_c_un e, pk_un e, pk_un e, pk_un e, pk_un e]
    exact hW.2 i (by omega)
theorem qd_WF_tap {n i d : Nat} {K A B T TN TC : Nat → Int32} {f : Int32} (hW : qd_WF n K A B T TN TC) (hi : i < n) (hK : qd_c K i = 10) (ht : qd_c T i < 6) (hd : d < 20) (hf : qd_in f) :
    qd_WF n K A B (upd T i (nI (qd_c T i + 1))) (upd TN (6 * i + qd_c T i) (nI d)) (upd TC (6 * i + qd_c T i) f) := by
  refine ⟨hW.1, fun j hj => ?_⟩
  have hok := hW.2 j hj
  unfold qd_ok at hok ⊢
  obtain ⟨k1, oa, ob, ot, os, o1⟩ := hok
  refine ⟨k1, oa, ob, ?_, ?_, o1⟩
  · by_cases e : j = i
    · subst e
      rw [qd_c_us, pk_us, nI_clamp (by omega)]
      exact ⟨rfl, by omega, fun h => absurd hK h⟩
    · rw [qd_c_un e, pk_un e]; exact ot
  · intro t htt
    by_cases e : j = i
    · subst e
      rw [qd_c_us, nI_clamp (by omega)] at htt
      by_cases e2 : t = qd_c T j
      · subst e2
        rw [qd_c_us, pk_us, pk_us, nI_clamp (by omega)]
        exact ⟨rfl, hd, hf⟩
      · rw [qd_c_un (by omega), pk_un (by omega), pk_un (by omega)]
        exact os t (by omega)
    · rw [qd_c_un e] at htt
      have h6 := ot.2.1
      rw [qd_c_un (by omega), pk_un (by omega), pk_un (by omega)]
      exact os t htt
/-- k samples, one after the other -/
def qd_it (K A B T TN TC : Nat → Int32) (x : Int32) (ord : Nat → Int32) (p : Nat) (V : Nat → Int32) : Nat → (Nat → Int32)
  | 0 => V
  | k + 1 => qd_run K A B T TN TC x (qd_it K A B T TN TC x ord p V k) ord (qd_it K A B T TN TC x ord p V k) p
section
variable (n p : Nat) (K A B T TN TC ord pl V : Nat → Int32)
theorem qd_it_in (x : Int32) (hW : qd_WF n K A B T TN TC) (ho : qd_Or (qd_need K A B T TN) n p ord pl) (hx : qd_in x) (hV : ∀ j, qd_in (V j)) : ∀ k j, qd_in (qd_it K A B T TN TC x ord p V k j) := by
  intro k
  induction k with
  | zero => exact hV
  | succ k ih => exact fun j => qd_run_in n p K A B T TN TC ord pl x _ _ hW ho hx ih ih p (Nat.le_refl _) j
theorem qd_it_hi (x : Int32) (hn : n ≤ 20) (ho : qd_Or (qd_need K A B T TN) n p ord pl) (hV : ∀ j, n ≤ j → V j = 0) : ∀ k j, n ≤ j → qd_it K A B T TN TC x ord p V k j = 0 := by
  intro k
  induction k with
  | zero => exact hV
  | succ k ih =>
    intro j hj
    show qd_run K A B T TN TC x (qd_it K A B T TN TC x ord p V k) ord (qd_it K A B T TN TC x ord p V k) p j = 0
    rw [qd_run_hi n p K A B T TN TC ord pl x _ _ hn ho p (Nat.le_refl _) j hj]
    exact ih j hj
theorem qd_rep26 {post : Int32 → SX → Prop} (s t : Nat) (ht : t ≤ 40) (x : Int32) (hW : qd_WF n K A B T TN TC) (ho : qd_Or (qd_need K A B T TN) n p ord pl)
    (hp : ∀ pv, post (nI t) (nI p, nI n, nI (s + t), K, A, B, T, TN, TC, ord, pl, qd_it K A B T TN TC x ord p V t, pv)) :
    ∀ d k pv, k + d = t → wX_repeat_26 post (nI t) x (d + 1) (nI k) (nI p) (nI n) (nI (s + k)) K A B T TN TC ord pl (qd_it K A B T TN TC x ord p V k) pv := by
  intro d
  induction d with
  | zero =>
    intro k pv hk
    rw [wX_repeat_26]
    have e : k = t := by omega
    subst e
    exact br_t (nI_le (Nat.le_refl _) (by omega)) (hp pv)
  | succ d ih =>
    intro k pv hk
    rw [wX_repeat_26]
    refine br_f (nI_ge (by omega) (by omega)) ?_
    refine qd_take n p (nI (s + k)) K A B T TN TC ord pl x _ pv hW ho (fun pv' => ?_)
    dsimp only
    rw [nI_1 (s + k)]
    exact nm_r (nI_1 k) (ih (k + 1) pv' (by omega))
theorem qd_rep27 {post : Int32 → SY → Prop} (s t : Nat) (hs : s < 90000) (ht : t ≤ 40) (x : Int32) (hW : qd_WF n K A B T TN TC) (ho : qd_Or (qd_need K A B T TN) n p ord pl) (hc : qd_Cl (qd_need K A B T TN) n pl) (hpn : p = n)
    (hV : ∀ j, qd_in (V j)) (hV0 : s = 0 → ∀ j, V j = 0) (hVn : ∀ j, n ≤ j → V j = 0)
    (hp : ∀ bf nm, post (nI t) (nI n, nI (s + t), K, A, B, T, TN, TC, qd_it K A B T TN TC (qd_sat x) ord p V t, bf, nm)) :
    ∀ d k bf nm, k + d = t → wY_repeat_27 post x (nI t) (d + 1) (nI k) (nI k) (nI n) (nI (s + k)) K A B T TN TC (qd_it K A B T TN TC (qd_sat x) ord p V k) bf nm := by
  intro d
  induction d with
  | zero =>
    intro k bf nm hk
    rw [wY_repeat_27]
    have e : k = t := by omega
    subst e
    exact br_t (nI_le (Nat.le_refl _) (by omega)) (hp bf nm)
  | succ d ih =>
    intro k bf nm hk
    rw [wY_repeat_27]
    refine br_f (nI_ge (by omega) (by omega)) ?_
    refine qd_feedY n p K A B T TN TC ord pl (s + k) (by omega) x _ bf nm hW ho hc (qd_it_in n p K A B T TN TC ord pl V (qd_sat x) hW ho (qd_sat_in x) hV k) ?_ (qd_it_hi n p K A B T TN TC ord pl V (qd_sat x) hW.1 ho hVn k) (fun _ bf' nm' => ?_) (fun h => absurd hpn h)
    · intro h j
      have e : k = 0 := by omega
      subst e
      exact hV0 (by omega) j
    · exact br_f (by decide) (nm_r (nI_1 k) (nm_r (nI_1 k) (ih (k + 1) bf' nm' (by omega))))
theorem qd_rep27n {post : Int32 → SY → Prop} (s t : Nat) (hs : s < 90000) (ht : t ≤ 40) (x : Int32) (bf : Nat → Int32) (hW : qd_WF n K A B T TN TC) (ho : qd_Or (qd_need K A B T TN) n p ord pl) (hc : qd_Cl (qd_need K A B T TN) n pl) (hpn : p ≠ n)
    (hV : ∀ j, qd_in (V j)) (hV0 : s = 0 → ∀ j, V j = 0) (hVn : ∀ j, n ≤ j → V j = 0)
    (hp : ∀ nm, post 0 (nI n, nI s, K, A, B, T, TN, TC, V, bf, nm)) :
    ∀ d k nm, k + d = t → wY_repeat_27 post x (nI t) (d + 1) 0 (nI k) (nI n) (nI s) K A B T TN TC V bf nm := by
  intro d
  induction d with
  | zero =>
    intro k nm hk
    rw [wY_repeat_27]
    have e : k = t := by omega
    subst e
    exact br_t (nI_le (Nat.le_refl _) (by omega)) (hp nm)
  | succ d ih =>
    intro k nm hk
    rw [wY_repeat_27]
    refine br_f (nI_ge (by omega) (by omega)) ?_
    refine qd_feedY n p K A B T TN TC ord pl s (by omega) x V bf nm hW ho hc hV hV0 hVn (fun h => absurd h hpn) (fun _ nm' => ?_)
    exact br_t rfl (nm_r (nI_1 k) (ih (k + 1) nm' (by omega)))
end
theorem qd_times (v : Int32) : ∃ t : Nat, t ≤ 40 ∧ (∀ post : Int32 → Prop, post (nI t) → wpX_clamped post v 0 40) ∧ (∀ Q : Int32 → Prop, Q (nI t) → ((0 ≤ v → ((v ≤ 40 → Q v) ∧ (¬ v ≤ 40 → Q 40))) ∧ (¬ 0 ≤ v → Q 0))) := by
  by_cases h0 : 0 ≤ v
  · by_cases h1 : v ≤ 40
    · obtain ⟨t, ht, rfl⟩ := qd_nat (m := 40) (x := v) (M := 40) (by decide) ⟨Int32.not_lt.mpr h0, Int32.not_lt.mpr h1⟩
      exact ⟨t, ht, fun post hp => br_t h0 (br_t h1 hp), fun Q hq => br_t h0 (br_t h1 hq)⟩
    · exact ⟨40, by omega, fun post hp => br_t h0 (br_f h1 hp), fun Q hq => br_t h0 (br_f h1 hq)⟩
  · exact ⟨0, by omega, fun post hp => br_f h0 hp, fun Q hq => br_f h0 hq⟩
end
section
/-- both hold the same nodes, taps, values and number of samples; the component's order is complete as far as it goes -/
def i_Rel (k : Nat) (u : SX) (v : SY) : Prop :=
  ∃ (n p s : Nat) (K A B T TN TC ord pl V pv bf nm : Nat → Int32),
    u = (nI p, nI n, nI s, K, A, B, T, TN, TC, ord, pl, V, pv) ∧ v = (nI n, nI s, K, A, B, T, TN, TC, V, bf, nm) ∧
    qd_WF n K A B T TN TC ∧ qd_Or (qd_need K A B T TN) n p ord pl ∧ qd_Cl (qd_need K A B T TN) n pl ∧
    s ≤ 10 * k ∧ (∀ j, qd_in (V j)) ∧ (s = 0 → ∀ j, V j = 0) ∧ (∀ j, n ≤ j → V j = 0)
theorem i_up {k : Nat} {u : SX} {v : SY} (h : i_Rel k u v) : i_Rel (k + 4) u v := by
  obtain ⟨n, p, s, K, A, B, T, TN, TC, ord, pl, V, pv, bf, nm, e1, e2, hW, ho, hc, hs, hr⟩ := h
  exact ⟨n, p, s, K, A, B, T, TN, TC, ord, pl, V, pv, bf, nm, e1, e2, hW, ho, hc, by omega, hr⟩
/-- a run begun anew -/
theorem qd_fresh {n p : Nat} (k : Nat) {K A B T TN TC ord pl : Nat → Int32} (pv bf nm : Nat → Int32) (hW : qd_WF n K A B T TN TC) (ho : qd_Or (qd_need K A B T TN) n p ord pl) (hc : qd_Cl (qd_need K A B T TN) n pl) :
    i_Rel k (nI p, nI n, 0, K, A, B, T, TN, TC, ord, pl, (fun _ => 0), pv) (nI n, 0, K, A, B, T, TN, TC, (fun _ => 0), bf, nm) :=
  ⟨n, p, 0, K, A, B, T, TN, TC, ord, pl, _, pv, bf, nm, rfl, rfl, hW, ho, hc, by omega, fun _ => qd_in0, fun _ _ => rfl, fun _ _ => rfl⟩
theorem qd_WF0 (K A B T TN TC : Nat → Int32) : qd_WF 0 K A B T TN TC := ⟨by omega, fun i hi => by omega⟩
theorem i_vc0 : wpX_init (fun u => wpY_init (fun v => i_Rel 0 u v)) := by
  unfold wpX_init wpY_init
  exact qd_fresh (n := 0) (p := 0) 0 _ _ _ (qd_WF0 _ _ _ _ _ _) (qd_Or_0 _ 0 _ _ (fun i hi => by omega)) (fun i hi => by omega)
theorem i_vc_node {k : Nat} {u : SX} {v : SY} (I : i_Rel k u v) (hk : k + 4 ≤ 2048) (v1 : Int32) (v2 : Int32) (v3 : Int32) : wpX_node (fun r u' => wpY_node (fun r' v' => r' = r ∧ i_Rel (k + 4) u' v') v v1 v2 v3) u v1 v2 v3 := by
  have I4 := i_up I
  obtain ⟨n, p, s, K, A, B, T, TN, TC, ord, pl, V, pv, bf, nm, rfl, rfl, hW, ho, hc, hs, hV, hV0, hVn⟩ := I
  have hn := hW.1
  unfold wpX_node
  dsimp only
  refine pk_lt n 20 (fun h => ?_) (fun h => ?_)
  · have yn : ∀ {A' B' : Prop}, B' → ((nI n = 20 → A') ∧ (¬ nI n = 20 → B')) := fun b => pk_eq n 20 (fun z => by omega) (fun _ => b)
    by_cases hb : ¬ v1 < 0 ∧ ¬ 10 < v1
    · obtain ⟨c, hc10, rfl⟩ := qd_nat (m := 10) (M := 10) (by decide) hb
      refine qd_canX c hc10 v2 v3 (fun hF => br_f (by decide) ?_) (fun hF => br_t rfl ?_)
      · have hW' := qd_WF_node hW h hc10 hF
        refine ⟨vp_in_nI (by omega) (by omega), ?_⟩
        rw [nI_clamp (by omega)]
        refine nm_e ⟨vp_in_nI (by omega) (by omega), nm_e ⟨vp_in_nI (by omega) (by omega), nm_e ⟨vp_in_nI (by omega) (by omega), nm_e (nm_r (nI_1 n) ?_)⟩⟩⟩
        refine qd_order (n + 1) (nI s) _ _ _ _ TN TC V pv (nI p) ord pl hW' (fun p' ord' pl' ho' hc' => ?_)
        dsimp only
        refine qd_begin _ _ _ _ TN TC V pv (nI p') (nI s) (nI (n + 1)) ord' pl' (fun j hj => hVn j (by omega)) ?_
        dsimp only
        unfold wpY_node
        dsimp only
        refine yn (qd_fitsY (nI n) (nI s) K A B T TN TC V bf nm c hc10 v2 v3 (fun _ => br_f (by decide) ?_) (fun z => absurd hF z))
        refine ⟨vp_in_nI (by omega) (by omega), ?_⟩
        rw [nI_clamp (by omega)]
        refine nm_e ⟨vp_in_nI (by omega) (by omega), nm_e ⟨vp_in_nI (by omega) (by omega), nm_e ⟨vp_in_nI (by omega) (by omega), nm_e (nm_r (nI_1 n) ?_)⟩⟩⟩
        refine qd_rest (nI s) _ _ _ _ TN TC V bf (nI (n + 1)) nm (fun j hj => hVn j (by omega)) ?_
        exact ⟨nI_pred n, qd_fresh (k + 4) pv bf nm hW' ho' hc'⟩
      · unfold wpY_node
        dsimp only
        exact yn (qd_fitsY (nI n) (nI s) K A B T TN TC V bf nm c hc10 v2 v3 (fun z => absurd z hF) (fun _ => br_t rfl ⟨rfl, I4⟩))
    · refine qd_canX0 v2 v3 hb (br_t rfl ?_)
      unfold wpY_node
      dsimp only
      exact yn (qd_fitsY0 (nI n) (nI s) K A B T TN TC V bf nm v2 v3 hb (br_t rfl ⟨rfl, I4⟩))
  · unfold wpY_node
    dsimp only
    exact pk_eq n 20 (fun _ => ⟨rfl, I4⟩) (fun z => by omega)
theorem i_vc_tap {k : Nat} {u : SX} {v : SY} (I : i_Rel k u v) (hk : k + 4 ≤ 2048) (v1 : Int32) (v2 : Int32) (v3 : Int32) : wpX_tap (fun r u' => wpY_tap (fun r' v' => r' = r ∧ i_Rel (k + 4) u' v') v v1 v2 v3) u v1 v2 v3 := by
  have I4 := i_up I
  obtain ⟨n, p, s, K, A, B, T, TN, TC, ord, pl, V, pv, bf, nm, rfl, rfl, hW, ho, hc, hs, hV, hV0, hVn⟩ := I
  have hn := hW.1
  unfold wpX_tap
  dsimp only
  unfold wpX_isSum
  dsimp only
  by_cases h0 : v1 < 0
  · refine br_t h0 (br_t rfl ?_)
    unfold wpY_tap
    dsimp only
    exact br_t h0 ⟨rfl, I4⟩
  by_cases h1 : nI n ≤ v1
  · refine br_f h0 (br_t h1 (br_t rfl ?_))
    unfold wpY_tap
    dsimp only
    exact br_f h0 (br_t h1 ⟨rfl, I4⟩)
  obtain ⟨i, hi, e⟩ : ∃ i, i < n ∧ v1 = nI i := by
    rcases pk_ix v1 (n := n) (by omega) with z | z | z
    · exact absurd z h0
    · exact absurd z h1
    · exact z
  subst e
  have vi : vp_in (nI i) 20 := vp_in_nI (by omega) (by omega)
  obtain ⟨⟨k1, k2⟩, _, _, ⟨t1, t2, _⟩, _⟩ := hW.2 i hi
  refine br_f h0 (br_f h1 ⟨vi, ?_⟩)
  rw [nI_clamp (by omega)]
  by_cases hK : K i = 10
  · have hKc : qd_c K i = 10 := by unfold qd_c; rw [hK]; rfl
    refine br_t hK (br_f (by decide) ?_)
    unfold wpX_isNodeNumber
    refine qd_wi (fun ha => ⟨qd_nb1, br_f (by decide) ?_⟩) (fun ha => ⟨qd_nb0, br_t rfl ?_⟩)
    · refine qd_wi (fun hf => br_f (by decide) ⟨vi, ?_⟩) (fun hf => br_t rfl ?_)
      · rw [t1]
        refine nm_e (pk_lt (qd_c T i) 6 (fun ht => ?_) (fun ht => ?_))
        · obtain ⟨a1, a2⟩ := qd_19 ha
          have hW' := qd_WF_tap hW hi hKc ht a2 (qd_inV hf)
          rw [← a1] at hW'
          refine nm_r (e' := nI (6 * i + qd_c T i)) (by rw [show (6 : Int32) = nI 6 from rfl, pk_mul, nI_add, Nat.mul_comm]) ⟨vp_in_nI (by omega) (by omega), ?_⟩
          rw [nI_clamp (by omega), nI_1 (qd_c T i)]
          refine nm_e ⟨vp_in_nI (by omega) (by omega), nm_e ⟨vi, nm_e ?_⟩⟩
          refine qd_order n (nI s) K A B _ _ _ V pv (nI p) ord pl hW' (fun p' ord' pl' ho' hc' => ?_)
          dsimp only
          refine qd_begin K A B _ _ _ V pv (nI p') (nI s) (nI n) ord' pl' (fun j hj => hVn j (by omega)) ?_
          dsimp only
          unfold wpY_tap
          dsimp only
          refine br_f h0 (br_f h1 ⟨vi, ?_⟩)
          rw [nI_clamp (n := i) (by omega)]
          refine br_t hK (qd_isName (nI n) (nI s) K A B T TN TC V bf nm (fun _ => br_f (by decide) ?_) (fun z => absurd ha z))
          refine qd_isValue (nI n) (nI s) K A B T TN TC V bf nm (fun _ => br_f (by decide) ⟨vi, ?_⟩) (fun z => absurd hf z)
          rw [t1]
          refine pk_eq (qd_c T i) 6 (fun z => by omega) (fun _ => ⟨vi, ?_⟩)
          rw [qd_six, nI_clamp (by omega), nI_1 (qd_c T i)]
          refine ⟨vp_in_nI (by omega) (by omega), nm_e ⟨vi, vp_in_nI (by omega) (by omega), nm_e ⟨vi, vi, nm_e ?_⟩⟩⟩
          refine qd_rest (nI s) K A B _ _ _ V bf (nI n) nm (fun j hj => hVn j (by omega)) ⟨vi, ?_⟩
          exact ⟨pk_us, qd_fresh (k + 4) pv bf nm hW' ho' hc'⟩
        · unfold wpY_tap
          dsimp only
          refine br_f h0 (br_f h1 ⟨vi, ?_⟩)
          rw [nI_clamp (n := i) (by omega)]
          refine br_t hK (qd_isName (nI n) (nI s) K A B T TN TC V bf nm (fun _ => br_f (by decide) ?_) (fun z => absurd ha z))
          refine qd_isValue (nI n) (nI s) K A B T TN TC V bf nm (fun _ => br_f (by decide) ⟨vi, ?_⟩) (fun z => absurd hf z)
          rw [t1]
          exact pk_eq (qd_c T i) 6 (fun _ => ⟨rfl, I4⟩) (fun z => by omega)
      · unfold wpY_tap
        dsimp only
        refine br_f h0 (br_f h1 ⟨vi, ?_⟩)
        rw [nI_clamp (n := i) (by omega)]
        refine br_t hK (qd_isName (nI n) (nI s) K A B T TN TC V bf nm (fun _ => br_f (by decide) ?_) (fun z => absurd ha z))
        exact qd_isValue (nI n) (nI s) K A B T TN TC V bf nm (fun z => absurd z hf) (fun _ => br_t rfl ⟨rfl, I4⟩)
    · unfold wpY_tap
      dsimp only
      refine br_f h0 (br_f h1 ⟨vi, ?_⟩)
      rw [nI_clamp (n := i) (by omega)]
      exact br_t hK (qd_isName (nI n) (nI s) K A B T TN TC V bf nm (fun z => absurd z ha) (fun _ => br_t rfl ⟨rfl, I4⟩))
  · refine br_f hK (br_t rfl ?_)
    unfold wpY_tap
    dsimp only
    refine br_f h0 (br_f h1 ⟨vi, ?_⟩)
    rw [nI_clamp (n := i) (by omega)]
    exact br_f hK ⟨rfl, I4⟩
theorem i_vc_nodes {k : Nat} {u : SX} {v : SY} (I : i_Rel k u v) (hk : k + 4 ≤ 2048) : wpX_nodes (fun r => wpY_nodes (fun r' => r' = r ∧ i_Rel (k + 4) u v) v) u := by
  have I4 := i_up I
  obtain ⟨n, p, s, K, A, B, T, TN, TC, ord, pl, V, pv, bf, nm, rfl, rfl, _⟩ := I
  exact ⟨rfl, I4⟩
theorem i_vc_sound {k : Nat} {u : SX} {v : SY} (I : i_Rel k u v) (hk : k + 4 ≤ 2048) : wpX_sound (fun r => wpY_sound (fun r' v' => r' = r ∧ i_Rel (k + 4) u v') v) u := by
  obtain ⟨n, p, s, K, A, B, T, TN, TC, ord, pl, V, pv, bf, nm, rfl, rfl, hW, ho, hc, hs, hV, hV0, hVn⟩ := I
  have hn := hW.1
  have hpn := qd_Or_p ho
  have R : ∀ nm', i_Rel (k + 4) (nI p, nI n, nI s, K, A, B, T, TN, TC, ord, pl, V, pv) (nI n, nI s, K, A, B, T, TN, TC, V, bf, nm') := fun nm' =>
    ⟨n, p, s, K, A, B, T, TN, TC, ord, pl, V, pv, bf, nm', rfl, rfl, hW, ho, hc, by omega, hV, hV0, hVn⟩
  unfold wpX_sound
  dsimp only
  unfold wpX_hasNoLoop
  dsimp only
  refine pk_eq p n (fun e => ⟨qd_nb1, ?_⟩) (fun e => ⟨qd_nb0, ?_⟩)
  · exact qd_sound n (nI s) K A B T TN TC V bf nm hW ho hc (fun _ nm' => ⟨rfl, R nm'⟩) (fun z => absurd e z)
  · exact qd_sound n (nI s) K A B T TN TC V bf nm hW ho hc (fun z => absurd z e) (fun _ nm' => ⟨rfl, R nm'⟩)
theorem i_vc_feed {k : Nat} {u : SX} {v : SY} (I : i_Rel k u v) (hk : k + 4 ≤ 2048) (v1 : Int32) : wpX_feed (fun r u' => wpY_feed (fun r' v' => r' = r ∧ i_Rel (k + 4) u' v') v v1) u v1 := by
  obtain ⟨n, p, s, K, A, B, T, TN, TC, ord, pl, V, pv, bf, nm, rfl, rfl, hW, ho, hc, hs, hV, hV0, hVn⟩ := I
  have hn := hW.1
  have hpn := qd_Or_p ho
  unfold wpX_feed
  dsimp only
  unfold wpX_hasNoLoop
  dsimp only
  refine pk_eq p n (fun e => br_f (by decide) (qd_satX ?_)) (fun e => br_t rfl ?_)
  · refine qd_take n p (nI s) K A B T TN TC ord pl (qd_sat v1) V pv hW ho (fun pv' => ?_)
    dsimp only
    refine qd_feedY n p K A B T TN TC ord pl s (by omega) v1 V bf nm hW ho hc hV hV0 hVn (fun _ bf' nm' => ⟨rfl, ?_⟩) (fun z => absurd e z)
    rw [nI_1 s]
    refine ⟨n, p, s + 1, K, A, B, T, TN, TC, ord, pl, _, pv', bf', nm', rfl, rfl, hW, ho, hc, by omega, fun j => ?_, fun z => by omega, fun j hj => ?_⟩
    · exact qd_run_in n p K A B T TN TC ord pl (qd_sat v1) V V hW ho (qd_sat_in v1) hV hV p (Nat.le_refl _) j
    · rw [qd_run_hi n p K A B T TN TC ord pl (qd_sat v1) V V hn ho p (Nat.le_refl _) j hj]; exact hVn j hj
  · refine qd_feedY n p K A B T TN TC ord pl s (by omega) v1 V bf nm hW ho hc hV hV0 hVn (fun z => absurd z e) (fun _ nm' => ⟨rfl, ?_⟩)
    exact ⟨n, p, s, K, A, B, T, TN, TC, ord, pl, V, pv, bf, nm', rfl, rfl, hW, ho, hc, by omega, hV, hV0, hVn⟩
theorem i_vc_repeat {k : Nat} {u : SX} {v : SY} (I : i_Rel k u v) (hk : k + 4 ≤ 2048) (v1 : Int32) (v2 : Int32) : wpX_repeat (fun r u' => wpY_repeat (fun r' v' => r' = r ∧ i_Rel (k + 4) u' v') v v1 v2) u v1 v2 := by
  obtain ⟨n, p, s, K, A, B, T, TN, TC, ord, pl, V, pv, bf, nm, rfl, rfl, hW, ho, hc, hs, hV, hV0, hVn⟩ := I
  have hn := hW.1
  have hpn := qd_Or_p ho
  obtain ⟨t, ht, tX, tY⟩ := qd_times v2
  unfold wpX_repeat
  dsimp only
  unfold wpX_hasNoLoop
  dsimp only
  refine pk_eq p n (fun e => br_f (by decide) (tX _ (qd_satX ⟨t + 1, ?_⟩))) (fun e => br_t rfl ?_)
  · refine qd_rep26 n p K A B T TN TC ord pl V s t ht (qd_sat v1) hW ho (fun pv' => ?_) t 0 pv (by omega)
    unfold wpY_repeat
    dsimp only
    refine tY (fun z => ∃ n27 : Nat, wY_repeat_27 _ v1 z n27 0 0 (nI n) (nI s) K A B T TN TC V bf nm) ⟨t + 1, ?_⟩
    refine qd_rep27 n p K A B T TN TC ord pl V s t (by omega) ht v1 hW ho hc e hV hV0 hVn (fun bf' nm' => ⟨rfl, ?_⟩) t 0 bf nm (by omega)
    refine ⟨n, p, s + t, K, A, B, T, TN, TC, ord, pl, _, pv', bf', nm', rfl, rfl, hW, ho, hc, by omega, ?_, fun z => ?_, ?_⟩
    · exact qd_it_in n p K A B T TN TC ord pl V (qd_sat v1) hW ho (qd_sat_in v1) hV t
    · have e0 : t = 0 := by omega
      subst e0
      exact hV0 (by omega)
    · exact qd_it_hi n p K A B T TN TC ord pl V (qd_sat v1) hn ho hVn t
  · unfold wpY_repeat
    dsimp only
    refine tY (fun z => ∃ n27 : Nat, wY_repeat_27 _ v1 z n27 0 0 (nI n) (nI s) K A B T TN TC V bf nm) ⟨t + 1, ?_⟩
    refine qd_rep27n n p K A B T TN TC ord pl V s t (by omega) ht v1 bf hW ho hc e hV hV0 hVn (fun nm' => ⟨rfl, ?_⟩) t 0 nm (by omega)
    exact ⟨n, p, s, K, A, B, T, TN, TC, ord, pl, V, pv, bf, nm', rfl, rfl, hW, ho, hc, by omega, hV, hV0, hVn⟩
theorem i_vc_value {k : Nat} {u : SX} {v : SY} (I : i_Rel k u v) (hk : k + 4 ≤ 2048) (v1 : Int32) : wpX_value (fun r => wpY_value (fun r' => r' = r ∧ i_Rel (k + 4) u v) v v1) u v1 := by
  have I4 := i_up I
  obtain ⟨n, p, s, K, A, B, T, TN, TC, ord, pl, V, pv, bf, nm, rfl, rfl, hW, ho, hc, hs, hV, hV0, hVn⟩ := I
  have hn := hW.1
  unfold wpX_value wpY_value
  dsimp only
  by_cases h0 : v1 < 0
  · exact br_t h0 (br_t h0 ⟨rfl, I4⟩)
  by_cases h1 : nI n ≤ v1
  · exact br_f h0 (br_t h1 (br_f h0 (br_t h1 ⟨rfl, I4⟩)))
  obtain ⟨i, hi, e⟩ : ∃ i, i < n ∧ v1 = nI i := by
    rcases pk_ix v1 (n := n) (by omega) with z | z | z
    · exact absurd z h0
    · exact absurd z h1
    · exact z
  subst e
  have vi : vp_in (nI i) 20 := vp_in_nI (by omega) (by omega)
  refine br_f h0 (br_f h1 ⟨vi, br_f h0 (br_f h1 (pk_eq s 0 (fun z => ⟨(hV0 z _).symm, I4⟩) (fun _ => ⟨vi, rfl, I4⟩)))⟩)
theorem i_vc_samples {k : Nat} {u : SX} {v : SY} (I : i_Rel k u v) (hk : k + 4 ≤ 2048) : wpX_samples (fun r => wpY_samples (fun r' => r' = r ∧ i_Rel (k + 4) u v) v) u := by
  have I4 := i_up I
  obtain ⟨n, p, s, K, A, B, T, TN, TC, ord, pl, V, pv, bf, nm, rfl, rfl, _⟩ := I
  exact ⟨rfl, I4⟩
theorem i_vc_restart {k : Nat} {u : SX} {v : SY} (I : i_Rel k u v) (hk : k + 4 ≤ 2048) : wpX_restart (fun u' => wpY_restart (fun v' => i_Rel (k + 4) u' v') v) u := by
  obtain ⟨n, p, s, K, A, B, T, TN, TC, ord, pl, V, pv, bf, nm, rfl, rfl, hW, ho, hc, hs, hV, hV0, hVn⟩ := I
  have hn := hW.1
  unfold wpX_restart
  dsimp only
  refine qd_begin K A B T TN TC V pv (nI p) (nI s) (nI n) ord pl (fun j hj => hVn j (by omega)) ?_
  dsimp only
  exact qd_rest (nI s) K A B T TN TC V bf (nI n) nm (fun j hj => hVn j (by omega)) (qd_fresh (k + 4) pv bf nm hW ho hc)
theorem i_vc_clear {k : Nat} {u : SX} {v : SY} (I : i_Rel k u v) (hk : k + 4 ≤ 2048) : wpX_clear (fun r u' => wpY_clear (fun r' v' => r' = r ∧ i_Rel (k + 4) u' v') v) u := by
  obtain ⟨n, p, s, K, A, B, T, TN, TC, ord, pl, V, pv, bf, nm, rfl, rfl, hW, ho, hc, hs, hV, hV0, hVn⟩ := I
  have hn := hW.1
  unfold wpX_clear
  dsimp only
  refine qd_order 0 (nI s) K A B T TN TC V pv (nI p) ord pl (qd_WF0 _ _ _ _ _ _) (fun p' ord' pl' ho' hc' => ?_)
  dsimp only
  refine qd_begin K A B T TN TC V pv (nI p') (nI s) (nI 0) ord' pl' (fun j hj => hVn j (by omega)) ?_
  dsimp only
  unfold wpY_clear
  dsimp only
  exact qd_rest (nI s) K A B T TN TC V bf (nI 0) nm (fun j hj => hVn j (by omega)) ⟨rfl, qd_fresh (k + 4) pv bf nm (qd_WF0 _ _ _ _ _ _) ho' hc'⟩
end
