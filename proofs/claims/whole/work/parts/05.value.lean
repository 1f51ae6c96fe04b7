/-! a node's value, on both sides -/
def qd_sat (v : Int32) : Int32 := if v < -32768 then -32768 else if 32767 < v then 32767 else v
theorem qd_satX {post : Int32 → Prop} {v : Int32} (h : post (qd_sat v)) : wpX_saturated post v := by
  unfold wpX_saturated wpX_clamped
  unfold qd_sat at h
  refine ⟨fun h1 => ⟨fun h2 => ?_, fun h2 => ?_⟩, fun h1 => ?_⟩
  · rwa [if_neg (Int32.not_lt.mpr h1), if_neg (Int32.not_lt.mpr h2)] at h
  · rwa [if_neg (Int32.not_lt.mpr h1), if_pos (Int32.not_le.mp h2)] at h
  · rwa [if_pos (Int32.not_le.mp h1)] at h
theorem qd_sat_in (v : Int32) : qd_in (qd_sat v) := by
  unfold qd_sat
  by_cases h1 : v < -32768
  · rw [if_pos h1]; unfold qd_in; decide
  · rw [if_neg h1]
    by_cases h2 : 32767 < v
    · rw [if_pos h2]; unfold qd_in; decide
    · rw [if_neg h2]
      exact qd_ofI h1 h2
theorem qd_l2i (v : Int32) : v.toInt64.toInt32 = v := by
  apply Int32.toInt_inj.mp
  rw [Int64.toInt_toInt32, Int32.toInt_toInt64]
  have h1 := Int32.le_toInt v
  have h2 := Int32.toInt_lt v
  exact Int.bmod_eq_of_le (by omega) (by omega)
theorem qd_i2l (y : Int64) (h1 : -2147483648 ≤ y.toInt) (h2 : y.toInt < 2147483648) : y.toInt32.toInt64 = y := by
  apply Int64.toInt_inj.mp
  rw [Int32.toInt_toInt64, Int64.toInt_toInt32]
  exact Int.bmod_eq_of_le (by omega) (by omega)
theorem qd_satY {post : Int32 → Prop} {u : SY} {v : Int32} (h : post (qd_sat v)) : wpY_sat post u v.toInt64 := by
  obtain ⟨a, b, c, d, e, f, g, i, j, k, l⟩ := u
  unfold wpY_sat
  dsimp only
  unfold qd_sat at h
  rw [Int64.le_iff_toInt_le, Int64.le_iff_toInt_le, Int32.toInt_toInt64, qd_l2i]
  have e1 : (32767 : Int64).toInt = 32767 := by decide
  have e2 : (-32768 : Int64).toInt = -32768 := by decide
  have e3 : (32767 : Int32).toInt = 32767 := by decide
  have e4 : (-32768 : Int32).toInt = -32768 := by decide
  have f1 : v < -32768 ↔ v.toInt < -32768 := by rw [Int32.lt_iff_toInt_lt, e4]
  have f2 : 32767 < v ↔ 32767 < v.toInt := by rw [Int32.lt_iff_toInt_lt, e3]
  rw [e1, e2]
  refine ⟨fun h1 => ⟨fun h2 => ?_, fun h2 => ?_⟩, fun h1 => ?_⟩
  · rwa [if_neg (fun z => by have := f1.mp z; omega), if_neg (fun z => by have := f2.mp z; omega)] at h
  · rwa [if_pos (f1.mpr (by omega))] at h
  · rwa [if_neg (fun z => by have := f1.mp z; omega), if_pos (f2.mpr (by omega))] at h
/-- the sum of the first t taps of node i -/
def qd_ts (TN TC V : Nat → Int32) (i : Nat) : Nat → Int64
  | 0 => 0
  | t + 1 => qd_ts TN TC V i t + (TC (6 * i + t)).toInt64 * (V (qd_c TN (6 * i + t))).toInt64
def qd_fin (s : Int64) : Int32 := qd_sat ((s + 16384) >>> ((15 : Int32).toInt64 &&& 63)).toInt32
theorem qd_mulB {a b : Int} (ha : -32768 ≤ a ∧ a ≤ 32767) (hb : -32768 ≤ b ∧ b ≤ 32767) : -1073741824 ≤ a * b ∧ a * b ≤ 1073741824 := by
  have h : (a * b).natAbs ≤ 32768 * 32768 := by
    rw [Int.natAbs_mul]
    exact Nat.mul_le_mul (by omega) (by omega)
  omega
theorem qd_prod (a b : Int32) (ha : qd_in a) (hb : qd_in b) : (a.toInt64 * b.toInt64).toInt = a.toInt * b.toInt := by
  have := qd_mulB ha hb
  rw [Int64.toInt_mul, Int32.toInt_toInt64, Int32.toInt_toInt64]
  exact Int.bmod_eq_of_le (by omega) (by omega)
theorem qd_tsB (TN TC V : Nat → Int32) (i : Nat) (hV : ∀ j, qd_in (V j)) : ∀ t : Nat, t ≤ 6 → (∀ q, q < t → qd_in (TC (6 * i + q))) → -(t * 1073741824 : Int) ≤ (qd_ts TN TC V i t).toInt ∧ (qd_ts TN TC V i t).toInt ≤ (t * 1073741824 : Int) := by
  intro t
  induction t with
  | zero => intro _ _; unfold qd_ts; decide
  | succ t ih =>
    intro ht hc
    have h1 := ih (by omega) (fun q hq => hc q (by omega))
    have h2 := qd_mulB (hc t (by omega)) (hV (qd_c TN (6 * i + t)))
    unfold qd_ts
    rw [Int64.toInt_add, qd_prod _ _ (hc t (by omega)) (hV _)]
    generalize (TC (6 * i + t)).toInt * (V (qd_c TN (6 * i + t))).toInt = z at h2 ⊢
    generalize (qd_ts TN TC V i t).toInt = w at h1 ⊢
    rw [Int.bmod_eq_of_le (by omega) (by omega)]
    omega
theorem qd_shr15 (y : Int64) : (y >>> ((15 : Int32).toInt64 &&& 63)).toInt = y.toInt / 32768 := by
  show (y.toBitVec.sshiftRight ((((15 : Int32).toInt64 &&& 63) : Int64).toBitVec.smod 64).toNat).toInt = _
  rw [show ((((15 : Int32).toInt64 &&& 63) : Int64).toBitVec.smod 64).toNat = 15 from by decide, BitVec.toInt_sshiftRight, Int.shiftRight_eq_div_pow]
  rfl
theorem qd_finY {post : Int32 → Prop} {u : SY} {s : Int64} (h1 : -6442450944 ≤ s.toInt) (h2 : s.toInt ≤ 6442450944) (h : post (qd_fin s)) : wpY_sat post u ((s + 16384) >>> ((15 : Int32).toInt64 &&& 63)) := by
  have e : (s + 16384).toInt = s.toInt + 16384 := by
    rw [Int64.toInt_add, show (16384 : Int64).toInt = 16384 from by decide]
    exact Int.bmod_eq_of_le (by omega) (by omega)
  have e2 := qd_shr15 (s + 16384)
  rw [e] at e2
  rw [← qd_i2l ((s + 16384) >>> ((15 : Int32).toInt64 &&& 63)) (by omega) (by omega)]
  exact qd_satY h
/-- the value of node i, from the input x, the values P of the sample before and the values V of this one -/
def qd_val (K A B T TN TC : Nat → Int32) (x : Int32) (P V : Nat → Int32) (i : Nat) : Int32 :=
  if qd_c K i = 0 then x else
  if qd_c K i = 1 then A i else
  if qd_c K i = 2 then P (qd_c A i) else
  if qd_c K i = 3 then qd_sat (V (qd_c A i) + V (qd_c B i)) else
  if qd_c K i = 4 then qd_sat (V (qd_c A i) - V (qd_c B i)) else
  if qd_c K i = 5 then (if V (qd_c A i) ≤ V (qd_c B i) then V (qd_c B i) else V (qd_c A i)) else
  if qd_c K i = 6 then qd_sat (-V (qd_c A i)) else
  if qd_c K i = 7 then (if 0 ≤ V (qd_c A i) then qd_sat (V (qd_c A i)) else qd_sat (-V (qd_c A i))) else
  if qd_c K i = 8 then qd_sat (V (qd_c A i) <<< (B i &&& 31)) else
  if qd_c K i = 9 then V (qd_c A i) >>> (B i &&& 31) else
  qd_fin (qd_ts TN TC V i (qd_c T i))
theorem qd_ts_dep {TN TC V V' : Nat → Int32} {i : Nat} : ∀ t, (∀ q, q < t → V (qd_c TN (6 * i + q)) = V' (qd_c TN (6 * i + q))) → qd_ts TN TC V i t = qd_ts TN TC V' i t := by
  intro t
  induction t with
  | zero => intro _; rfl
  | succ t ih =>
    intro h
    unfold qd_ts
    rw [ih (fun q hq => h q (by omega)), h t (by omega)]
section
variable (K A B T TN TC : Nat → Int32) (x : Int32)
theorem qd_val_dep (P V V' : Nat → Int32) (i : Nat) (h : ∀ j, qd_need K A B T TN i j → V j = V' j) : qd_val K A B T TN TC x P V i = qd_val K A B T TN TC x P V' i := by
  have ht : qd_ts TN TC V i (qd_c T i) = qd_ts TN TC V' i (qd_c T i) := qd_ts_dep _ (fun q hq => h _ (Or.inr (Or.inr ⟨q, hq, rfl⟩)))
  have ha : 3 ≤ qd_c K i → qd_c K i ≤ 9 → V (qd_c A i) = V' (qd_c A i) := fun a b => h _ (Or.inl ⟨a, b, rfl⟩)
  have hb : 3 ≤ qd_c K i → qd_c K i ≤ 5 → V (qd_c B i) = V' (qd_c B i) := fun a b => h _ (Or.inr (Or.inl ⟨a, b, rfl⟩))
  unfold qd_val
  by_cases h0 : qd_c K i = 0
  · rw [if_pos h0, if_pos h0]
  rw [if_neg h0, if_neg h0]
  by_cases h1 : qd_c K i = 1
  · rw [if_pos h1, if_pos h1]
  rw [if_neg h1, if_neg h1]
  by_cases h2 : qd_c K i = 2
  · rw [if_pos h2, if_pos h2]
  rw [if_neg h2, if_neg h2]
  by_cases h3 : qd_c K i = 3
  · rw [if_pos h3, if_pos h3, ha (by omega) (by omega), hb (by omega) (by omega)]
  rw [if_neg h3, if_neg h3]
  by_cases h4 : qd_c K i = 4
  · rw [if_pos h4, if_pos h4, ha (by omega) (by omega), hb (by omega) (by omega)]
  rw [if_neg h4, if_neg h4]
  by_cases h5 : qd_c K i = 5
  · rw [if_pos h5, if_pos h5, ha (by omega) (by omega), hb (by omega) (by omega)]
  rw [if_neg h5, if_neg h5]
  by_cases h6 : qd_c K i = 6
  · rw [if_pos h6, if_pos h6, ha (by omega) (by omega)]
  rw [if_neg h6, if_neg h6]
  by_cases h7 : qd_c K i = 7
  · rw [if_pos h7, if_pos h7, ha (by omega) (by omega)]
  rw [if_neg h7, if_neg h7]
  by_cases h8 : qd_c K i = 8
  · rw [if_pos h8, if_pos h8, ha (by omega) (by omega)]
  rw [if_neg h8, if_neg h8]
  by_cases h9 : qd_c K i = 9
  · rw [if_pos h9, if_pos h9, ha (by omega) (by omega)]
  rw [if_neg h9, if_neg h9]
  rw [ht]
theorem qd_shrB (v s : Int32) (h : qd_in v) : qd_in (v >>> (s &&& 31)) := by
  unfold qd_in at h ⊢
  rw [pk_shr v (s &&& 31) _ rfl, Int.shiftRight_eq_div_pow]
  generalize ((s &&& 31).toBitVec.smod 32).toNat = k
  have hp : (0 : Int) < ((2 ^ k : Nat) : Int) := by
    have := Nat.two_pow_pos k
    omega
  have hk : (1 : Int) ≤ ((2 ^ k : Nat) : Int) := by omega
  generalize ((2 ^ k : Nat) : Int) = m at hp hk
  constructor
  · rw [Int.le_ediv_iff_mul_le hp]
    have : (32768 : Int) * 1 ≤ 32768 * m := Int.mul_le_mul_of_nonneg_left hk (by decide)
    have e : (-32768 : Int) * m = -(32768 * m) := Int.neg_mul _ _
    rw [e]; omega
  · have : v.toInt / m < 32768 := by
      rw [Int.ediv_lt_iff_lt_mul hp]
      have : (32768 : Int) * 1 ≤ 32768 * m := Int.mul_le_mul_of_nonneg_left hk (by decide)
      omega
    omega
theorem qd_val_in (P V : Nat → Int32) (i : Nat) (ho : qd_ok K A B T TN TC i) (hx : qd_in x) (hP : ∀ j, qd_in (P j)) (hV : ∀ j, qd_in (V j)) : qd_in (qd_val K A B T TN TC x P V i) := by
  have h1 := ho.2.2.2.2.2
  unfold qd_val
  by_cases g0 : qd_c K i = 0
  · rw [if_pos g0]
    exact hx
  rw [if_neg g0]
  by_cases g1 : qd_c K i = 1
  · rw [if_pos g1]
    exact h1 g1
  rw [if_neg g1]
  by_cases g2 : qd_c K i = 2
  · rw [if_pos g2]
    exact hP _
  rw [if_neg g2]
  by_cases g3 : qd_c K i = 3
  · rw [if_pos g3]
    exact qd_sat_in _
  rw [if_neg g3]
  by_cases g4 : qd_c K i = 4
  · rw [if_pos g4]
    exact qd_sat_in _
  rw [if_neg g4]
  by_cases g5 : qd_c K i = 5
  · rw [if_pos g5]
    by_cases h : V (qd_c A i) ≤ V (qd_c B i)
    · rw [if_pos h]; exact hV _
    · rw [if_neg h]; exact hV _
  rw [if_neg g5]
  by_cases g6 : qd_c K i = 6
  · rw [if_pos g6]
    exact qd_sat_in _
  rw [if_neg g6]
  by_cases g7 : qd_c K i = 7
  · rw [if_pos g7]
    by_cases h : 0 ≤ V (qd_c A i)
    · rw [if_pos h]; exact qd_sat_in _
    · rw [if_neg h]; exact qd_sat_in _
  rw [if_neg g7]
  by_cases g8 : qd_c K i = 8
  · rw [if_pos g8]
    exact qd_sat_in _
  rw [if_neg g8]
  by_cases g9 : qd_c K i = 9
  · rw [if_pos g9]
    exact qd_shrB _ _ (hV _)
  rw [if_neg g9]
  exact qd_sat_in _
end
