/-! the walks that reckon a node's value, and a sample -/
section
variable (n : Nat) (pc sc : Int32) (K A B T TN TC ord pl V pv : Nat → Int32)
theorem qd_sum20 {post : Int32 → Prop} (i t : Nat) (hi : i < 20) (ht : t ≤ 6) (hk : ∀ q, q < t → TN (6 * i + q) = nI (qd_c TN (6 * i + q)) ∧ qd_c TN (6 * i + q) < 20) (hp : post (qd_fin (qd_ts TN TC V i t))) :
    ∀ d q, q + d = t → wX_sumOfTaps_20 post (nI (6 * i + t)) pc (nI n) sc K A B T TN TC ord pl V pv (d + 1) (qd_ts TN TC V i q) (nI (6 * i + q)) := by
  intro d
  induction d with
  | zero =>
    intro q hq
    rw [wX_sumOfTaps_20]
    have e : q = t := by omega
    subst e
    exact br_t (nI_le (Nat.le_refl _) (by omega)) (nm_e (qd_satX hp))
  | succ d ih =>
    intro q hq
    rw [wX_sumOfTaps_20]
    obtain ⟨e1, e2⟩ := hk q (by omega)
    have hv : vp_in (TN (6 * i + q)) 20 := by rw [e1]; exact vp_in_nI e2 (by omega)
    refine br_f (nI_ge (by omega) (by omega)) ⟨vp_in_nI (by omega) (by omega), vp_in_nI (by omega) (by omega), ?_⟩
    rw [nI_clamp (by omega)]
    exact ⟨hv, nm_e (nm_r (nI_1 (6 * i + q)) (ih (q + 1) (by omega)))⟩
theorem qd_sumX {post : Int32 → Prop} (i : Nat) (hi : i < 20) (ho : qd_ok K A B T TN TC i) (hp : post (qd_fin (qd_ts TN TC V i (qd_c T i)))) :
    wpX_sumOfTaps post (pc, nI n, sc, K, A, B, T, TN, TC, ord, pl, V, pv) (nI i) := by
  obtain ⟨_, _, _, ⟨t1, t2, _⟩, ot, _⟩ := ho
  unfold wpX_sumOfTaps
  dsimp only
  refine nm_r (e' := nI (6 * i)) (by rw [show (6 : Int32) = nI 6 from rfl, pk_mul, Nat.mul_comm]) ⟨vp_in_nI hi (by omega), ?_⟩
  rw [nI_clamp (by omega), t1]
  refine nm_r (nI_add (6 * i) (qd_c T i)) ⟨qd_c T i + 1, ?_⟩
  exact qd_sum20 n pc sc K A B T TN TC ord pl V pv i (qd_c T i) hi t2 (fun q hq => ⟨(ot q hq).1, (ot q hq).2.1⟩) hp (qd_c T i) 0 (by omega)
theorem qd_compX {post : Int32 → Prop} (x : Int32) (P : Nat → Int32) (i : Nat) (hi : i < 20) (ho : qd_ok K A B T TN TC i) (hP : ∀ j, j < 20 → pv j = P j) (hp : post (qd_val K A B T TN TC x P V i)) :
    wpX_computed post (pc, nI n, sc, K, A, B, T, TN, TC, ord, pl, V, pv) (nI i) x := by
  have ho' := ho
  obtain ⟨⟨k1, k2⟩, oa, ob, _⟩ := ho
  have va : 2 ≤ qd_c K i → qd_c K i ≤ 9 → vp_in (A i) 20 := fun a b => by
    obtain ⟨e1, e2⟩ := oa a b
    rw [e1]; exact vp_in_nI e2 (by omega)
  have vb : 3 ≤ qd_c K i → qd_c K i ≤ 5 → vp_in (B i) 20 := fun a b => by
    obtain ⟨e1, e2⟩ := ob a b
    rw [e1]; exact vp_in_nI e2 (by omega)
  unfold qd_val at hp
  unfold wpX_computed
  dsimp only
  refine ⟨vp_in_nI hi (by omega), ?_⟩
  rw [nI_clamp (by omega)]
  refine nm_e ⟨vp_in_nI hi (by omega), nm_e ⟨vp_in_nI hi (by omega), nm_r k1 ?_⟩⟩
  refine pk_lt (qd_c K i) 0 (fun h => absurd h (by omega)) (fun _ => ?_)
  refine pk_lt 9 (qd_c K i) (fun h => ?_) (fun h9 => ?_)
  · rw [if_neg (by omega), if_neg (by omega), if_neg (by omega), if_neg (by omega), if_neg (by omega), if_neg (by omega), if_neg (by omega), if_neg (by omega), if_neg (by omega), if_neg (by omega)] at hp
    exact qd_sumX n pc sc K A B T TN TC ord pl V pv i hi ho' hp
  refine pk_eq (qd_c K i) 0 (fun h0 => ?_) (fun h0 => ?_)
  · rw [if_pos h0] at hp
    exact hp
  rw [if_neg h0] at hp
  refine pk_eq (qd_c K i) 1 (fun h1 => ?_) (fun h1 => ?_)
  · rw [if_pos h1] at hp
    exact hp
  rw [if_neg h1] at hp
  refine pk_eq (qd_c K i) 2 (fun h2 => ?_) (fun h2 => ?_)
  · rw [if_pos h2] at hp
    refine ⟨va (by omega) (by omega), ?_⟩
    rw [show pv (A i).toNatClampNeg = P (qd_c A i) from hP _ (oa (by omega) (by omega)).2]
    exact hp
  rw [if_neg h2] at hp
  refine pk_eq (qd_c K i) 3 (fun h3 => ?_) (fun h3 => ?_)
  · rw [if_pos h3] at hp
    exact ⟨va (by omega) (by omega), vb (by omega) (by omega), qd_satX hp⟩
  rw [if_neg h3] at hp
  refine pk_eq (qd_c K i) 4 (fun h4 => ?_) (fun h4 => ?_)
  · rw [if_pos h4] at hp
    exact ⟨va (by omega) (by omega), vb (by omega) (by omega), qd_satX hp⟩
  rw [if_neg h4] at hp
  refine pk_eq (qd_c K i) 5 (fun h5 => ?_) (fun h5 => ?_)
  · rw [if_pos h5] at hp
    refine ⟨va (by omega) (by omega), vb (by omega) (by omega), br_c (fun h => ⟨vb (by omega) (by omega), ?_⟩) (fun h => ⟨va (by omega) (by omega), ?_⟩)⟩
    · rw [if_pos (show V (qd_c A i) ≤ V (qd_c B i) from h)] at hp; exact hp
    · rw [if_neg (show ¬ V (qd_c A i) ≤ V (qd_c B i) from h)] at hp; exact hp
  rw [if_neg h5] at hp
  refine pk_eq (qd_c K i) 6 (fun h6 => ?_) (fun h6 => ?_)
  · rw [if_pos h6] at hp
    exact ⟨va (by omega) (by omega), qd_satX hp⟩
  rw [if_neg h6] at hp
  refine pk_eq (qd_c K i) 7 (fun h7 => ?_) (fun h7 => ?_)
  · rw [if_pos h7] at hp
    refine ⟨va (by omega) (by omega), br_c (fun h => ⟨va (by omega) (by omega), ?_⟩) (fun h => ⟨va (by omega) (by omega), ?_⟩)⟩
    · rw [if_pos (show 0 ≤ V (qd_c A i) from h)] at hp; unfold wX_computed_192; exact qd_satX hp
    · rw [if_neg (show ¬ 0 ≤ V (qd_c A i) from h)] at hp; unfold wX_computed_192; exact qd_satX hp
  rw [if_neg h7] at hp
  refine pk_eq (qd_c K i) 8 (fun h8 => ?_) (fun h8 => ?_)
  · rw [if_pos h8] at hp
    exact ⟨va (by omega) (by omega), qd_satX hp⟩
  rw [if_neg h8] at hp
  refine pk_eq (qd_c K i) 9 (fun h9' => ?_) (fun _ => trivial)
  rw [if_pos h9'] at hp
  exact ⟨va (by omega) (by omega), hp⟩
end
section
variable (n : Nat) (sc : Int32) (K A B T TN TC V bf nm : Nat → Int32)
theorem qd_nowAt {post : Int32 → Prop} (a : Nat) (ha : a < 20) (hn : n ≤ 20) (hv : ∀ j, n ≤ j → V j = 0) (hp : post (V a)) : wpY_nowAt post (nI n, sc, K, A, B, T, TN, TC, V, bf, nm) (nI a) := by
  unfold wpY_nowAt
  dsimp only
  refine pk_le n a (fun h => ?_) (fun h => ⟨vp_in_nI ha (by omega), ?_⟩)
  · rw [hv a h] at hp; exact hp
  · rw [nI_clamp (by omega)]; exact hp
theorem qd_sum7 {post : Int32 → Prop} (i : Nat) (hi : i < 20) (hn : n ≤ 20) (ho : qd_ok K A B T TN TC i) (hv : ∀ j, n ≤ j → V j = 0) (hV : ∀ j, qd_in (V j)) (hp : post (qd_fin (qd_ts TN TC V i (qd_c T i)))) :
    ∀ d q, q + d = qd_c T i → wY_sumOf_7 post (nI i) (nI n) sc K A B T TN TC V bf nm (d + 1) (qd_ts TN TC V i q + 16384) (nI q) := by
  obtain ⟨_, _, _, ⟨t1, t2, _⟩, ot, _⟩ := ho
  intro d
  induction d with
  | zero =>
    intro q hq
    rw [wY_sumOf_7]
    refine ⟨vp_in_nI hi (by omega), ?_⟩
    rw [nI_clamp (by omega), t1]
    have e : q = qd_c T i := by omega
    rw [e]
    have hb := qd_tsB TN TC V i hV (qd_c T i) t2 (fun z hz => (ot z hz).2.2)
    exact br_t (nI_le (Nat.le_refl _) (by omega)) (qd_finY (by omega) (by omega) hp)
  | succ d ih =>
    intro q hq
    rw [wY_sumOf_7]
    refine ⟨vp_in_nI hi (by omega), ?_⟩
    rw [nI_clamp (n := i) (by omega), t1]
    refine br_f (nI_ge (by omega) (by omega)) ?_
    rw [qd_six]
    obtain ⟨e1, e2, _⟩ := ot q (by omega)
    refine ⟨vp_in_nI (by omega) (by omega), ?_⟩
    rw [nI_clamp (by omega)]
    rw [e1]
    refine qd_nowAt n sc K A B T TN TC V bf nm (qd_c TN (6 * i + q)) e2 hn hv ⟨vp_in_nI (by omega) (by omega), nm_r (e' := qd_ts TN TC V i (q + 1) + 16384) ?_ (nm_r (nI_1 q) (ih (q + 1) (by omega)))⟩
    show _ = qd_ts TN TC V i q + (TC (6 * i + q)).toInt64 * (V (qd_c TN (6 * i + q))).toInt64 + 16384
    rw [Int64.add_assoc, Int64.add_comm 16384, Int64.add_assoc]
theorem qd_sumY {post : Int32 → Prop} (i : Nat) (hi : i < 20) (hn : n ≤ 20) (ho : qd_ok K A B T TN TC i) (hv : ∀ j, n ≤ j → V j = 0) (hV : ∀ j, qd_in (V j)) (hp : post (qd_fin (qd_ts TN TC V i (qd_c T i)))) :
    wpY_sumOf post (nI n, sc, K, A, B, T, TN, TC, V, bf, nm) (nI i) := by
  unfold wpY_sumOf
  dsimp only
  exact ⟨qd_c T i + 1, qd_sum7 n sc K A B T TN TC V bf nm i hi hn ho hv hV hp (qd_c T i) 0 (by omega)⟩
theorem qd_compY {post : Int32 → Prop} (s : Nat) (hs : s < 100000) (x : Int32) (P : Nat → Int32) (i : Nat) (hi : i < 20) (hn : n ≤ 20) (ho : qd_ok K A B T TN TC i) (hv : ∀ j, n ≤ j → V j = 0) (hV : ∀ j, qd_in (V j))
    (hb : ∀ j, j < n → bf j = P j) (hP0 : s = 0 → ∀ j, P j = 0) (hPn : ∀ j, n ≤ j → P j = 0) (hp : post (qd_val K A B T TN TC (qd_sat x) P V i)) :
    wpY_worth post (nI n, nI s, K, A, B, T, TN, TC, V, bf, nm) (nI i) x := by
  have ho' := ho
  obtain ⟨⟨k1, k2⟩, oa, ob, _⟩ := ho
  have vi : vp_in (nI i) 20 := vp_in_nI hi (by omega)
  unfold qd_val at hp
  unfold wpY_worth
  dsimp only
  refine ⟨vi, ?_⟩
  rw [nI_clamp (by omega), k1]
  refine pk_eq (qd_c K i) 0 (fun h0 => ?_) (fun h0 => ⟨vi, ?_⟩)
  · rw [if_pos h0] at hp
    exact qd_satY hp
  refine pk_eq (qd_c K i) 1 (fun h1 => ?_) (fun h1 => ⟨vi, ?_⟩)
  · rw [if_neg (by omega), if_pos h1] at hp
    exact ⟨vi, hp⟩
  refine pk_eq (qd_c K i) 10 (fun h10 => ?_) (fun h10 => ⟨vi, ?_⟩)
  · rw [if_neg (by omega), if_neg (by omega), if_neg (by omega), if_neg (by omega), if_neg (by omega), if_neg (by omega), if_neg (by omega), if_neg (by omega), if_neg (by omega), if_neg (by omega)] at hp
    exact qd_sumY n (nI s) K A B T TN TC V bf nm i hi hn ho' hv hV hp
  refine pk_eq (qd_c K i) 2 (fun h2 => ?_) (fun h2 => ⟨vi, ?_⟩)
  · rw [if_neg (by omega), if_neg (by omega), if_pos h2] at hp
    obtain ⟨a1, a2⟩ := oa (by omega) (by omega)
    refine pk_eq s 0 (fun hs0 => ?_) (fun hs0 => ⟨vi, ?_⟩)
    · rw [hP0 hs0] at hp; exact hp
    · rw [a1]
      refine pk_lt (qd_c A i) n (fun h => ⟨vi, vp_in_nI a2 (by omega), ?_⟩) (fun h => ?_)
      · rw [nI_clamp (by omega), hb _ h]; exact hp
      · rw [hPn _ h] at hp; exact hp
  obtain ⟨a1, a2⟩ := oa (by omega) (by omega)
  rw [a1]
  refine qd_nowAt n (nI s) K A B T TN TC V bf nm (qd_c A i) a2 hn hv ⟨vi, ?_⟩
  refine pk_eq (qd_c K i) 6 (fun h6 => ?_) (fun h6 => ⟨vi, ?_⟩)
  · rw [if_neg (by omega), if_neg (by omega), if_neg (by omega), if_neg (by omega), if_neg (by omega), if_neg (by omega), if_pos h6] at hp
    exact qd_satY hp
  refine pk_eq (qd_c K i) 7 (fun h7 => ?_) (fun h7 => ⟨vi, ?_⟩)
  · rw [if_neg (by omega), if_neg (by omega), if_neg (by omega), if_neg (by omega), if_neg (by omega), if_neg (by omega), if_neg (by omega), if_pos h7] at hp
    unfold wY_worth_150
    refine br_c (fun h => ?_) (fun h => ?_)
    · rw [if_pos h] at hp; exact qd_satY hp
    · rw [if_neg h] at hp; exact qd_satY hp
  refine pk_eq (qd_c K i) 8 (fun h8 => ?_) (fun h8 => ⟨vi, ?_⟩)
  · rw [if_neg (by omega), if_neg (by omega), if_neg (by omega), if_neg (by omega), if_neg (by omega), if_neg (by omega), if_neg (by omega), if_neg (by omega), if_pos h8] at hp
    exact ⟨vi, qd_satY hp⟩
  refine pk_eq (qd_c K i) 9 (fun h9 => ?_) (fun h9 => ⟨vi, ?_⟩)
  · rw [if_neg (by omega), if_neg (by omega), if_neg (by omega), if_neg (by omega), if_neg (by omega), if_neg (by omega), if_neg (by omega), if_neg (by omega), if_neg (by omega), if_pos h9] at hp
    exact ⟨vi, hp⟩
  obtain ⟨b1, b2⟩ := ob (by omega) (by omega)
  rw [b1]
  refine qd_nowAt n (nI s) K A B T TN TC V bf nm (qd_c B i) b2 hn hv ⟨vi, ?_⟩
  refine pk_eq (qd_c K i) 3 (fun h3 => ?_) (fun h3 => ⟨vi, ?_⟩)
  · rw [if_neg (by omega), if_neg (by omega), if_neg (by omega), if_pos h3] at hp
    exact qd_satY hp
  refine pk_eq (qd_c K i) 4 (fun h4 => ?_) (fun h4 => ?_)
  · rw [if_neg (by omega), if_neg (by omega), if_neg (by omega), if_neg (by omega), if_pos h4] at hp
    exact qd_satY hp
  rw [if_neg (by omega), if_neg (by omega), if_neg (by omega), if_neg (by omega), if_neg (by omega), if_pos (show qd_c K i = 5 by omega)] at hp
  refine br_c (fun h => ?_) (fun h => ?_)
  · rw [if_pos h] at hp; exact hp
  · rw [if_neg h] at hp; exact hp
end
