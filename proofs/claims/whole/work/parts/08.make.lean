/-! what may be made, and what stays as it was -/
def qd_F (c : Nat) (a b : Int32) : Prop :=
  (c = 1 → ¬ a < -32768 ∧ ¬ 32767 < a) ∧ (2 ≤ c → c ≤ 9 → ¬ a < 0 ∧ ¬ 19 < a) ∧ (3 ≤ c → c ≤ 5 → ¬ b < 0 ∧ ¬ 19 < b) ∧ (c = 8 → ¬ b < 0 ∧ ¬ 7 < b) ∧ (c = 9 → ¬ b < 0 ∧ ¬ 15 < b)
theorem qd_wi {post : Int32 → Prop} {v lo hi : Int32} (h1 : (¬ v < lo ∧ ¬ hi < v) → post 1) (h0 : ¬ (¬ v < lo ∧ ¬ hi < v) → post 0) : wpX_isWithin post v lo hi := by
  unfold wpX_isWithin
  exact br_c (fun h => h0 (fun z => z.1 h)) (fun h => br_c (fun h2 => h0 (fun z => z.2 h2)) (fun h2 => h1 ⟨h, h2⟩))
theorem qd_can44 {post : Int32 → Prop} (c : Nat) (hc : c ≤ 10) (a b : Int32) (hc1 : c ≠ 1) (ha : 2 ≤ c → c ≤ 9 → ¬ a < 0 ∧ ¬ 19 < a) (h1 : qd_F c a b → post 1) (h0 : ¬ qd_F c a b → post 0) : wX_canBeMade_44 post (nI c) b := by
  unfold wX_canBeMade_44
  refine pk_eq c 8 (fun h8 => qd_wi (fun x => ⟨qd_nb1, h1 ?_⟩) (fun x => ⟨qd_nb0, h0 ?_⟩)) (fun h8 => ?_)
  · exact ⟨fun h => by omega, ha, fun _ h => by omega, fun _ => x, fun h => by omega⟩
  · exact fun f => x (f.2.2.2.1 h8)
  refine pk_eq c 9 (fun h9 => qd_wi (fun x => ⟨qd_nb1, h1 ?_⟩) (fun x => ⟨qd_nb0, h0 ?_⟩)) (fun h9 => ?_)
  · exact ⟨fun h => by omega, ha, fun _ h => by omega, fun h => by omega, fun _ => x⟩
  · exact fun f => x (f.2.2.2.2 h9)
  unfold wpX_namesSecond
  refine qd_within c 3 5 (by omega) (by omega) (by omega) (fun x y => ⟨qd_nb1, br_f (by decide) ?_⟩) (fun x => ⟨qd_nb0, br_t rfl (h1 ?_)⟩)
  · unfold wpX_isNodeNumber
    refine qd_wi (fun z => ⟨qd_nb1, br_f (by decide) (h1 ?_)⟩) (fun z => ⟨qd_nb0, br_t rfl (h0 ?_)⟩)
    · exact ⟨fun h => by omega, ha, fun _ _ => z, fun h => by omega, fun h => by omega⟩
    · exact fun f => z (f.2.2.1 x y)
  · exact ⟨fun h => by omega, ha, fun h h' => by omega, fun h => by omega, fun h => by omega⟩
theorem qd_canX {post : Int32 → Prop} (c : Nat) (hc : c ≤ 10) (a b : Int32) (h1 : qd_F c a b → post 1) (h0 : ¬ qd_F c a b → post 0) : wpX_canBeMade post (nI c) a b := by
  unfold wpX_canBeMade
  refine qd_within c 0 10 (by omega) (by omega) (by omega) (fun _ _ => br_f (by decide) ?_) (fun h => by omega)
  refine pk_eq c 1 (fun hc1 => qd_wi (fun x => ⟨qd_nb1, h1 ?_⟩) (fun x => ⟨qd_nb0, h0 ?_⟩)) (fun hc1 => ?_)
  · exact ⟨fun _ => x, fun h => by omega, fun h => by omega, fun h => by omega, fun h => by omega⟩
  · exact fun f => x (f.1 hc1)
  unfold wpX_namesFirst
  refine qd_within c 2 9 (by omega) (by omega) (by omega) (fun x y => ⟨qd_nb1, br_f (by decide) ?_⟩) (fun x => ⟨qd_nb0, br_t rfl (qd_can44 c hc a b hc1 (fun h h' => by omega) h1 h0)⟩)
  unfold wpX_isNodeNumber
  exact qd_wi (fun z => ⟨qd_nb1, br_f (by decide) (qd_can44 c hc a b hc1 (fun _ _ => z) h1 h0)⟩) (fun z => ⟨qd_nb0, br_t rfl (h0 (fun f => z (f.2.1 x y)))⟩)
theorem qd_canX0 {post : Int32 → Prop} {k : Int32} (a b : Int32) (h : ¬ (¬ k < 0 ∧ ¬ 10 < k)) (h0 : post 0) : wpX_canBeMade post k a b := by
  unfold wpX_canBeMade
  exact qd_wi (fun x => absurd x h) (fun _ => br_t rfl h0)
section
variable (u1 u2 : Int32) (K A B T TN TC V bf nm : Nat → Int32)
theorem qd_isName {post : Int32 → Prop} {v : Int32} (h1 : (¬ v < 0 ∧ ¬ 19 < v) → post 1) (h0 : ¬ (¬ v < 0 ∧ ¬ 19 < v) → post 0) : wpY_isName post (u1, u2, K, A, B, T, TN, TC, V, bf, nm) v := by
  unfold wpY_isName
  exact br_c (fun h => h0 (fun z => z.1 h)) (fun h => br_c (fun h2 => h0 (fun z => z.2 h2)) (fun h2 => h1 ⟨h, h2⟩))
theorem qd_isValue {post : Int32 → Prop} {v : Int32} (h1 : (¬ v < -32768 ∧ ¬ 32767 < v) → post 1) (h0 : ¬ (¬ v < -32768 ∧ ¬ 32767 < v) → post 0) : wpY_isValue post (u1, u2, K, A, B, T, TN, TC, V, bf, nm) v := by
  unfold wpY_isValue
  exact br_c (fun h => h0 (fun z => z.1 h)) (fun h => br_c (fun h2 => h0 (fun z => z.2 h2)) (fun h2 => h1 ⟨h, h2⟩))
theorem qd_fits60 {post : Int32 → Prop} (c : Nat) (hc : c ≤ 10) (a b : Int32) (hc1 : c ≠ 1) (hc2 : c < 3 ∨ 5 < c) (ha : 2 ≤ c → c ≤ 9 → ¬ a < 0 ∧ ¬ 19 < a) (h1 : qd_F c a b → post 1) (h0 : ¬ qd_F c a b → post 0) : wY_fits_60 post (nI c) b u1 u2 K A B T TN TC V bf nm := by
  unfold wY_fits_60
  refine pk_eq c 8 (fun h8 => ?_) (fun h8 => ?_)
  · exact br_c (fun h => h0 (fun f => (f.2.2.2.1 h8).1 h)) (fun h => br_c (fun h' => h0 (fun f => (f.2.2.2.1 h8).2 h')) (fun h' => h1 ⟨fun z => by omega, ha, fun _ z => by omega, fun _ => ⟨h, h'⟩, fun z => by omega⟩))
  refine pk_eq c 9 (fun h9 => ?_) (fun h9 => h1 ⟨fun z => by omega, ha, fun z z' => by omega, fun z => by omega, fun z => by omega⟩)
  exact br_c (fun h => h0 (fun f => (f.2.2.2.2 h9).1 h)) (fun h => br_c (fun h' => h0 (fun f => (f.2.2.2.2 h9).2 h')) (fun h' => h1 ⟨fun z => by omega, ha, fun _ z => by omega, fun z => by omega, fun _ => ⟨h, h'⟩⟩))
theorem qd_fits44 {post : Int32 → Prop} (c : Nat) (hc : c ≤ 10) (a b : Int32) (hc1 : c ≠ 1) (ha : 2 ≤ c → c ≤ 9 → ¬ a < 0 ∧ ¬ 19 < a) (h1 : qd_F c a b → post 1) (h0 : ¬ qd_F c a b → post 0) : wY_fits_44 post (nI c) b u1 u2 K A B T TN TC V bf nm := by
  unfold wY_fits_44
  refine pk_lt c 3 (fun h => qd_fits60 u1 u2 K A B T TN TC V bf nm c hc a b hc1 (Or.inl h) ha h1 h0) (fun h => pk_lt 5 c (fun h' => qd_fits60 u1 u2 K A B T TN TC V bf nm c hc a b hc1 (Or.inr h') ha h1 h0) (fun h' => ?_))
  exact qd_isName u1 u2 K A B T TN TC V bf nm (fun z => ⟨qd_nb1, h1 ⟨fun z => by omega, ha, fun _ _ => z, fun z => by omega, fun z => by omega⟩⟩) (fun z => ⟨qd_nb0, h0 (fun f => z (f.2.2.1 h h'))⟩)
theorem qd_fitsY {post : Int32 → Prop} (c : Nat) (hc : c ≤ 10) (a b : Int32) (h1 : qd_F c a b → post 1) (h0 : ¬ qd_F c a b → post 0) : wpY_fits post (u1, u2, K, A, B, T, TN, TC, V, bf, nm) (nI c) a b := by
  unfold wpY_fits
  dsimp only
  refine pk_lt c 0 (fun h => by omega) (fun _ => pk_le c 10 (fun _ => ?_) (fun h => by omega))
  refine pk_eq c 1 (fun hc1 => ?_) (fun hc1 => ?_)
  · exact qd_isValue u1 u2 K A B T TN TC V bf nm (fun x => ⟨qd_nb1, h1 ⟨fun _ => x, fun h => by omega, fun h => by omega, fun h => by omega, fun h => by omega⟩⟩) (fun x => ⟨qd_nb0, h0 (fun f => x (f.1 hc1))⟩)
  refine pk_lt c 2 (fun h => qd_fits44 u1 u2 K A B T TN TC V bf nm c hc a b hc1 (fun _ _ => by omega) h1 h0) (fun h => pk_lt 9 c (fun h' => qd_fits44 u1 u2 K A B T TN TC V bf nm c hc a b hc1 (fun _ _ => by omega) h1 h0) (fun h' => ?_))
  exact qd_isName u1 u2 K A B T TN TC V bf nm (fun z => br_f (by decide) (qd_fits44 u1 u2 K A B T TN TC V bf nm c hc a b hc1 (fun _ _ => z) h1 h0)) (fun z => br_t rfl (h0 (fun f => z (f.2.1 h h'))))
theorem qd_fitsY0 {post : Int32 → Prop} {k : Int32} (a b : Int32) (h : ¬ (¬ k < 0 ∧ ¬ 10 < k)) (h0 : post 0) : wpY_fits post (u1, u2, K, A, B, T, TN, TC, V, bf, nm) k a b := by
  unfold wpY_fits
  exact br_c (fun _ => h0) (fun h1 => br_f (fun h2 => h ⟨h1, Int32.not_lt.mpr h2⟩) h0)
end
/-- an int from 0 to m, as a natural number -/
theorem qd_nat {x M : Int32} {m : Nat} (hM : M.toInt = m) (h : ¬ x < 0 ∧ ¬ M < x) : ∃ j, j ≤ m ∧ x = nI j := nI_of2 hM h.1 (Int32.not_lt.mp h.2)
theorem qd_19 {x : Int32} (h : ¬ x < 0 ∧ ¬ 19 < x) : x = nI x.toNatClampNeg ∧ x.toNatClampNeg < 20 := by
  obtain ⟨j, hj, rfl⟩ := qd_nat (m := 19) (by decide) h
  rw [nI_clamp (by omega)]
  exact ⟨rfl, by omega⟩
theorem qd_inV {x : Int32} (h : ¬ x < -32768 ∧ ¬ 32767 < x) : qd_in x := qd_ofI h.1 h.2
theorem qd_c_us {f : Nat → Int32} {i : Nat} {x : Int32} : qd_c (upd f i x) i = x.toNatClampNeg := by unfold qd_c; rw [pk_us]
theorem qd_c_un {f : Nat → Int32} {i j : Nat} {x : Int32} (h : j ≠ i) : qd_c (upd f i x) j = qd_c f j := by unfold qd_c; rw [pk_un h]
theorem qd_WF_node {n c : Nat} {K A B T TN TC : Nat → Int32} {a b : Int32} (hW : qd_WF n K A B T TN TC) (hn : n < 20) (hc : c ≤ 10) (hF : qd_F c a b) : qd_WF (n + 1) (upd K n (nI c)) (upd A n a) (upd B n b) (upd T n 0) TN TC := by
  refine ⟨by omega, fun i hi => ?_⟩
  by_cases e : i = n
  · subst e
    unfold qd_ok
    rw [qd_c_us, qd_c_us, qd_c_us, qd_c_us, pk_us, pk_us, pk_us, pk_us, nI_clamp (by omega), show (0 : Int32).toNatClampNeg = 0 from rfl]
    exact ⟨⟨rfl, hc⟩, fun h h' => qd_19 (hF.2.1 h h'), fun h h' => qd_19 (hF.2.2.1 h h'), ⟨rfl, by omega, fun _ => rfl⟩, fun t ht => by omega, fun h => qd_inV (hF.1 h)⟩
  · unfold qd_ok
    rw [qd_c_un e, qd_c_un e, qd_c_un e, qd_c_un e, pk_un e, pk_un e, pk_un e, pk_un e]
    exact hW.2 i (by omega)
theorem qd_WF_tap {n i d : Nat} {K A B T TN TC : Nat → Int32} {f : Int32} (hW : qd_WF n K A B T TN TC) (hi : i < n) (hK : qd_c K i = 10) (ht : qd_c T i < 6) (hd : d < 20) (hf : qd_in f) :
    qd_WF n K A B (upd T i (nI (qd_c T i + 1))) (upd TN (6 * i + qd_c T i) (nI d)) (upd TC (6 * i + qd_c T i) f) := by
  refine ⟨hW.1, fun j hj => ?_⟩
  have hok := hW.2 j hj
  unfold qd_ok at hok ⊢
  obtain ⟨k1, oa, ob, ot, os, o1⟩ := hok
  refine ⟨k1, oa, ob, ?_, ?_, o1⟩
  · by_cases e : j = i
    · subst e
      rw [qd_c_us, pk_us, nI_clamp (by omega)]
      exact ⟨rfl, by omega, fun h => absurd hK h⟩
    · rw [qd_c_un e, pk_un e]; exact ot
  · intro t htt
    by_cases e : j = i
    · subst e
      rw [qd_c_us, nI_clamp (by omega)] at htt
      by_cases e2 : t = qd_c T j
      · subst e2
        rw [qd_c_us, pk_us, pk_us, nI_clamp (by omega)]
        exact ⟨rfl, hd, hf⟩
      · rw [qd_c_un (by omega), pk_un (by omega), pk_un (by omega)]
        exact os t (by omega)
    · rw [qd_c_un e] at htt
      have h6 := ot.2.1
      rw [qd_c_un (by omega), pk_un (by omega), pk_un (by omega)]
      exact os t htt
/-- k samples, one after the other -/
def qd_it (K A B T TN TC : Nat → Int32) (x : Int32) (ord : Nat → Int32) (p : Nat) (V : Nat → Int32) : Nat → (Nat → Int32)
  | 0 => V
  | k + 1 => qd_run K A B T TN TC x (qd_it K A B T TN TC x ord p V k) ord (qd_it K A B T TN TC x ord p V k) p
section
variable (n p : Nat) (K A B T TN TC ord pl V : Nat → Int32)
theorem qd_it_in (x : Int32) (hW : qd_WF n K A B T TN TC) (ho : qd_Or (qd_need K A B T TN) n p ord pl) (hx : qd_in x) (hV : ∀ j, qd_in (V j)) : ∀ k j, qd_in (qd_it K A B T TN TC x ord p V k j) := by
  intro k
  induction k with
  | zero => exact hV
  | succ k ih => exact fun j => qd_run_in n p K A B T TN TC ord pl x _ _ hW ho hx ih ih p (Nat.le_refl _) j
theorem qd_it_hi (x : Int32) (hn : n ≤ 20) (ho : qd_Or (qd_need K A B T TN) n p ord pl) (hV : ∀ j, n ≤ j → V j = 0) : ∀ k j, n ≤ j → qd_it K A B T TN TC x ord p V k j = 0 := by
  intro k
  induction k with
  | zero => exact hV
  | succ k ih =>
    intro j hj
    show qd_run K A B T TN TC x (qd_it K A B T TN TC x ord p V k) ord (qd_it K A B T TN TC x ord p V k) p j = 0
    rw [qd_run_hi n p K A B T TN TC ord pl x _ _ hn ho p (Nat.le_refl _) j hj]
    exact ih j hj
theorem qd_rep26 {post : Int32 → SX → Prop} (s t : Nat) (ht : t ≤ 40) (x : Int32) (hW : qd_WF n K A B T TN TC) (ho : qd_Or (qd_need K A B T TN) n p ord pl)
    (hp : ∀ pv, post (nI t) (nI p, nI n, nI (s + t), K, A, B, T, TN, TC, ord, pl, qd_it K A B T TN TC x ord p V t, pv)) :
    ∀ d k pv, k + d = t → wX_repeat_26 post (nI t) x (d + 1) (nI k) (nI p) (nI n) (nI (s + k)) K A B T TN TC ord pl (qd_it K A B T TN TC x ord p V k) pv := by
  intro d
  induction d with
  | zero =>
    intro k pv hk
    rw [wX_repeat_26]
    have e : k = t := by omega
    subst e
    exact br_t (nI_le (Nat.le_refl _) (by omega)) (hp pv)
  | succ d ih =>
    intro k pv hk
    rw [wX_repeat_26]
    refine br_f (nI_ge (by omega) (by omega)) ?_
    refine qd_take n p (nI (s + k)) K A B T TN TC ord pl x _ pv hW ho (fun pv' => ?_)
    dsimp only
    rw [nI_1 (s + k)]
    exact nm_r (nI_1 k) (ih (k + 1) pv' (by omega))
theorem qd_rep27 {post : Int32 → SY → Prop} (s t : Nat) (hs : s < 90000) (ht : t ≤ 40) (x : Int32) (hW : qd_WF n K A B T TN TC) (ho : qd_Or (qd_need K A B T TN) n p ord pl) (hc : qd_Cl (qd_need K A B T TN) n pl) (hpn : p = n)
    (hV : ∀ j, qd_in (V j)) (hV0 : s = 0 → ∀ j, V j = 0) (hVn : ∀ j, n ≤ j → V j = 0)
    (hp : ∀ bf nm, post (nI t) (nI n, nI (s + t), K, A, B, T, TN, TC, qd_it K A B T TN TC (qd_sat x) ord p V t, bf, nm)) :
    ∀ d k bf nm, k + d = t → wY_repeat_27 post x (nI t) (d + 1) (nI k) (nI k) (nI n) (nI (s + k)) K A B T TN TC (qd_it K A B T TN TC (qd_sat x) ord p V k) bf nm := by
  intro d
  induction d with
  | zero =>
    intro k bf nm hk
    rw [wY_repeat_27]
    have e : k = t := by omega
    subst e
    exact br_t (nI_le (Nat.le_refl _) (by omega)) (hp bf nm)
  | succ d ih =>
    intro k bf nm hk
    rw [wY_repeat_27]
    refine br_f (nI_ge (by omega) (by omega)) ?_
    refine qd_feedY n p K A B T TN TC ord pl (s + k) (by omega) x _ bf nm hW ho hc (qd_it_in n p K A B T TN TC ord pl V (qd_sat x) hW ho (qd_sat_in x) hV k) ?_ (qd_it_hi n p K A B T TN TC ord pl V (qd_sat x) hW.1 ho hVn k) (fun _ bf' nm' => ?_) (fun h => absurd hpn h)
    · intro h j
      have e : k = 0 := by omega
      subst e
      exact hV0 (by omega) j
    · exact br_f (by decide) (nm_r (nI_1 k) (nm_r (nI_1 k) (ih (k + 1) bf' nm' (by omega))))
theorem qd_rep27n {post : Int32 → SY → Prop} (s t : Nat) (hs : s < 90000) (ht : t ≤ 40) (x : Int32) (bf : Nat → Int32) (hW : qd_WF n K A B T TN TC) (ho : qd_Or (qd_need K A B T TN) n p ord pl) (hc : qd_Cl (qd_need K A B T TN) n pl) (hpn : p ≠ n)
    (hV : ∀ j, qd_in (V j)) (hV0 : s = 0 → ∀ j, V j = 0) (hVn : ∀ j, n ≤ j → V j = 0)
    (hp : ∀ nm, post 0 (nI n, nI s, K, A, B, T, TN, TC, V, bf, nm)) :
    ∀ d k nm, k + d = t → wY_repeat_27 post x (nI t) (d + 1) 0 (nI k) (nI n) (nI s) K A B T TN TC V bf nm := by
  intro d
  induction d with
  | zero =>
    intro k nm hk
    rw [wY_repeat_27]
    have e : k = t := by omega
    subst e
    exact br_t (nI_le (Nat.le_refl _) (by omega)) (hp nm)
  | succ d ih =>
    intro k nm hk
    rw [wY_repeat_27]
    refine br_f (nI_ge (by omega) (by omega)) ?_
    refine qd_feedY n p K A B T TN TC ord pl s (by omega) x V bf nm hW ho hc hV hV0 hVn (fun h => absurd h hpn) (fun _ nm' => ?_)
    exact br_t rfl (nm_r (nI_1 k) (ih (k + 1) nm' (by omega)))
end
theorem qd_times (v : Int32) : ∃ t : Nat, t ≤ 40 ∧ (∀ post : Int32 → Prop, post (nI t) → wpX_clamped post v 0 40) ∧ (∀ Q : Int32 → Prop, Q (nI t) → ((0 ≤ v → ((v ≤ 40 → Q v) ∧ (¬ v ≤ 40 → Q 40))) ∧ (¬ 0 ≤ v → Q 0))) := by
  by_cases h0 : 0 ≤ v
  · by_cases h1 : v ≤ 40
    · obtain ⟨t, ht, rfl⟩ := qd_nat (m := 40) (x := v) (M := 40) (by decide) ⟨Int32.not_lt.mpr h0, Int32.not_lt.mpr h1⟩
      exact ⟨t, ht, fun post hp => br_t h0 (br_t h1 hp), fun Q hq => br_t h0 (br_t h1 hq)⟩
    · exact ⟨40, by omega, fun post hp => br_t h0 (br_f h1 hp), fun Q hq => br_t h0 (br_f h1 hq)⟩
  · exact ⟨0, by omega, fun post hp => br_f h0 hp, fun Q hq => br_f h0 hq⟩
