/-! the reference's loop test, and its restart -/
theorem qd_six (i t : Nat) : (6 : Int32) * nI i + nI t = nI (6 * i + t) := by
  rw [show (6 : Int32) = nI 6 from rfl, pk_mul, nI_add]
section
variable (n : Nat) (sc : Int32) (K A B T TN TC V bf : Nat → Int32)
theorem qd_nb65 {post : Int32 → Prop} (nm : Nat → Int32) (i : Nat) (hi : i < 20) (hn : n ≤ 20) (ho : qd_ok K A B T TN TC i) (pre : Nat → Prop)
    (hp : ∀ r, (∀ j, j < 20 → (bt r j = true ↔ j < n ∧ (pre j ∨ ∃ q, q < qd_c T i ∧ qd_c TN (6 * i + q) = j))) → post r) :
    ∀ d t x2, t + d = qd_c T i → (∀ j, j < 20 → (bt x2 j = true ↔ (pre j ∨ ∃ q, q < t ∧ qd_c TN (6 * i + q) = j))) →
      wY_namedBy_65 post (nI i) (nI n) sc K A B T TN TC V bf nm (d + 1) x2 (nI t) := by
  obtain ⟨_, _, _, ⟨t1, t2, _⟩, ot, _⟩ := ho
  intro d
  induction d with
  | zero =>
    intro t x2 ht hx
    rw [wY_namedBy_65]
    refine ⟨vp_in_nI hi (by omega), ?_⟩
    rw [nI_clamp (by omega), t1]
    refine br_t (nI_le (by omega) (by omega)) (hp _ (fun j hj => ?_))
    rw [b_and, qd_mask n (by omega) j (by omega), Bool.and_eq_true, hx j hj, decide_eq_true_iff, and_comm, show t = qd_c T i by omega]
  | succ d ih =>
    intro t x2 ht hx
    rw [wY_namedBy_65]
    refine ⟨vp_in_nI hi (by omega), ?_⟩
    rw [nI_clamp (n := i) (by omega), t1]
    refine br_f (nI_ge (by omega) (by omega)) ?_
    rw [qd_six]
    refine ⟨vp_in_nI (by omega) (by omega), ?_⟩
    obtain ⟨e1, e2, _⟩ := ot t (by omega)
    rw [nI_clamp (by omega), e1]
    refine nm_e (nm_r (nI_1 t) (ih (t + 1) _ (by omega) (fun j hj => ?_)))
    rw [b_or, Bool.or_eq_true, hx j hj, qd_one (by omega) (by omega), decide_eq_true_iff]
    constructor
    · rintro ((h | ⟨q, hq, e⟩) | h)
      · exact Or.inl h
      · exact Or.inr ⟨q, by omega, e⟩
      · exact Or.inr ⟨t, by omega, h⟩
    · rintro (h | ⟨q, hq, e⟩)
      · exact Or.inl (Or.inl h)
      · by_cases eq : q = t
        · rw [eq] at e; exact Or.inr e
        · exact Or.inl (Or.inr ⟨q, by omega, e⟩)
theorem qd_nb32 {post : Int32 → Prop} (nm : Nat → Int32) (i : Nat) (hi : i < 20) (hn : n ≤ 20) (ho : qd_ok K A B T TN TC i) (pre : Nat → Prop) (x2 : Int32)
    (hx : ∀ j, j < 20 → (bt x2 j = true ↔ pre j))
    (hp : ∀ r, (∀ j, j < 20 → (bt r j = true ↔ j < n ∧ ((pre j ∨ (3 ≤ qd_c K i ∧ qd_c K i ≤ 5 ∧ qd_c B i = j)) ∨ ∃ q, q < qd_c T i ∧ qd_c TN (6 * i + q) = j))) → post r) :
    wY_namedBy_32 post (nI i) x2 (nI n) sc K A B T TN TC V bf nm := by
  have ho' := ho
  obtain ⟨⟨k1, k2⟩, oa, ob, _⟩ := ho
  unfold wY_namedBy_32
  refine ⟨vp_in_nI hi (by omega), ?_⟩
  rw [nI_clamp (by omega), k1]
  have z : ∀ y : Int32, (∀ j, j < 20 → (bt y j = true ↔ pre j ∨ (3 ≤ qd_c K i ∧ qd_c K i ≤ 5 ∧ qd_c B i = j))) → ∃ n65 : Nat, wY_namedBy_65 post (nI i) (nI n) sc K A B T TN TC V bf nm n65 y 0 := by
    intro y hy
    refine ⟨qd_c T i + 1, qd_nb65 n sc K A B T TN TC V bf nm i hi hn ho' _ hp (qd_c T i) 0 y (by omega) (fun j hj => ?_)⟩
    rw [hy j hj]
    exact ⟨Or.inl, fun h => h.elim id (fun ⟨q, hq, _⟩ => absurd hq (by omega))⟩
  refine pk_lt (qd_c K i) 3 (fun h => z x2 (fun j hj => ?_)) (fun h => ⟨vp_in_nI hi (by omega), pk_lt 5 (qd_c K i) (fun h2 => z x2 (fun j hj => ?_)) (fun h2 => ⟨vp_in_nI hi (by omega), ?_⟩)⟩)
  · rw [hx j hj]; exact ⟨Or.inl, fun h' => h'.elim id (fun h'' => absurd h''.1 (by omega))⟩
  · rw [hx j hj]; exact ⟨Or.inl, fun h' => h'.elim id (fun h'' => absurd h''.2.1 (by omega))⟩
  · obtain ⟨b1, b2⟩ := ob h h2
    rw [b1]
    refine nm_e (z _ (fun j hj => ?_))
    rw [b_or, Bool.or_eq_true, hx j hj, qd_one (by omega) (by omega), decide_eq_true_iff]
    exact ⟨fun h' => h'.elim Or.inl (fun e => Or.inr ⟨h, h2, e⟩), fun h' => h'.elim Or.inl (fun e => Or.inr e.2.2)⟩
theorem qd_named {post : Int32 → Prop} (nm : Nat → Int32) (i : Nat) (hi : i < 20) (hn : n ≤ 20) (ho : qd_ok K A B T TN TC i)
    (hp : ∀ r, (∀ j, j < 20 → (bt r j = true ↔ j < n ∧ qd_need K A B T TN i j)) → post r) :
    wpY_namedBy post (nI n, sc, K, A, B, T, TN, TC, V, bf, nm) (nI i) := by
  have ho' := ho
  obtain ⟨⟨k1, k2⟩, oa, ob, _⟩ := ho
  unfold wpY_namedBy
  dsimp only
  refine ⟨vp_in_nI hi (by omega), ?_⟩
  rw [nI_clamp (by omega), k1]
  have z : ∀ y : Int32, (∀ j, j < 20 → (bt y j = true ↔ (3 ≤ qd_c K i ∧ qd_c K i ≤ 9 ∧ qd_c A i = j))) → wY_namedBy_32 post (nI i) y (nI n) sc K A B T TN TC V bf nm := by
    intro y hy
    refine qd_nb32 n sc K A B T TN TC V bf nm i hi hn ho' _ y hy (fun r hr => hp r (fun j hj => ?_))
    rw [hr j hj]
    unfold qd_need
    rw [or_assoc]
  have z0 : (qd_c K i < 3 ∨ 9 < qd_c K i) → ∀ j, j < 20 → (bt 0 j = true ↔ (3 ≤ qd_c K i ∧ qd_c K i ≤ 9 ∧ qd_c A i = j)) := by
    intro h j hj
    rw [b_0]
    exact ⟨fun h' => absurd h' (by decide), fun ⟨a, b, _⟩ => absurd h (by omega)⟩
  refine pk_lt (qd_c K i) 3 (fun h => z 0 (z0 (Or.inl h))) (fun h => ⟨vp_in_nI hi (by omega), pk_lt 9 (qd_c K i) (fun h2 => z 0 (z0 (Or.inr h2))) (fun h2 => ⟨vp_in_nI hi (by omega), ?_⟩)⟩)
  obtain ⟨a1, a2⟩ := oa (by omega) h2
  rw [a1]
  refine nm_e (z _ (fun j hj => ?_))
  rw [qd_one (by omega) (by omega), decide_eq_true_iff]
  exact ⟨fun e => ⟨h, h2, e⟩, fun e => e.2.2⟩
theorem qd_s94 {post : Int32 → SY → Prop} (nm : Nat → Int32) (hn : n ≤ 20)
    (h0 : (∃ i, i < n ∧ bt (nm i) i = true) → post 0 (nI n, sc, K, A, B, T, TN, TC, V, bf, nm)) (h1 : (∀ i, i < n → ¬ bt (nm i) i = true) → post 1 (nI n, sc, K, A, B, T, TN, TC, V, bf, nm)) :
    ∀ d i, i + d = n → (∀ a, a < i → ¬ bt (nm a) a = true) → wY_sound_94 post (nI n) sc K A B T TN TC V bf nm (d + 1) (nI i) := by
  intro d
  induction d with
  | zero =>
    intro i hi hz
    rw [wY_sound_94]
    have e : i = n := by omega
    subst e
    exact br_t (nI_le (Nat.le_refl _) (by omega)) (h1 hz)
  | succ d ih =>
    intro i hi hz
    rw [wY_sound_94]
    refine br_f (nI_ge (by omega) (by omega)) ⟨vp_in_nI (by omega) (by omega), ?_⟩
    rw [nI_clamp (by omega), qd_bit _ (by omega)]
    refine br_c (fun h => h0 ⟨i, by omega, h⟩) (fun h => nm_r (nI_1 i) (ih (i + 1) (by omega) (fun a ha => ?_)))
    by_cases e : a = i
    · rw [e]; exact h
    · exact hz a (by omega)
theorem qd_s39 {post : Int32 → SY → Prop} {J : Int32 → (Nat → Int32) → (Nat → Int32) → (Nat → Int32) → (Nat → Int32) → (Nat → Int32) → (Nat → Int32) → (Nat → Int32) → (Nat → Int32) → (Nat → Int32) → Prop} (hn : n ≤ 20) (m : Nat) (hm : m < n) (nm0 : Nat → Int32)
    (hJ : ∀ nm, qd_St n m n nm0 nm → J (nI (m + 1)) K A B T TN TC V bf nm) :
    ∀ d i nm, i + d = n → qd_St n m i nm0 nm → wY_sound_39 post J (nI m) (nI n) sc (d + 1) (nI i) K A B T TN TC V bf nm := by
  intro d
  induction d with
  | zero =>
    intro i nm hi hs
    rw [wY_sound_39]
    have e : i = n := by omega
    subst e
    exact br_t (nI_le (Nat.le_refl _) (by omega)) (nm_r (nI_1 m) (hJ nm hs))
  | succ d ih =>
    intro i nm hi hs
    rw [wY_sound_39]
    refine br_f (nI_ge (by omega) (by omega)) ⟨vp_in_nI (by omega) (by omega), ?_⟩
    rw [nI_clamp (by omega), nI_clamp (by omega), qd_bit _ (by omega)]
    refine br_c (fun h => ⟨vp_in_nI (by omega) (by omega), vp_in_nI (by omega) (by omega), vp_in_nI (by omega) (by omega), nm_e (nm_r (nI_1 i) (ih (i + 1) _ (by omega) (qd_St_s hs hm (by omega) h)))⟩) (fun h => nm_r (nI_1 i) (ih (i + 1) nm (by omega) (qd_St_n hs (by omega) h)))
theorem qd_s29 {post : Int32 → SY → Prop} {R : Nat → Nat → Prop} (hn : n ≤ 20)
    (hp : ∀ nm, qd_Wa R n n nm → ∃ n94 : Nat, wY_sound_94 post (nI n) sc K A B T TN TC V bf nm n94 0) :
    ∀ d m nm, m + d = n → qd_Wa R n m nm → wY_sound_29 post (nI n) sc (d + 1) (nI m) K A B T TN TC V bf nm := by
  intro d
  induction d with
  | zero =>
    intro m nm hm hw
    rw [wY_sound_29]
    have e : m = n := by omega
    subst e
    exact br_t (nI_le (Nat.le_refl _) (by omega)) (hp nm hw)
  | succ d ih =>
    intro m nm hm hw
    rw [wY_sound_29]
    refine br_f (nI_ge (by omega) (by omega)) ⟨n + 1, ?_⟩
    exact qd_s39 n sc K A B T TN TC V bf hn m (by omega) nm (fun nm' hs => ih (m + 1) nm' (by omega) (qd_Wa_s hw (by omega) hs)) n 0 nm (by omega) ⟨fun a j _ h => by omega, fun a _ _ => rfl⟩
theorem qd_s2 {post : Int32 → SY → Prop} (hW : qd_WF n K A B T TN TC)
    (hp : ∀ nm, qd_Wa (qd_need K A B T TN) n 0 nm → ∃ n29 : Nat, wY_sound_29 post (nI n) sc n29 0 K A B T TN TC V bf nm) :
    ∀ d i nm, i + d = n → (∀ a j, a < i → j < 20 → (bt (nm a) j = true ↔ j < n ∧ qd_need K A B T TN a j)) → wY_sound_2 post (nI n) sc (d + 1) (nI i) K A B T TN TC V bf nm := by
  have hn := hW.1
  intro d
  induction d with
  | zero =>
    intro i nm hi hw
    rw [wY_sound_2]
    have e : i = n := by omega
    subst e
    refine br_t (nI_le (Nat.le_refl _) (by omega)) (hp nm ⟨fun a j ha hj hr => (hw a j ha (by omega)).mpr ⟨hj, hr⟩, fun q a j hq => by omega, fun L hL hT a j ha hj hb => hL a j ha hj ((hw a j ha (by omega)).mp hb).2⟩)
  | succ d ih =>
    intro i nm hi hw
    rw [wY_sound_2]
    refine br_f (nI_ge (by omega) (by omega)) ?_
    refine qd_named n sc K A B T TN TC V bf nm i (by omega) hn (hW.2 i (by omega)) (fun r hr => ⟨vp_in_nI (by omega) (by omega), ?_⟩)
    rw [nI_clamp (by omega)]
    refine nm_e (nm_r (nI_1 i) (ih (i + 1) _ (by omega) (fun a j ha hj => ?_)))
    by_cases e : a = i
    · rw [e, pk_us]; exact hr j hj
    · rw [pk_un e]; exact hw a j (by omega) hj
theorem qd_sound {post : Int32 → SY → Prop} {p : Nat} {ord pl : Nat → Int32} (nm : Nat → Int32) (hW : qd_WF n K A B T TN TC) (ho : qd_Or (qd_need K A B T TN) n p ord pl) (hc : qd_Cl (qd_need K A B T TN) n pl)
    (h1 : p = n → ∀ nm, post 1 (nI n, sc, K, A, B, T, TN, TC, V, bf, nm)) (h0 : p ≠ n → ∀ nm, post 0 (nI n, sc, K, A, B, T, TN, TC, V, bf, nm)) :
    wpY_sound post (nI n, sc, K, A, B, T, TN, TC, V, bf, nm) := by
  have hn := hW.1
  unfold wpY_sound
  refine ⟨n + 1, qd_s2 n sc K A B T TN TC V bf hW (fun nm' hw => ⟨n + 1, qd_s29 n sc K A B T TN TC V bf hn (fun nm2 hw2 => ⟨n + 1, ?_⟩) n 0 nm' (by omega) hw⟩) n 0 nm (by omega) (fun a j ha => by omega)⟩
  have key := qd_eqv hn ho hc hw2
  refine qd_s94 n sc K A B T TN TC V bf nm2 hn (fun ⟨i, hi, hb⟩ => h0 (fun e => key.mp e i hi hb) nm2) (fun h => h1 (key.mpr h) nm2) n 0 (by omega) (fun a ha => by omega)
theorem qd_rest7 {post : SY → Prop} (nc : Int32) (nm : Nat → Int32) (hp : post (nc, sc, K, A, B, T, TN, TC, (fun _ => 0), bf, nm)) :
    ∀ d i V, i + d = 20 → (∀ j, 20 ≤ j → V j = 0) → (∀ j, j < i → V j = 0) → wY_restart_7 post nc sc (d + 1) (nI i) K A B T TN TC V bf nm := by
  intro d
  induction d with
  | zero =>
    intro i V hi hv hz
    rw [wY_restart_7]
    have e : i = 20 := by omega
    subst e
    refine br_t (by decide) ?_
    have e : V = fun _ => 0 := funext fun j => by
      by_cases hj : j < 20
      · exact hz j hj
      · exact hv j (by omega)
    rw [e]; exact hp
  | succ d ih =>
    intro i V hi hv hz
    rw [wY_restart_7]
    refine br_f (nI_ge (b := 20) (by omega) (by decide)) ⟨vp_in_nI (by omega) (by omega), ?_⟩
    rw [nI_clamp (by omega)]
    refine nm_e (nm_r (nI_1 i) (ih (i + 1) _ (by omega) (fun j hj => ?_) (fun j hj => ?_)))
    · rw [pk_un (by omega)]; exact hv j hj
    · by_cases e : j = i
      · rw [e, pk_us]
      · rw [pk_un e]; exact hz j (by omega)
theorem qd_rest {post : SY → Prop} (nc : Int32) (nm : Nat → Int32) (hv : ∀ j, 20 ≤ j → V j = 0) (hp : post (nc, 0, K, A, B, T, TN, TC, (fun _ => 0), bf, nm)) :
    wpY_restart post (nc, sc, K, A, B, T, TN, TC, V, bf, nm) := by
  unfold wpY_restart
  exact ⟨21, qd_rest7 0 K A B T TN TC bf nc nm hp 20 0 V (by omega) hv (fun j hj => by omega)⟩
end
