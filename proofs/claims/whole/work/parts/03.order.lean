/-! the component's placing -/
theorem qd_within {post : Int32 → Prop} (c lo hi : Nat) (hc : c < 100) (hl : lo < 100) (hh : hi < 100) (h1 : lo ≤ c → c ≤ hi → post 1) (h0 : c < lo ∨ hi < c → post 0) : wpX_isWithin post (nI c) (nI lo) (nI hi) := by
  unfold wpX_isWithin
  refine pk_lt c lo (fun h => h0 (Or.inl h)) (fun h => pk_lt hi c (fun h2 => h0 (Or.inr h2)) (fun h2 => h1 h h2))
section
variable (n : Nat) (pc sc : Int32) (K A B T TN TC ord pl V pv : Nat → Int32)
theorem qd_atHand {post : Int32 → Prop} (a : Nat) (ha : a < 20) (hn : n ≤ 20) (h0 : a < n → pl a = 0 → post 0) (h1 : (a < n → ¬ pl a = 0) → post 1) : wpX_isAtHand post (pc, nI n, sc, K, A, B, T, TN, TC, ord, pl, V, pv) (nI a) := by
  unfold wpX_isAtHand
  dsimp only
  refine pk_le n a (fun h => h1 (fun z => absurd z (by omega))) (fun h => ⟨vp_in_nI ha (by omega), ?_⟩)
  rw [nI_clamp (by omega)]
  exact ⟨fun z => h0 h z, fun z => h1 (fun _ => z)⟩
theorem qd_taps17 {post : Int32 → Prop} (i t : Nat) (hi : i < 20) (ht : t ≤ 6) (hn : n ≤ 20) (hk : ∀ q, q < t → TN (6 * i + q) = nI (qd_c TN (6 * i + q)) ∧ qd_c TN (6 * i + q) < 20)
    (h0 : (∃ q, q < t ∧ qd_c TN (6 * i + q) < n ∧ pl (qd_c TN (6 * i + q)) = 0) → post 0) (h1 : (∀ q, q < t → qd_c TN (6 * i + q) < n → ¬ pl (qd_c TN (6 * i + q)) = 0) → post 1) :
    ∀ d q, q + d = t → (∀ z, z < q → qd_c TN (6 * i + z) < n → ¬ pl (qd_c TN (6 * i + z)) = 0) → wX_areTapsReady_17 post (nI (6 * i + t)) pc (nI n) sc K A B T TN TC ord pl V pv (d + 1) (nI (6 * i + q)) := by
  intro d
  induction d with
  | zero =>
    intro q hq hz
    rw [wX_areTapsReady_17]
    have e : q = t := by omega
    subst e
    exact br_t (nI_le (Nat.le_refl _) (by omega)) (h1 hz)
  | succ d ih =>
    intro q hq hz
    rw [wX_areTapsReady_17]
    refine br_f (nI_ge (by omega) (by omega)) ⟨vp_in_nI (by omega) (by omega), ?_⟩
    obtain ⟨e1, e2⟩ := hk q (by omega)
    rw [nI_clamp (by omega), e1]
    refine qd_atHand n pc sc K A B T TN TC ord pl V pv _ e2 hn (fun a b => br_t rfl (h0 ⟨q, by omega, a, b⟩)) (fun a => br_f (by decide) (nm_r (nI_1 (6 * i + q)) ?_))
    refine ih (q + 1) (by omega) (fun z hzq => ?_)
    by_cases ez : z = q
    · rw [ez]; exact a
    · exact hz z (by omega)
theorem qd_ready {post : Int32 → Prop} (i : Nat) (hi : i < 20) (hn : n ≤ 20) (ho : qd_ok K A B T TN TC i)
    (h0 : (∃ j, j < n ∧ qd_need K A B T TN i j ∧ pl j = 0) → post 0) (h1 : (∀ j, j < n → qd_need K A B T TN i j → ¬ pl j = 0) → post 1) :
    wpX_isReady post (pc, nI n, sc, K, A, B, T, TN, TC, ord, pl, V, pv) (nI i) := by
  obtain ⟨⟨k1, k2⟩, oa, ob, ⟨t1, t2, t3⟩, ot, _⟩ := ho
  unfold wpX_isReady
  dsimp only
  refine ⟨vp_in_nI hi (by omega), ?_⟩
  rw [nI_clamp (by omega), k1]
  refine nm_e ?_
  refine pk_eq (qd_c K i) 10 (fun h10 => ?_) (fun h10 => ?_)
  · unfold wpX_areTapsReady
    dsimp only
    refine nm_r (e' := nI (6 * i)) (by rw [show (6 : Int32) = nI 6 from rfl, pk_mul, Nat.mul_comm]) ⟨vp_in_nI hi (by omega), ?_⟩
    rw [nI_clamp (by omega), t1]
    refine nm_r (nI_add (6 * i) (qd_c T i)) ⟨qd_c T i + 1, ?_⟩
    refine qd_taps17 n pc sc K A B T TN TC ord pl V pv i (qd_c T i) hi t2 hn (fun q hq => ⟨(ot q hq).1, (ot q hq).2.1⟩) ?_ ?_ (qd_c T i) 0 (by omega) (fun z hz => by omega)
    · rintro ⟨q, hq, a, b⟩
      exact ⟨qd_nb0, h0 ⟨_, a, Or.inr (Or.inr ⟨q, hq, rfl⟩), b⟩⟩
    · intro a
      refine ⟨qd_nb1, h1 ?_⟩
      rintro j hj (⟨_, b, _⟩ | ⟨_, b, _⟩ | ⟨q, hq, e⟩)
      · omega
      · omega
      · rw [← e] at hj ⊢; exact a q hq hj
  · have hT := t3 h10
    refine pk_eq (qd_c K i) 2 (fun h2 => ?_) (fun h2 => ?_)
    · refine h1 ?_
      rintro j hj (⟨b, _, _⟩ | ⟨b, _, _⟩ | ⟨q, hq, e⟩) <;> omega
    · unfold wpX_namesFirst
      refine qd_within (qd_c K i) 2 9 (by omega) (by omega) (by omega) (fun a b => ⟨qd_nb1, br_f (by decide) ?_⟩) (fun a => ⟨qd_nb0, br_t rfl (h1 ?_)⟩)
      · obtain ⟨a1, a2⟩ := oa a b
        refine ⟨vp_in_nI hi (by omega), ?_⟩
        rw [a1]
        refine qd_atHand n pc sc K A B T TN TC ord pl V pv _ a2 hn (fun x y => br_t rfl (h0 ⟨_, x, Or.inl ⟨by omega, b, rfl⟩, y⟩)) (fun x => br_f (by decide) ?_)
        unfold wpX_namesSecond
        refine qd_within (qd_c K i) 3 5 (by omega) (by omega) (by omega) (fun c d => ⟨qd_nb1, br_f (by decide) ⟨vp_in_nI hi (by omega), ?_⟩⟩) (fun c => ⟨qd_nb0, br_t rfl (h1 ?_)⟩)
        · obtain ⟨b1, b2⟩ := ob c d
          rw [b1]
          refine qd_atHand n pc sc K A B T TN TC ord pl V pv _ b2 hn (fun x' y => br_t rfl (h0 ⟨_, x', Or.inr (Or.inl ⟨c, d, rfl⟩), y⟩)) (fun x' => br_f (by decide) (h1 ?_))
          rintro j hj (⟨_, _, e⟩ | ⟨_, _, e⟩ | ⟨q, hq, e⟩)
          · rw [← e] at hj ⊢; exact x hj
          · rw [← e] at hj ⊢; exact x' hj
          · omega
        · rintro j hj (⟨_, _, e⟩ | ⟨_, _, e⟩ | ⟨q, hq, e⟩)
          · rw [← e] at hj ⊢; exact x hj
          · omega
          · omega
      · rintro j hj (⟨_, _, e⟩ | ⟨_, _, e⟩ | ⟨q, hq, e⟩) <;> omega
end
section
variable (n : Nat) (sc : Int32) (K A B T TN TC V pv : Nat → Int32)
theorem qd_ord38 {post : SX → Prop} {J : Int32 → Int32 → Int32 → Int32 → (Nat → Int32) → (Nat → Int32) → (Nat → Int32) → (Nat → Int32) → (Nat → Int32) → (Nat → Int32) → (Nat → Int32) → (Nat → Int32) → (Nat → Int32) → (Nat → Int32) → Prop} {x1 : Int32} (hW : qd_WF n K A B T TN TC) (r p0 : Nat) (pl0 : Nat → Int32)
    (hs : qd_Cl (qd_need K A B T TN) n pl0 ∨ r ≤ p0)
    (hJ : ∀ p ord pl, qd_Or (qd_need K A B T TN) n p ord pl → (qd_Cl (qd_need K A B T TN) n pl ∨ r + 1 ≤ p) → J (x1 + 1) (nI p) (nI n) sc K A B T TN TC ord pl V pv) :
    ∀ d i p ord pl, i + d = n → qd_Or (qd_need K A B T TN) n p ord pl → ((p = p0 ∧ pl = pl0 ∧ ∀ a, a < i → pl a = 0 → ∃ j, j < n ∧ qd_need K A B T TN a j ∧ pl j = 0) ∨ r + 1 ≤ p) →
      wX_orderNodes_38 post J x1 (d + 1) (nI i) (nI p) (nI n) sc K A B T TN TC ord pl V pv := by
  have hn := hW.1
  intro d
  induction d with
  | zero =>
    intro i p ord pl hi ho hv
    rw [wX_orderNodes_38]
    have e : i = n := by omega
    subst e
    refine br_t (nI_le (Nat.le_refl _) (by omega)) (nm_e (hJ p ord pl ho ?_))
    rcases hv with ⟨_, _, hv⟩ | hv
    · exact Or.inl hv
    · exact Or.inr hv
  | succ d ih =>
    intro i p ord pl hi ho hv
    rw [wX_orderNodes_38]
    have hin : i < n := by omega
    refine br_f (nI_ge hin (by omega)) ⟨vp_in_nI (by omega) (by omega), ?_⟩
    rw [nI_clamp (by omega)]
    refine br_c (fun hz => ?_) (fun hz => nm_r (nI_1 i) (ih (i + 1) p ord pl (by omega) ho ?_))
    · refine qd_ready n (nI p) sc K A B T TN TC ord pl V pv i (by omega) hn (hW.2 i hin) (fun hr => br_t rfl (nm_r (nI_1 i) (ih (i + 1) p ord pl (by omega) ho ?_))) (fun hr => br_f (by decide) ?_)
      · rcases hv with ⟨e1, e2, hv⟩ | hv
        · refine Or.inl ⟨e1, e2, fun a ha hpa => ?_⟩
          by_cases ea : a = i
          · rw [ea]; exact hr
          · exact hv a (by omega) hpa
        · exact Or.inr hv
      · have hp : p < n := by
          have h1 := qd_Or_p ho
          have h2 : p ≠ n := by
            intro e
            have := qd_cn_full _ n (ho.1.symm.trans e) i hin
            simp [hz] at this
          omega
        unfold wpX_placeNext
        dsimp only
        refine ⟨vp_in_nI (by omega) (by omega), ?_⟩
        rw [nI_clamp (by omega), nI_clamp (by omega), qd_nar1]
        refine nm_e ⟨vp_in_nI (by omega) (by omega), nm_e (nm_r (nI_1 p) (nm_r (nI_1 i) (ih (i + 1) (p + 1) _ _ (by omega) (qd_Or_s ho hn hin hz hr) (Or.inr ?_))))⟩
        rcases hv with ⟨e1, e2, hv⟩ | hv
        · rcases hs with hs | hs
          · rw [← e2] at hs
            obtain ⟨j, hj, hij, hpj⟩ := hs i hin hz
            exact absurd hpj (hr j hj hij)
          · omega
        · omega
    · rcases hv with ⟨e1, e2, hv⟩ | hv
      · refine Or.inl ⟨e1, e2, fun a ha hpa => ?_⟩
        by_cases ea : a = i
        · rw [ea] at hpa; exact absurd hpa hz
        · exact hv a (by omega) hpa
      · exact Or.inr hv
theorem qd_ord28 {post : SX → Prop} (hW : qd_WF n K A B T TN TC)
    (hp : ∀ p ord pl, qd_Or (qd_need K A B T TN) n p ord pl → qd_Cl (qd_need K A B T TN) n pl → post (nI p, nI n, sc, K, A, B, T, TN, TC, ord, pl, V, pv)) :
    ∀ d r p ord pl, r + d = n → qd_Or (qd_need K A B T TN) n p ord pl → (qd_Cl (qd_need K A B T TN) n pl ∨ r ≤ p) →
      wX_orderNodes_28 post (d + 1) (nI r) (nI p) (nI n) sc K A B T TN TC ord pl V pv := by
  have hn := hW.1
  intro d
  induction d with
  | zero =>
    intro r p ord pl hr ho hv
    rw [wX_orderNodes_28]
    have e : r = n := by omega
    subst e
    refine br_t (nI_le (Nat.le_refl _) (by omega)) (hp p ord pl ho ?_)
    rcases hv with hv | hv
    · exact hv
    · intro i hi hz
      have h1 := qd_Or_p ho
      have := qd_cn_full _ r (ho.1.symm.trans (by omega)) i hi
      simp [hz] at this
  | succ d ih =>
    intro r p ord pl hr ho hv
    rw [wX_orderNodes_28]
    refine br_f (nI_ge (by omega) (by omega)) ⟨n + 1, ?_⟩
    refine qd_ord38 n sc K A B T TN TC V pv hW r p pl hv ?_ n 0 p ord pl (by omega) ho (Or.inl ⟨rfl, rfl, fun a ha => by omega⟩)
    intro p' ord' pl' ho' hv'
    rw [nI_1]
    exact ih (r + 1) p' ord' pl' (by omega) ho' hv'
theorem qd_ord7 {post : SX → Prop} (ord : Nat → Int32) (hW : qd_WF n K A B T TN TC)
    (hp : ∀ p ord pl, qd_Or (qd_need K A B T TN) n p ord pl → qd_Cl (qd_need K A B T TN) n pl → post (nI p, nI n, sc, K, A, B, T, TN, TC, ord, pl, V, pv)) :
    ∀ d i pl, i + d = 20 → (∀ j, j < i → pl j = 0) → wX_orderNodes_7 post 0 (nI n) sc (d + 1) (nI i) K A B T TN TC ord pl V pv := by
  have hn := hW.1
  intro d
  induction d with
  | zero =>
    intro i pl hi hz
    rw [wX_orderNodes_7]
    have e : i = 20 := by omega
    subst e
    refine br_t (by decide) ⟨n + 1, ?_⟩
    exact qd_ord28 n sc K A B T TN TC V pv hW hp n 0 0 ord pl (by omega) (qd_Or_0 _ n ord pl (fun j hj => hz j (by omega))) (Or.inr (Nat.le_refl 0))
  | succ d ih =>
    intro i pl hi hz
    rw [wX_orderNodes_7]
    refine br_f (nI_ge (b := 20) (by omega) (by decide)) ⟨vp_in_nI (by omega) (by omega), ?_⟩
    rw [nI_clamp (by omega), qd_nar0]
    refine nm_e (nm_r (nI_1 i) (ih (i + 1) _ (by omega) (fun j hj => ?_)))
    by_cases e : j = i
    · rw [e, pk_us]
    · rw [pk_un e]; exact hz j (by omega)
theorem qd_order {post : SX → Prop} (pc : Int32) (ord pl : Nat → Int32) (hW : qd_WF n K A B T TN TC)
    (hp : ∀ p ord pl, qd_Or (qd_need K A B T TN) n p ord pl → qd_Cl (qd_need K A B T TN) n pl → post (nI p, nI n, sc, K, A, B, T, TN, TC, ord, pl, V, pv)) :
    wpX_orderNodes post (pc, nI n, sc, K, A, B, T, TN, TC, ord, pl, V, pv) := by
  unfold wpX_orderNodes
  exact ⟨21, qd_ord7 n sc K A B T TN TC V pv ord hW hp 20 0 pl (by omega) (fun j hj => by omega)⟩
/-- a run begun anew: all values 0 -/
theorem qd_begin7 {post : SX → Prop} (pc sc nc : Int32) (ord pl : Nat → Int32) (hp : post (pc, nc, sc, K, A, B, T, TN, TC, ord, pl, (fun _ => 0), pv)) :
    ∀ d i V, i + d = 20 → (∀ j, 20 ≤ j → V j = 0) → (∀ j, j < i → V j = 0) → wX_beginRun_7 post pc nc sc (d + 1) (nI i) K A B T TN TC ord pl V pv := by
  intro d
  induction d with
  | zero =>
    intro i V hi hv hz
    rw [wX_beginRun_7]
    have e : i = 20 := by omega
    subst e
    refine br_t (by decide) ?_
    have e : V = fun _ => 0 := funext fun j => by
      by_cases hj : j < 20
      · exact hz j hj
      · exact hv j (by omega)
    rw [e]; exact hp
  | succ d ih =>
    intro i V hi hv hz
    rw [wX_beginRun_7]
    refine br_f (nI_ge (b := 20) (by omega) (by decide)) ⟨vp_in_nI (by omega) (by omega), ?_⟩
    rw [nI_clamp (by omega)]
    refine nm_e (nm_r (nI_1 i) (ih (i + 1) _ (by omega) (fun j hj => ?_) (fun j hj => ?_)))
    · rw [pk_un (by omega)]; exact hv j hj
    · by_cases e : j = i
      · rw [e, pk_us]
      · rw [pk_un e]; exact hz j (by omega)
theorem qd_begin {post : SX → Prop} (pc sc nc : Int32) (ord pl : Nat → Int32) (hv : ∀ j, 20 ≤ j → V j = 0) (hp : post (pc, nc, 0, K, A, B, T, TN, TC, ord, pl, (fun _ => 0), pv)) :
    wpX_beginRun post (pc, nc, sc, K, A, B, T, TN, TC, ord, pl, V, pv) := by
  unfold wpX_beginRun
  exact ⟨21, qd_begin7 K A B T TN TC pv pc 0 nc ord pl hp 20 0 V (by omega) hv (fun j hj => by omega)⟩
end
