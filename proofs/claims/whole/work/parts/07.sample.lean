/-! a sample on both sides -/
/-- the values when the first k nodes of the order have taken theirs -/
def qd_run (K A B T TN TC : Nat → Int32) (x : Int32) (P ord V : Nat → Int32) : Nat → (Nat → Int32)
  | 0 => V
  | k + 1 => upd (qd_run K A B T TN TC x P ord V k) (qd_c ord k) (qd_val K A B T TN TC x P (qd_run K A B T TN TC x P ord V k) (qd_c ord k))
section
variable (n p : Nat) (sc : Int32) (K A B T TN TC ord pl : Nat → Int32)
theorem qd_ordc {R : Nat → Nat → Prop} {n p : Nat} {ord pl : Nat → Int32} (hn : n ≤ 20) (ho : qd_Or R n p ord pl) {k : Nat} (hk : k < p) : ord k = nI (qd_c ord k) ∧ qd_c ord k < n := by
  obtain ⟨i, hi, e, _⟩ := ho.2.2.1 k hk
  have : qd_c ord k = i := by unfold qd_c; rw [e]; exact nI_clamp (by omega)
  rw [this]; exact ⟨e, hi⟩
theorem qd_take28 {post : SX → Prop} (x : Int32) (P V pv : Nat → Int32) (hW : qd_WF n K A B T TN TC) (ho : qd_Or (qd_need K A B T TN) n p ord pl) (hP : ∀ j, j < 20 → pv j = P j)
    (hp : post (nI p, nI n, sc + 1, K, A, B, T, TN, TC, ord, pl, qd_run K A B T TN TC x P ord V p, pv)) :
    ∀ d k, k + d = p → wX_takeSample_28 post x (nI p) (nI n) sc (d + 1) (nI k) K A B T TN TC ord pl (qd_run K A B T TN TC x P ord V k) pv := by
  have hn := hW.1
  have hpn := qd_Or_p ho
  intro d
  induction d with
  | zero =>
    intro k hk
    rw [wX_takeSample_28]
    have e : k = p := by omega
    subst e
    exact br_t (nI_le (Nat.le_refl _) (by omega)) (nm_e hp)
  | succ d ih =>
    intro k hk
    rw [wX_takeSample_28]
    obtain ⟨e1, e2⟩ := qd_ordc hn ho (k := k) (by omega)
    refine br_f (nI_ge (by omega) (by omega)) ⟨vp_in_nI (by omega) (by omega), ?_⟩
    rw [nI_clamp (by omega)]
    refine nm_r e1 ?_
    refine qd_compX n (nI p) sc K A B T TN TC ord pl _ pv x P (qd_c ord k) (by omega) (hW.2 _ e2) hP ⟨vp_in_nI (by omega) (by omega), ?_⟩
    rw [nI_clamp (by omega)]
    exact nm_e (nm_r (nI_1 k) (ih (k + 1) (by omega)))
theorem qd_take2 {post : SX → Prop} (x : Int32) (V : Nat → Int32) (hW : qd_WF n K A B T TN TC) (ho : qd_Or (qd_need K A B T TN) n p ord pl)
    (hp : ∀ pv, post (nI p, nI n, sc + 1, K, A, B, T, TN, TC, ord, pl, qd_run K A B T TN TC x V ord V p, pv)) :
    ∀ d i pv, i + d = 20 → (∀ j, j < i → pv j = V j) → wX_takeSample_2 post x (nI p) (nI n) sc (d + 1) (nI i) K A B T TN TC ord pl V pv := by
  intro d
  induction d with
  | zero =>
    intro i pv hi hz
    rw [wX_takeSample_2]
    have e : i = 20 := by omega
    subst e
    exact br_t (by decide) ⟨p + 1, qd_take28 n p sc K A B T TN TC ord pl x V V pv hW ho hz (hp pv) p 0 (by omega)⟩
  | succ d ih =>
    intro i pv hi hz
    rw [wX_takeSample_2]
    refine br_f (nI_ge (b := 20) (by omega) (by decide)) ⟨vp_in_nI (by omega) (by omega), vp_in_nI (by omega) (by omega), ?_⟩
    rw [nI_clamp (by omega)]
    refine nm_e (nm_r (nI_1 i) (ih (i + 1) _ (by omega) (fun j hj => ?_)))
    by_cases e : j = i
    · rw [e, pk_us]
    · rw [pk_un e]; exact hz j (by omega)
theorem qd_take {post : SX → Prop} (x : Int32) (V pv : Nat → Int32) (hW : qd_WF n K A B T TN TC) (ho : qd_Or (qd_need K A B T TN) n p ord pl)
    (hp : ∀ pv, post (nI p, nI n, sc + 1, K, A, B, T, TN, TC, ord, pl, qd_run K A B T TN TC x V ord V p, pv)) :
    wpX_takeSample post (nI p, nI n, sc, K, A, B, T, TN, TC, ord, pl, V, pv) x := by
  unfold wpX_takeSample
  exact ⟨21, qd_take2 n p sc K A B T TN TC ord pl x V hW ho hp 20 0 pv (by omega) (fun j hj => by omega)⟩
theorem qd_run_hi (x : Int32) (P V : Nat → Int32) (hn : n ≤ 20) (ho : qd_Or (qd_need K A B T TN) n p ord pl) : ∀ k, k ≤ p → ∀ j, n ≤ j → qd_run K A B T TN TC x P ord V k j = V j := by
  intro k
  induction k with
  | zero => intro _ j _; rfl
  | succ k ih =>
    intro hk j hj
    obtain ⟨_, e2⟩ := qd_ordc hn ho (k := k) (by omega)
    unfold qd_run
    rw [pk_un (by omega)]
    exact ih (by omega) j hj
theorem qd_run_in (x : Int32) (P V : Nat → Int32) (hW : qd_WF n K A B T TN TC) (ho : qd_Or (qd_need K A B T TN) n p ord pl) (hx : qd_in x) (hP : ∀ j, qd_in (P j)) (hV : ∀ j, qd_in (V j)) : ∀ k, k ≤ p → ∀ j, qd_in (qd_run K A B T TN TC x P ord V k j) := by
  intro k
  induction k with
  | zero => intro _ j; exact hV j
  | succ k ih =>
    intro hk j
    obtain ⟨_, e2⟩ := qd_ordc hW.1 ho (k := k) (by omega)
    unfold qd_run
    by_cases e : j = qd_c ord k
    · rw [e, pk_us]
      exact qd_val_in K A B T TN TC x P _ _ (hW.2 _ e2) hx hP (ih (by omega))
    · rw [pk_un e]; exact ih (by omega) j
/-- a node that comes at k is named by none that comes at k or before -/
theorem qd_ord_ne {R : Nat → Nat → Prop} {n p : Nat} {ord pl : Nat → Int32} (hn : n ≤ 20) (ho : qd_Or R n p ord pl) {q k j : Nat} (hq : q ≤ k) (hk : k < p) (hr : R (qd_c ord q) j) : j ≠ qd_c ord k := by
  obtain ⟨e1, e2⟩ := qd_ordc hn ho hk
  intro e
  obtain ⟨i, hi, ei, _, hb⟩ := ho.2.2.1 q (by omega)
  have hc : qd_c ord q = i := by unfold qd_c; rw [ei]; exact nI_clamp (by omega)
  rw [hc] at hr
  obtain ⟨z, hz, ez⟩ := hb j (by omega) hr
  rw [e, ← e1] at ez
  have := ho.2.2.2 z k (by omega) hk ez
  omega
theorem qd_fix (x : Int32) (P V : Nat → Int32) (hn : n ≤ 20) (ho : qd_Or (qd_need K A B T TN) n p ord pl) : ∀ k, k ≤ p → ∀ q, q < k → qd_run K A B T TN TC x P ord V k (qd_c ord q) = qd_val K A B T TN TC x P (qd_run K A B T TN TC x P ord V k) (qd_c ord q) := by
  intro k
  induction k with
  | zero => intro _ q hq; omega
  | succ k ih =>
    intro hk q hq
    have dep : qd_val K A B T TN TC x P (qd_run K A B T TN TC x P ord V (k + 1)) (qd_c ord q) = qd_val K A B T TN TC x P (qd_run K A B T TN TC x P ord V k) (qd_c ord q) := by
      refine qd_val_dep K A B T TN TC x P _ _ _ (fun j hj => ?_)
      show upd _ _ _ j = _
      exact pk_un (qd_ord_ne hn ho (by omega) (by omega) hj)
    rw [dep]
    show upd _ _ _ _ = _
    by_cases e : q = k
    · subst e; exact pk_us
    · have ne : qd_c ord q ≠ qd_c ord k := by
        intro e2
        have h1 := qd_ordc hn ho (k := q) (by omega)
        have h2 := qd_ordc hn ho (k := k) (by omega)
        exact e (ho.2.2.2 q k (by omega) (by omega) (by rw [h1.1, h2.1, e2]))
      rw [pk_un ne]
      exact ih (by omega) q (by omega)
/-- what the reference's rounds keep: the nodes at the first r places of the order are right -/
def qd_Fd (n p r i : Nat) (ord W now : Nat → Int32) : Prop :=
  (∀ j, n ≤ j → now j = 0) ∧ (∀ j, qd_in (now j)) ∧ (∀ q, q < p → (q < r ∨ (q = r ∧ qd_c ord q < i)) → now (qd_c ord q) = W (qd_c ord q))
theorem qd_Fd_s (x : Int32) (P W : Nat → Int32) {r i : Nat} {now : Nat → Int32} (hW : qd_WF n K A B T TN TC) (ho : qd_Or (qd_need K A B T TN) n p ord pl) (hx : qd_in x) (hP : ∀ j, qd_in (P j)) (hi : i < n)
    (hw : ∀ q, q < p → W (qd_c ord q) = qd_val K A B T TN TC x P W (qd_c ord q)) (hw0 : ∀ j, n ≤ j → W j = 0) (h : qd_Fd n p r i ord W now) :
    qd_Fd n p r (i + 1) ord W (upd now i (qd_val K A B T TN TC x P now i)) := by
  obtain ⟨h1, h2, h3⟩ := h
  refine ⟨fun j hj => ?_, fun j => ?_, fun q hq hr => ?_⟩
  · rw [pk_un (by omega)]; exact h1 j hj
  · by_cases e : j = i
    · rw [e, pk_us]; exact qd_val_in K A B T TN TC x P _ _ (hW.2 i hi) hx hP h2
    · rw [pk_un e]; exact h2 j
  · by_cases e : qd_c ord q = i
    · rw [e, pk_us, ← e, hw q hq]
      refine qd_val_dep K A B T TN TC x P _ _ _ (fun j hj => ?_)
      by_cases hjn : j < n
      · obtain ⟨a, ha, ea, _, hb⟩ := ho.2.2.1 q hq
        have hc : qd_c ord q = a := by unfold qd_c; rw [ea]; exact nI_clamp (by have := hW.1; omega)
        rw [hc] at hj
        obtain ⟨z, hz, ez⟩ := hb j hjn hj
        have hzc : qd_c ord z = j := by unfold qd_c; rw [ez]; exact nI_clamp (by have := hW.1; omega)
        have := h3 z (by omega) (Or.inl (by omega))
        rw [hzc] at this; exact this
      · rw [h1 j (by omega), hw0 j (by omega)]
    · rw [pk_un e]
      exact h3 q hq (by omega)
theorem qd_feed47 {post : Int32 → SY → Prop} {J : Int32 → (Nat → Int32) → (Nat → Int32) → (Nat → Int32) → (Nat → Int32) → (Nat → Int32) → (Nat → Int32) → (Nat → Int32) → (Nat → Int32) → (Nat → Int32) → Prop}
    (s : Nat) (hs : s < 100000) (x : Int32) (P W bf nm : Nat → Int32) (r : Nat) (hW : qd_WF n K A B T TN TC) (ho : qd_Or (qd_need K A B T TN) n p ord pl) (hP : ∀ j, qd_in (P j))
    (hb : ∀ j, j < n → bf j = P j) (hP0 : s = 0 → ∀ j, P j = 0) (hPn : ∀ j, n ≤ j → P j = 0)
    (hw : ∀ q, q < p → W (qd_c ord q) = qd_val K A B T TN TC (qd_sat x) P W (qd_c ord q)) (hw0 : ∀ j, n ≤ j → W j = 0)
    (hJ : ∀ now, qd_Fd n p (r + 1) 0 ord W now → J (nI (r + 1)) K A B T TN TC now bf nm) :
    ∀ d i now, i + d = n → qd_Fd n p r i ord W now → wY_feed_47 post J x (nI r) (nI n) (nI s) (d + 1) (nI i) K A B T TN TC now bf nm := by
  have hn := hW.1
  intro d
  induction d with
  | zero =>
    intro i now hi hf
    rw [wY_feed_47]
    have e : i = n := by omega
    subst e
    refine br_t (nI_le (Nat.le_refl _) (by omega)) (nm_r (nI_1 r) (hJ now ⟨hf.1, hf.2.1, fun q hq hr => hf.2.2 q hq ?_⟩))
    have := (qd_ordc hn ho hq).2
    omega
  | succ d ih =>
    intro i now hi hf
    rw [wY_feed_47]
    refine br_f (nI_ge (by omega) (by omega)) ?_
    refine qd_compY n K A B T TN TC now bf nm s hs x P i (by omega) hn (hW.2 i (by omega)) hf.1 hf.2.1 hb hP0 hPn ⟨vp_in_nI (by omega) (by omega), ?_⟩
    rw [nI_clamp (by omega)]
    exact nm_e (nm_r (nI_1 i) (ih (i + 1) _ (by omega) (qd_Fd_s n p K A B T TN TC ord pl (qd_sat x) P W hW ho (qd_sat_in x) hP (by omega) hw hw0 hf)))
theorem qd_feed39 {post : Int32 → SY → Prop}
    (s : Nat) (hs : s < 100000) (x : Int32) (P W bf nm : Nat → Int32) (hW : qd_WF n K A B T TN TC) (ho : qd_Or (qd_need K A B T TN) n p ord pl) (hP : ∀ j, qd_in (P j))
    (hb : ∀ j, j < n → bf j = P j) (hP0 : s = 0 → ∀ j, P j = 0) (hPn : ∀ j, n ≤ j → P j = 0)
    (hw : ∀ q, q < p → W (qd_c ord q) = qd_val K A B T TN TC (qd_sat x) P W (qd_c ord q)) (hw0 : ∀ j, n ≤ j → W j = 0)
    (hp : ∀ now, qd_Fd n p 20 0 ord W now → post 1 (nI n, nI (s + 1), K, A, B, T, TN, TC, now, bf, nm)) :
    ∀ d r now, r + d = 20 → qd_Fd n p r 0 ord W now → wY_feed_39 post x (nI n) (nI s) (d + 1) (nI r) K A B T TN TC now bf nm := by
  intro d
  induction d with
  | zero =>
    intro r now hr hf
    rw [wY_feed_39]
    have e : r = 20 := by omega
    subst e
    exact br_t (by decide) (nm_r (nI_1 s) (hp now hf))
  | succ d ih =>
    intro r now hr hf
    rw [wY_feed_39]
    refine br_f (nI_ge (b := 20) (by omega) (by decide)) ⟨n + 1, ?_⟩
    exact qd_feed47 n p K A B T TN TC ord pl s hs x P W bf nm r hW ho hP hb hP0 hPn hw hw0 (fun now' hf' => ih (r + 1) now' (by omega) hf') n 0 now (by omega) hf
theorem qd_feed11 {post : Int32 → SY → Prop} (s : Int32) (x : Int32) (V nm : Nat → Int32) (hn : n ≤ 20)
    (hp : ∀ bf, (∀ j, j < n → bf j = V j) → ∃ n39 : Nat, wY_feed_39 post x (nI n) s n39 0 K A B T TN TC V bf nm) :
    ∀ d i bf, i + d = n → (∀ j, j < i → bf j = V j) → wY_feed_11 post x (nI n) s (d + 1) (nI i) K A B T TN TC V bf nm := by
  intro d
  induction d with
  | zero =>
    intro i bf hi hz
    rw [wY_feed_11]
    have e : i = n := by omega
    subst e
    exact br_t (nI_le (Nat.le_refl _) (by omega)) (hp bf hz)
  | succ d ih =>
    intro i bf hi hz
    rw [wY_feed_11]
    refine br_f (nI_ge (by omega) (by omega)) ⟨vp_in_nI (by omega) (by omega), vp_in_nI (by omega) (by omega), ?_⟩
    rw [nI_clamp (by omega)]
    refine nm_e (nm_r (nI_1 i) (ih (i + 1) _ (by omega) (fun j hj => ?_)))
    by_cases e : j = i
    · rw [e, pk_us]
    · rw [pk_un e]; exact hz j (by omega)
/-- the reference's sample: not sound, nothing but the scratch is changed; sound, the component's values -/
theorem qd_feedY {post : Int32 → SY → Prop} (s : Nat) (hs : s < 100000) (x : Int32) (V bf nm : Nat → Int32) (hW : qd_WF n K A B T TN TC) (ho : qd_Or (qd_need K A B T TN) n p ord pl) (hc : qd_Cl (qd_need K A B T TN) n pl)
    (hV : ∀ j, qd_in (V j)) (hV0 : s = 0 → ∀ j, V j = 0) (hVn : ∀ j, n ≤ j → V j = 0)
    (h1 : p = n → ∀ bf nm, post 1 (nI n, nI (s + 1), K, A, B, T, TN, TC, qd_run K A B T TN TC (qd_sat x) V ord V p, bf, nm))
    (h0 : p ≠ n → ∀ nm, post 0 (nI n, nI s, K, A, B, T, TN, TC, V, bf, nm)) :
    wpY_feed post (nI n, nI s, K, A, B, T, TN, TC, V, bf, nm) x := by
  have hn := hW.1
  unfold wpY_feed
  dsimp only
  refine qd_sound n (nI s) K A B T TN TC V bf nm hW ho hc (fun hpn nm' => ?_) (fun hpn nm' => ?_)
  · refine br_f (by decide) ⟨n + 1, ?_⟩
    refine qd_feed11 n K A B T TN TC (nI s) x V nm' hn (fun bf' hb => ⟨21, ?_⟩) n 0 bf (by omega) (fun j hj => by omega)
    refine qd_feed39 n p K A B T TN TC ord pl s hs x V (qd_run K A B T TN TC (qd_sat x) V ord V p) bf' nm' hW ho hV hb hV0 hVn (fun q hq => qd_fix n p K A B T TN TC ord pl (qd_sat x) V V hn ho p (Nat.le_refl _) q hq) (fun j hj => ?_) (fun now hf => ?_) 20 0 V (by omega) ⟨hVn, hV, fun q hq hr => by omega⟩
    · rw [qd_run_hi n p K A B T TN TC ord pl (qd_sat x) V V hn ho p (Nat.le_refl _) j hj]; exact hVn j hj
    · have e : now = qd_run K A B T TN TC (qd_sat x) V ord V p := funext fun j => by
        by_cases hj : j < n
        · have hpl : ¬ pl j = 0 := by
            have := qd_cn_full _ n (ho.1.symm.trans hpn) j hj
            simpa using this
          obtain ⟨k, hk, ek⟩ := ho.2.1 j hj hpl
          have hkc : qd_c ord k = j := by unfold qd_c; rw [ek]; exact nI_clamp (by omega)
          have := hf.2.2 k hk (Or.inl (by omega))
          rw [hkc] at this; exact this
        · rw [hf.1 j (by omega), qd_run_hi n p K A B T TN TC ord pl (qd_sat x) V V hn ho p (Nat.le_refl _) j (by omega)]
          exact (hVn j (by omega)).symm
      rw [e]; exact h1 hpn bf' nm'
  · exact br_t rfl (h0 hpn nm')
end
