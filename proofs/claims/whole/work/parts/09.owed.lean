/-- both hold the same nodes, taps, values and number of samples; the component's order is complete as far as it goes -/
def i_Rel (k : Nat) (u : SX) (v : SY) : Prop :=
  ∃ (n p s : Nat) (K A B T TN TC ord pl V pv bf nm : Nat → Int32),
    u = (nI p, nI n, nI s, K, A, B, T, TN, TC, ord, pl, V, pv) ∧ v = (nI n, nI s, K, A, B, T, TN, TC, V, bf, nm) ∧
    qd_WF n K A B T TN TC ∧ qd_Or (qd_need K A B T TN) n p ord pl ∧ qd_Cl (qd_need K A B T TN) n pl ∧
    s ≤ 10 * k ∧ (∀ j, qd_in (V j)) ∧ (s = 0 → ∀ j, V j = 0) ∧ (∀ j, n ≤ j → V j = 0)
theorem i_up {k : Nat} {u : SX} {v : SY} (h : i_Rel k u v) : i_Rel (k + 4) u v := by
  obtain ⟨n, p, s, K, A, B, T, TN, TC, ord, pl, V, pv, bf, nm, e1, e2, hW, ho, hc, hs, hr⟩ := h
  exact ⟨n, p, s, K, A, B, T, TN, TC, ord, pl, V, pv, bf, nm, e1, e2, hW, ho, hc, by omega, hr⟩
/-- a run begun anew -/
theorem qd_fresh {n p : Nat} (k : Nat) {K A B T TN TC ord pl : Nat → Int32} (pv bf nm : Nat → Int32) (hW : qd_WF n K A B T TN TC) (ho : qd_Or (qd_need K A B T TN) n p ord pl) (hc : qd_Cl (qd_need K A B T TN) n pl) :
    i_Rel k (nI p, nI n, 0, K, A, B, T, TN, TC, ord, pl, (fun _ => 0), pv) (nI n, 0, K, A, B, T, TN, TC, (fun _ => 0), bf, nm) :=
  ⟨n, p, 0, K, A, B, T, TN, TC, ord, pl, _, pv, bf, nm, rfl, rfl, hW, ho, hc, by omega, fun _ => qd_in0, fun _ _ => rfl, fun _ _ => rfl⟩
theorem qd_WF0 (K A B T TN TC : Nat → Int32) : qd_WF 0 K A B T TN TC := ⟨by omega, fun i hi => by omega⟩
theorem i_vc0 : wpX_init (fun u => wpY_init (fun v => i_Rel 0 u v)) := by
  unfold wpX_init wpY_init
  exact qd_fresh (n := 0) (p := 0) 0 _ _ _ (qd_WF0 _ _ _ _ _ _) (qd_Or_0 _ 0 _ _ (fun i hi => by omega)) (fun i hi => by omega)
theorem i_vc_node {k : Nat} {u : SX} {v : SY} (I : i_Rel k u v) (hk : k + 4 ≤ 2048) (v1 : Int32) (v2 : Int32) (v3 : Int32) : wpX_node (fun r u' => wpY_node (fun r' v' => r' = r ∧ i_Rel (k + 4) u' v') v v1 v2 v3) u v1 v2 v3 := by
  have I4 := i_up I
  obtain ⟨n, p, s, K, A, B, T, TN, TC, ord, pl, V, pv, bf, nm, rfl, rfl, hW, ho, hc, hs, hV, hV0, hVn⟩ := I
  have hn := hW.1
  unfold wpX_node
  dsimp only
  refine pk_lt n 20 (fun h => ?_) (fun h => ?_)
  · have yn : ∀ {A' B' : Prop}, B' → ((nI n = 20 → A') ∧ (¬ nI n = 20 → B')) := fun b => pk_eq n 20 (fun z => by omega) (fun _ => b)
    by_cases hb : ¬ v1 < 0 ∧ ¬ 10 < v1
    · obtain ⟨c, hc10, rfl⟩ := qd_nat (m := 10) (M := 10) (by decide) hb
      refine qd_canX c hc10 v2 v3 (fun hF => br_f (by decide) ?_) (fun hF => br_t rfl ?_)
      · have hW' := qd_WF_node hW h hc10 hF
        refine ⟨vp_in_nI (by omega) (by omega), ?_⟩
        rw [nI_clamp (by omega)]
        refine nm_e ⟨vp_in_nI (by omega) (by omega), nm_e ⟨vp_in_nI (by omega) (by omega), nm_e ⟨vp_in_nI (by omega) (by omega), nm_e (nm_r (nI_1 n) ?_)⟩⟩⟩
        refine qd_order (n + 1) (nI s) _ _ _ _ TN TC V pv (nI p) ord pl hW' (fun p' ord' pl' ho' hc' => ?_)
        dsimp only
        refine qd_begin _ _ _ _ TN TC V pv (nI p') (nI s) (nI (n + 1)) ord' pl' (fun j hj => hVn j (by omega)) ?_
        dsimp only
        unfold wpY_node
        dsimp only
        refine yn (qd_fitsY (nI n) (nI s) K A B T TN TC V bf nm c hc10 v2 v3 (fun _ => br_f (by decide) ?_) (fun z => absurd hF z))
        refine ⟨vp_in_nI (by omega) (by omega), ?_⟩
        rw [nI_clamp (by omega)]
        refine nm_e ⟨vp_in_nI (by omega) (by omega), nm_e ⟨vp_in_nI (by omega) (by omega), nm_e ⟨vp_in_nI (by omega) (by omega), nm_e (nm_r (nI_1 n) ?_)⟩⟩⟩
        refine qd_rest (nI s) _ _ _ _ TN TC V bf (nI (n + 1)) nm (fun j hj => hVn j (by omega)) ?_
        exact ⟨nI_pred n, qd_fresh (k + 4) pv bf nm hW' ho' hc'⟩
      · unfold wpY_node
        dsimp only
        exact yn (qd_fitsY (nI n) (nI s) K A B T TN TC V bf nm c hc10 v2 v3 (fun z => absurd z hF) (fun _ => br_t rfl ⟨rfl, I4⟩))
    · refine qd_canX0 v2 v3 hb (br_t rfl ?_)
      unfold wpY_node
      dsimp only
      exact yn (qd_fitsY0 (nI n) (nI s) K A B T TN TC V bf nm v2 v3 hb (br_t rfl ⟨rfl, I4⟩))
  · unfold wpY_node
    dsimp only
    exact pk_eq n 20 (fun _ => ⟨rfl, I4⟩) (fun z => by omega)
theorem i_vc_tap {k : Nat} {u : SX} {v : SY} (I : i_Rel k u v) (hk : k + 4 ≤ 2048) (v1 : Int32) (v2 : Int32) (v3 : Int32) : wpX_tap (fun r u' => wpY_tap (fun r' v' => r' = r ∧ i_Rel (k + 4) u' v') v v1 v2 v3) u v1 v2 v3 := by
  have I4 := i_up I
  obtain ⟨n, p, s, K, A, B, T, TN, TC, ord, pl, V, pv, bf, nm, rfl, rfl, hW, ho, hc, hs, hV, hV0, hVn⟩ := I
  have hn := hW.1
  unfold wpX_tap
  dsimp only
  unfold wpX_isSum
  dsimp only
  by_cases h0 : v1 < 0
  · refine br_t h0 (br_t rfl ?_)
    unfold wpY_tap
    dsimp only
    exact br_t h0 ⟨rfl, I4⟩
  by_cases h1 : nI n ≤ v1
  · refine br_f h0 (br_t h1 (br_t rfl ?_))
    unfold wpY_tap
    dsimp only
    exact br_f h0 (br_t h1 ⟨rfl, I4⟩)
  obtain ⟨i, hi, e⟩ : ∃ i, i < n ∧ v1 = nI i := by
    rcases pk_ix v1 (n := n) (by omega) with z | z | z
    · exact absurd z h0
    · exact absurd z h1
    · exact z
  subst e
  have vi : vp_in (nI i) 20 := vp_in_nI (by omega) (by omega)
  obtain ⟨⟨k1, k2⟩, _, _, ⟨t1, t2, _⟩, _⟩ := hW.2 i hi
  refine br_f h0 (br_f h1 ⟨vi, ?_⟩)
  rw [nI_clamp (by omega)]
  by_cases hK : K i = 10
  · have hKc : qd_c K i = 10 := by unfold qd_c; rw [hK]; rfl
    refine br_t hK (br_f (by decide) ?_)
    unfold wpX_isNodeNumber
    refine qd_wi (fun ha => ⟨qd_nb1, br_f (by decide) ?_⟩) (fun ha => ⟨qd_nb0, br_t rfl ?_⟩)
    · refine qd_wi (fun hf => br_f (by decide) ⟨vi, ?_⟩) (fun hf => br_t rfl ?_)
      · rw [t1]
        refine nm_e (pk_lt (qd_c T i) 6 (fun ht => ?_) (fun ht => ?_))
        · obtain ⟨a1, a2⟩ := qd_19 ha
          have hW' := qd_WF_tap hW hi hKc ht a2 (qd_inV hf)
          rw [← a1] at hW'
          refine nm_r (e' := nI (6 * i + qd_c T i)) (by rw [show (6 : Int32) = nI 6 from rfl, pk_mul, nI_add, Nat.mul_comm]) ⟨vp_in_nI (by omega) (by omega), ?_⟩
          rw [nI_clamp (by omega), nI_1 (qd_c T i)]
          refine nm_e ⟨vp_in_nI (by omega) (by omega), nm_e ⟨vi, nm_e ?_⟩⟩
          refine qd_order n (nI s) K A B _ _ _ V pv (nI p) ord pl hW' (fun p' ord' pl' ho' hc' => ?_)
          dsimp only
          refine qd_begin K A B _ _ _ V pv (nI p') (nI s) (nI n) ord' pl' (fun j hj => hVn j (by omega)) ?_
          dsimp only
          unfold wpY_tap
          dsimp only
          refine br_f h0 (br_f h1 ⟨vi, ?_⟩)
          rw [nI_clamp (n := i) (by omega)]
          refine br_t hK (qd_isName (nI n) (nI s) K A B T TN TC V bf nm (fun _ => br_f (by decide) ?_) (fun z => absurd ha z))
          refine qd_isValue (nI n) (nI s) K A B T TN TC V bf nm (fun _ => br_f (by decide) ⟨vi, ?_⟩) (fun z => absurd hf z)
          rw [t1]
          refine pk_eq (qd_c T i) 6 (fun z => by omega) (fun _ => ⟨vi, ?_⟩)
          rw [qd_six, nI_clamp (by omega), nI_1 (qd_c T i)]
          refine ⟨vp_in_nI (by omega) (by omega), nm_e ⟨vi, vp_in_nI (by omega) (by omega), nm_e ⟨vi, vi, nm_e ?_⟩⟩⟩
          refine qd_rest (nI s) K A B _ _ _ V bf (nI n) nm (fun j hj => hVn j (by omega)) ⟨vi, ?_⟩
          exact ⟨pk_us, qd_fresh (k + 4) pv bf nm hW' ho' hc'⟩
        · unfold wpY_tap
          dsimp only
          refine br_f h0 (br_f h1 ⟨vi, ?_⟩)
          rw [nI_clamp (n := i) (by omega)]
          refine br_t hK (qd_isName (nI n) (nI s) K A B T TN TC V bf nm (fun _ => br_f (by decide) ?_) (fun z => absurd ha z))
          refine qd_isValue (nI n) (nI s) K A B T TN TC V bf nm (fun _ => br_f (by decide) ⟨vi, ?_⟩) (fun z => absurd hf z)
          rw [t1]
          exact pk_eq (qd_c T i) 6 (fun _ => ⟨rfl, I4⟩) (fun z => by omega)
      · unfold wpY_tap
        dsimp only
        refine br_f h0 (br_f h1 ⟨vi, ?_⟩)
        rw [nI_clamp (n := i) (by omega)]
        refine br_t hK (qd_isName (nI n) (nI s) K A B T TN TC V bf nm (fun _ => br_f (by decide) ?_) (fun z => absurd ha z))
        exact qd_isValue (nI n) (nI s) K A B T TN TC V bf nm (fun z => absurd z hf) (fun _ => br_t rfl ⟨rfl, I4⟩)
    · unfold wpY_tap
      dsimp only
      refine br_f h0 (br_f h1 ⟨vi, ?_⟩)
      rw [nI_clamp (n := i) (by omega)]
      exact br_t hK (qd_isName (nI n) (nI s) K A B T TN TC V bf nm (fun z => absurd z ha) (fun _ => br_t rfl ⟨rfl, I4⟩))
  · refine br_f hK (br_t rfl ?_)
    unfold wpY_tap
    dsimp only
    refine br_f h0 (br_f h1 ⟨vi, ?_⟩)
    rw [nI_clamp (n := i) (by omega)]
    exact br_f hK ⟨rfl, I4⟩
theorem i_vc_nodes {k : Nat} {u : SX} {v : SY} (I : i_Rel k u v) (hk : k + 4 ≤ 2048) : wpX_nodes (fun r => wpY_nodes (fun r' => r' = r ∧ i_Rel (k + 4) u v) v) u := by
  have I4 := i_up I
  obtain ⟨n, p, s, K, A, B, T, TN, TC, ord, pl, V, pv, bf, nm, rfl, rfl, _⟩ := I
  exact ⟨rfl, I4⟩
theorem i_vc_sound {k : Nat} {u : SX} {v : SY} (I : i_Rel k u v) (hk : k + 4 ≤ 2048) : wpX_sound (fun r => wpY_sound (fun r' v' => r' = r ∧ i_Rel (k + 4) u v') v) u := by
  obtain ⟨n, p, s, K, A, B, T, TN, TC, ord, pl, V, pv, bf, nm, rfl, rfl, hW, ho, hc, hs, hV, hV0, hVn⟩ := I
  have hn := hW.1
  have hpn := qd_Or_p ho
  have R : ∀ nm', i_Rel (k + 4) (nI p, nI n, nI s, K, A, B, T, TN, TC, ord, pl, V, pv) (nI n, nI s, K, A, B, T, TN, TC, V, bf, nm') := fun nm' =>
    ⟨n, p, s, K, A, B, T, TN, TC, ord, pl, V, pv, bf, nm', rfl, rfl, hW, ho, hc, by omega, hV, hV0, hVn⟩
  unfold wpX_sound
  dsimp only
  unfold wpX_hasNoLoop
  dsimp only
  refine pk_eq p n (fun e => ⟨qd_nb1, ?_⟩) (fun e => ⟨qd_nb0, ?_⟩)
  · exact qd_sound n (nI s) K A B T TN TC V bf nm hW ho hc (fun _ nm' => ⟨rfl, R nm'⟩) (fun z => absurd e z)
  · exact qd_sound n (nI s) K A B T TN TC V bf nm hW ho hc (fun z => absurd z e) (fun _ nm' => ⟨rfl, R nm'⟩)
theorem i_vc_feed {k : Nat} {u : SX} {v : SY} (I : i_Rel k u v) (hk : k + 4 ≤ 2048) (v1 : Int32) : wpX_feed (fun r u' => wpY_feed (fun r' v' => r' = r ∧ i_Rel (k + 4) u' v') v v1) u v1 := by
  obtain ⟨n, p, s, K, A, B, T, TN, TC, ord, pl, V, pv, bf, nm, rfl, rfl, hW, ho, hc, hs, hV, hV0, hVn⟩ := I
  have hn := hW.1
  have hpn := qd_Or_p ho
  unfold wpX_feed
  dsimp only
  unfold wpX_hasNoLoop
  dsimp only
  refine pk_eq p n (fun e => br_f (by decide) (qd_satX ?_)) (fun e => br_t rfl ?_)
  · refine qd_take n p (nI s) K A B T TN TC ord pl (qd_sat v1) V pv hW ho (fun pv' => ?_)
    dsimp only
    refine qd_feedY n p K A B T TN TC ord pl s (by omega) v1 V bf nm hW ho hc hV hV0 hVn (fun _ bf' nm' => ⟨rfl, ?_⟩) (fun z => absurd e z)
    rw [nI_1 s]
    refine ⟨n, p, s + 1, K, A, B, T, TN, TC, ord, pl, _, pv', bf', nm', rfl, rfl, hW, ho, hc, by omega, fun j => ?_, fun z => by omega, fun j hj => ?_⟩
    · exact qd_run_in n p K A B T TN TC ord pl (qd_sat v1) V V hW ho (qd_sat_in v1) hV hV p (Nat.le_refl _) j
    · rw [qd_run_hi n p K A B T TN TC ord pl (qd_sat v1) V V hn ho p (Nat.le_refl _) j hj]; exact hVn j hj
  · refine qd_feedY n p K A B T TN TC ord pl s (by omega) v1 V bf nm hW ho hc hV hV0 hVn (fun z => absurd z e) (fun _ nm' => ⟨rfl, ?_⟩)
    exact ⟨n, p, s, K, A, B, T, TN, TC, ord, pl, V, pv, bf, nm', rfl, rfl, hW, ho, hc, by omega, hV, hV0, hVn⟩
theorem i_vc_repeat {k : Nat} {u : SX} {v : SY} (I : i_Rel k u v) (hk : k + 4 ≤ 2048) (v1 : Int32) (v2 : Int32) : wpX_repeat (fun r u' => wpY_repeat (fun r' v' => r' = r ∧ i_Rel (k + 4) u' v') v v1 v2) u v1 v2 := by
  obtain ⟨n, p, s, K, A, B, T, TN, TC, ord, pl, V, pv, bf, nm, rfl, rfl, hW, ho, hc, hs, hV, hV0, hVn⟩ := I
  have hn := hW.1
  have hpn := qd_Or_p ho
  obtain ⟨t, ht, tX, tY⟩ := qd_times v2
  unfold wpX_repeat
  dsimp only
  unfold wpX_hasNoLoop
  dsimp only
  refine pk_eq p n (fun e => br_f (by decide) (tX _ (qd_satX ⟨t + 1, ?_⟩))) (fun e => br_t rfl ?_)
  · refine qd_rep26 n p K A B T TN TC ord pl V s t ht (qd_sat v1) hW ho (fun pv' => ?_) t 0 pv (by omega)
    unfold wpY_repeat
    dsimp only
    refine tY (fun z => ∃ n27 : Nat, wY_repeat_27 _ v1 z n27 0 0 (nI n) (nI s) K A B T TN TC V bf nm) ⟨t + 1, ?_⟩
    refine qd_rep27 n p K A B T TN TC ord pl V s t (by omega) ht v1 hW ho hc e hV hV0 hVn (fun bf' nm' => ⟨rfl, ?_⟩) t 0 bf nm (by omega)
    refine ⟨n, p, s + t, K, A, B, T, TN, TC, ord, pl, _, pv', bf', nm', rfl, rfl, hW, ho, hc, by omega, ?_, fun z => ?_, ?_⟩
    · exact qd_it_in n p K A B T TN TC ord pl V (qd_sat v1) hW ho (qd_sat_in v1) hV t
    · have e0 : t = 0 := by omega
      subst e0
      exact hV0 (by omega)
    · exact qd_it_hi n p K A B T TN TC ord pl V (qd_sat v1) hn ho hVn t
  · unfold wpY_repeat
    dsimp only
    refine tY (fun z => ∃ n27 : Nat, wY_repeat_27 _ v1 z n27 0 0 (nI n) (nI s) K A B T TN TC V bf nm) ⟨t + 1, ?_⟩
    refine qd_rep27n n p K A B T TN TC ord pl V s t (by omega) ht v1 bf hW ho hc e hV hV0 hVn (fun nm' => ⟨rfl, ?_⟩) t 0 nm (by omega)
    exact ⟨n, p, s, K, A, B, T, TN, TC, ord, pl, V, pv, bf, nm', rfl, rfl, hW, ho, hc, by omega, hV, hV0, hVn⟩
theorem i_vc_value {k : Nat} {u : SX} {v : SY} (I : i_Rel k u v) (hk : k + 4 ≤ 2048) (v1 : Int32) : wpX_value (fun r => wpY_value (fun r' => r' = r ∧ i_Rel (k + 4) u v) v v1) u v1 := by
  have I4 := i_up I
  obtain ⟨n, p, s, K, A, B, T, TN, TC, ord, pl, V, pv, bf, nm, rfl, rfl, hW, ho, hc, hs, hV, hV0, hVn⟩ := I
  have hn := hW.1
  unfold wpX_value wpY_value
  dsimp only
  by_cases h0 : v1 < 0
  · exact br_t h0 (br_t h0 ⟨rfl, I4⟩)
  by_cases h1 : nI n ≤ v1
  · exact br_f h0 (br_t h1 (br_f h0 (br_t h1 ⟨rfl, I4⟩)))
  obtain ⟨i, hi, e⟩ : ∃ i, i < n ∧ v1 = nI i := by
    rcases pk_ix v1 (n := n) (by omega) with z | z | z
    · exact absurd z h0
    · exact absurd z h1
    · exact z
  subst e
  have vi : vp_in (nI i) 20 := vp_in_nI (by omega) (by omega)
  refine br_f h0 (br_f h1 ⟨vi, br_f h0 (br_f h1 (pk_eq s 0 (fun z => ⟨(hV0 z _).symm, I4⟩) (fun _ => ⟨vi, rfl, I4⟩)))⟩)
theorem i_vc_samples {k : Nat} {u : SX} {v : SY} (I : i_Rel k u v) (hk : k + 4 ≤ 2048) : wpX_samples (fun r => wpY_samples (fun r' => r' = r ∧ i_Rel (k + 4) u v) v) u := by
  have I4 := i_up I
  obtain ⟨n, p, s, K, A, B, T, TN, TC, ord, pl, V, pv, bf, nm, rfl, rfl, _⟩ := I
  exact ⟨rfl, I4⟩
theorem i_vc_restart {k : Nat} {u : SX} {v : SY} (I : i_Rel k u v) (hk : k + 4 ≤ 2048) : wpX_restart (fun u' => wpY_restart (fun v' => i_Rel (k + 4) u' v') v) u := by
  obtain ⟨n, p, s, K, A, B, T, TN, TC, ord, pl, V, pv, bf, nm, rfl, rfl, hW, ho, hc, hs, hV, hV0, hVn⟩ := I
  have hn := hW.1
  unfold wpX_restart
  dsimp only
  refine qd_begin K A B T TN TC V pv (nI p) (nI s) (nI n) ord pl (fun j hj => hVn j (by omega)) ?_
  dsimp only
  exact qd_rest (nI s) K A B T TN TC V bf (nI n) nm (fun j hj => hVn j (by omega)) (qd_fresh (k + 4) pv bf nm hW ho hc)
theorem i_vc_clear {k : Nat} {u : SX} {v : SY} (I : i_Rel k u v) (hk : k + 4 ≤ 2048) : wpX_clear (fun r u' => wpY_clear (fun r' v' => r' = r ∧ i_Rel (k + 4) u' v') v) u := by
  obtain ⟨n, p, s, K, A, B, T, TN, TC, ord, pl, V, pv, bf, nm, rfl, rfl, hW, ho, hc, hs, hV, hV0, hVn⟩ := I
  have hn := hW.1
  unfold wpX_clear
  dsimp only
  refine qd_order 0 (nI s) K A B T TN TC V pv (nI p) ord pl (qd_WF0 _ _ _ _ _ _) (fun p' ord' pl' ho' hc' => ?_)
  dsimp only
  refine qd_begin K A B T TN TC V pv (nI p') (nI s) (nI 0) ord' pl' (fun j hj => hVn j (by omega)) ?_
  dsimp only
  unfold wpY_clear
  dsimp only
  exact qd_rest (nI s) K A B T TN TC V bf (nI 0) nm (fun j hj => hVn j (by omega)) ⟨rfl, qd_fresh (k + 4) pv bf nm (qd_WF0 _ _ _ _ _ _) ho' hc'⟩
