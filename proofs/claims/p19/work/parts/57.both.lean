/-! every question, of both -/
theorem L_reads {x : XW} {m : MW} {K : Int32 → XW → Prop} {v : Int32} (hR : RR x m) (hk : ∀ r x', Tk (fun K2 => P_X4_reads K2 m v) x' r → K r x') : P_X3_reads K x v := by
  obtain ⟨S, hS, ⟨hx, hp⟩, hm, hn⟩ := hR
  exact X_reads hS hx (fun x' a b => hk _ x' (fun K2 h2 => M_reads hS hm (fun m' c d => h2 m' ⟨S, hS, ⟨a, hp.mv rfl b⟩, c, hn.of d⟩)))
theorem L_faultAt {x : XW} {m : MW} {K : Int32 → XW → Prop} {v : Int32} (hR : RR x m) (hk : ∀ r x', Tk (fun K2 => P_X4_faultAt K2 m v) x' r → K r x') : P_X3_faultAt K x v := by
  obtain ⟨S, hS, ⟨hx, hp⟩, hm, hn⟩ := hR
  exact X_faultAt hS hx (fun x' a b => hk _ x' (fun K2 h2 => M_faultAt hS hm (fun m' c d => h2 m' ⟨S, hS, ⟨a, hp.mv rfl b⟩, c, hn.of d⟩)))
theorem L_about {x : XW} {m : MW} {K : Int32 → XW → Prop} {v : Int32} (hR : RR x m) (hk : ∀ r x', Tk (fun K2 => P_X4_about K2 m v) x' r → K r x') : P_X3_about K x v := by
  obtain ⟨S, hS, ⟨hx, hp⟩, hm, hn⟩ := hR
  exact X_about hS hx (fun x' a b => hk _ x' (fun K2 h2 => M_about hS hm (fun m' c d => h2 m' ⟨S, hS, ⟨a, hp.mv rfl b⟩, c, hn.of d⟩)))
theorem L_odd {x : XW} {m : MW} {K : Int32 → XW → Prop} {v : Int32} (hR : RR x m) (hk : ∀ r x', Tk (fun K2 => P_X4_odd K2 m v) x' r → K r x') : P_X3_odd K x v := by
  obtain ⟨S, hS, ⟨hx, hp⟩, hm, hn⟩ := hR
  exact X_odd hS hx (fun x' a b => hk _ x' (fun K2 h2 => M_odd hS hm (fun m' c d => h2 m' ⟨S, hS, ⟨a, hp.mv rfl b⟩, c, hn.of d⟩)))
theorem L_breadth {x : XW} {m : MW} {K : Int32 → XW → Prop} {v : Int32} (hR : RR x m) (hk : ∀ r x', Tk (fun K2 => P_X4_breadth K2 m v) x' r → K r x') : P_X3_breadth K x v := by
  obtain ⟨S, hS, ⟨hx, hp⟩, hm, hn⟩ := hR
  exact X_breadth hS hx (fun x' a b => hk _ x' (fun K2 h2 => M_breadth hS hm (fun m' c d => h2 m' ⟨S, hS, ⟨a, hp.mv rfl b⟩, c, hn.of d⟩)))
theorem L_size {x : XW} {m : MW} {K : Int32 → XW → Prop} {v c : Int32} (hR : RR x m) (hk : ∀ r x', Tk (fun K2 => P_X4_size K2 m v c) x' r → K r x') : P_X3_size K x v c := by
  obtain ⟨S, hS, ⟨hx, hp⟩, hm, hn⟩ := hR
  exact X_size hS hx (fun x' a b => hk _ x' (fun K2 h2 => M_size hS hm (fun m' c d => h2 m' ⟨S, hS, ⟨a, hp.mv rfl b⟩, c, hn.of d⟩)))
theorem L_at {x : XW} {m : MW} {K : Int32 → XW → Prop} {v c k : Int32} (hR : RR x m) (hk : ∀ r x', Tk (fun K2 => P_X4_at K2 m v c k) x' r → K r x') : P_X3_at K x v c k := by
  obtain ⟨S, hS, ⟨hx, hp⟩, hm, hn⟩ := hR
  exact X_at hS hx (fun x' a b => hk _ x' (fun K2 h2 => M_at hS hm (fun m' c d => h2 m' ⟨S, hS, ⟨a, hp.mv rfl b⟩, c, hn.of d⟩)))
theorem no_be {S : Sx} {v : Int32} {col fo co pr : Nat} (h : NoC S v) (e : v = nI col) (hc : col < tW (tbOf S (sU S))) (hS : SOK S) (hb : BeC S col fo co pr) : False := by
  have hW := tW_le (tb_wf hS (sU S))
  rcases h with z | ⟨c2, hc2, e2, hn⟩
  · exact z (by rw [e, nI_toInt (by omega)]; omega)
  · rw [e] at e2
    have := (nI_eq (by omega) (by omega)).mp e2
    subst this
    have q := hb.1.2.1
    rw [hn co fo hb.1.1] at q
    cases q
theorem be_one {S : Sx} {v : Int32} {col fo co pr col2 fo2 co2 pr2 : Nat} (hS : SOK S) (e : v = nI col) (hc : col < tW (tbOf S (sU S))) (hb : BeC S col fo co pr) (e2 : v = nI col2) (hc2 : col2 < tW (tbOf S (sU S))) (hb2 : BeC S col2 fo2 co2 pr2) : col2 = col ∧ fo2 = fo ∧ co2 = co ∧ pr2 = pr := by
  have hW := tW_le (tb_wf hS (sU S))
  rw [e] at e2
  have := (nI_eq (by omega) (by omega)).mp e2
  subst this
  have q := hb2.1.one hb.1
  exact ⟨rfl, q.1, q.2.1, q.2.2⟩
theorem L_form {x : XW} {m : MW} {K : Int32 → XW → Prop} {v : Int32} (hR : RR x m) (hk : ∀ r x', Tk (fun K2 => P_X4_form K2 m v) x' r → K r x') : P_X3_form K x v := by
  obtain ⟨S, hS, ⟨hx, hp⟩, hm, hn⟩ := hR
  refine X_form hS hx (fun x' a b c => hk _ x' (fun K2 h2 => M_form hS hm (fun m' d e f => h2 m' ⟨S, hS, ⟨a, hp.mv rfl b⟩, d, hn.of e⟩) (fun m' col fo co pr ev hc hb d e => (no_be c ev hc hS hb).elim))) (fun x' col fo co pr ev hc hb a b => hk _ x' (fun K2 h2 => M_form hS hm (fun m' d e f => (no_be f ev hc hS hb).elim) (fun m' col2 fo2 co2 pr2 ev2 hc2 hb2 d e => ?_)))
  obtain ⟨q1, q2, q3, q4⟩ := be_one hS ev hc hb ev2 hc2 hb2
  subst q1; subst q2; subst q3
  exact h2 m' ⟨S, hS, ⟨a, hp.mv rfl b⟩, d, hn.of e⟩
theorem L_missing {x : XW} {m : MW} {K : Int32 → XW → Prop} {v : Int32} (hR : RR x m) (hk : ∀ r x', Tk (fun K2 => P_X4_missing K2 m v) x' r → K r x') : P_X3_missing K x v := by
  obtain ⟨S, hS, ⟨hx, hp⟩, hm, hn⟩ := hR
  refine X_missing hS hx (fun x' a b c => hk _ x' (fun K2 h2 => M_missing hS hm (fun m' d e f => h2 m' ⟨S, hS, ⟨a, hp.mv rfl b⟩, d, hn.of e⟩) (fun m' col fo co pr ev hc hb d e => (no_be c ev hc hS hb).elim))) (fun x' col fo co pr ev hc hb a b => hk _ x' (fun K2 h2 => M_missing hS hm (fun m' d e f => (no_be f ev hc hS hb).elim) (fun m' col2 fo2 co2 pr2 ev2 hc2 hb2 d e => ?_)))
  obtain ⟨q1, q2, q3, q4⟩ := be_one hS ev hc hb ev2 hc2 hb2
  subst q1; subst q2; subst q3
  exact h2 m' ⟨S, hS, ⟨a, hp.mv rfl b⟩, d, hn.of e⟩
theorem L_lacks {x : XW} {m : MW} {K : Int32 → XW → Prop} {v : Int32} (hR : RR x m) (hk : ∀ r x', Tk (fun K2 => P_X4_lacks K2 m v) x' r → K r x') : P_X3_lacks K x v := by
  obtain ⟨S, hS, ⟨hx, hp⟩, hm, hn⟩ := hR
  refine X_lacks hS hx (fun x' a b c => hk _ x' (fun K2 h2 => M_lacks hS hm (fun m' d e f => h2 m' ⟨S, hS, ⟨a, hp.mv rfl b⟩, d, hn.of e⟩) (fun m' col fo co pr ev hc hb d e => (no_be c ev hc hS hb).elim))) (fun x' col fo co pr ev hc hb a b => hk _ x' (fun K2 h2 => M_lacks hS hm (fun m' d e f => (no_be f ev hc hS hb).elim) (fun m' col2 fo2 co2 pr2 ev2 hc2 hb2 d e => ?_)))
  obtain ⟨q1, q2, q3, q4⟩ := be_one hS ev hc hb ev2 hc2 hb2
  subst q1; subst q2; subst q3
  exact h2 m' ⟨S, hS, ⟨a, hp.mv rfl b⟩, d, hn.of e⟩
theorem L_costOf {x : XW} {m : MW} {K : Int32 → XW → Prop} {v f k : Int32} (hR : RR x m) (hk : ∀ r x', Tk (fun K2 => P_X4_costOf K2 m v f k) x' r → K r x') : P_X3_costOf K x v f k := by
  obtain ⟨S, hS, ⟨hx, hp⟩, hm, hn⟩ := hR
  have cross : ∀ {col fo co pr j i : Nat}, (NoC S v ∨ ¬ (0 ≤ f.toInt ∧ f.toInt < 32) ∨ ¬ (0 ≤ k.toInt ∧ k.toInt < 5)) → v = nI col → col < tW (tbOf S (sU S)) → BeC S col fo co pr → j < 32 → f = nI j → i < 5 → k = nI i → False := by
    intro col fo co pr j i h ev hc hb hj ej hi ei
    rcases h with z | z | z
    · exact no_be z ev hc hS hb
    · exact z (by rw [ej, nI_toInt (by omega)]; omega)
    · exact z (by rw [ei, nI_toInt (by omega)]; omega)
  refine X_costOf hS hx (fun x' a b c => hk _ x' (fun K2 h2 => M_costOf hS hm (fun m' d e f => h2 m' ⟨S, hS, ⟨a, hp.mv rfl b⟩, d, hn.of e⟩) (fun m' col fo co pr j i ev hc hb hj ej hi ei d e => (cross c ev hc hb hj ej hi ei).elim))) (fun x' col fo co pr j i ev hc hb hj ej hi ei a b => hk _ x' (fun K2 h2 => M_costOf hS hm (fun m' d e f => (cross f ev hc hb hj ej hi ei).elim) (fun m' col2 fo2 co2 pr2 j2 i2 ev2 hc2 hb2 hj2 ej2 hi2 ei2 d e => ?_)))
  obtain ⟨q1, q2, q3, q4⟩ := be_one hS ev hc hb ev2 hc2 hb2
  rw [ej] at ej2
  rw [ei] at ei2
  have q5 := (nI_eq (by omega) (by omega)).mp ej2
  have q6 := (nI_eq (by omega) (by omega)).mp ei2
  subst q1; subst q5; subst q6
  exact h2 m' ⟨S, hS, ⟨a, hp.mv rfl b⟩, d, hn.of e⟩
theorem L_cost {x : XW} {m : MW} {K : Int32 → XW → Prop} {v : Int32} (hR : RR x m) (hk : ∀ r x', Tk (fun K2 => P_X4_cost K2 m v) x' r → K r x') : P_X3_cost K x v := by
  obtain ⟨S, hS, ⟨hx, hp⟩, hm, hn⟩ := hR
  refine X_cost hS hx hp (fun z => hk _ x (fun K2 h2 => M_cost hS hm hn (fun _ => h2 m ⟨S, hS, ⟨hx, hp⟩, hm, hn⟩) (fun r m' j hj ej _ _ _ => absurd (show 0 ≤ v.toInt ∧ v.toInt < 24 by rw [ej, nI_toInt (by omega)]; omega) z))) (fun r x' j hj ej a b c => hk r x' (fun K2 h2 => M_cost hS hm hn (fun z => absurd (show 0 ≤ v.toInt ∧ v.toInt < 24 by rw [ej, nI_toInt (by omega)]; omega) z) (fun r2 m' j2 hj2 ej2 d e f => ?_)))
  rw [ej] at ej2
  have q := (nI_eq (by omega) (by omega)).mp ej2
  subst q
  have q2 := f.one c
  subst q2
  exact h2 m' ⟨S, hS, ⟨a, b⟩, d, e⟩
theorem MC_m1 {S : Sx} {j z : Nat} (h1 : MC S j m1) (h2 : MC S j (nI z)) (hz : z < 2 ^ 31) : False := m1_ne hz (h1.one h2)
theorem MC_z {S : Sx} {j y z : Nat} (h1 : MC S j (nI y)) (h2 : MC S j (nI z)) (hy : y < 2 ^ 31) (hz : z < 2 ^ 31) : y = z := (nI_eq hy hz).mp (h1.one h2)
theorem BM.one {S : Sx} {l l2 p p2 : Int32} (h1 : BM S 24 l p) (h2 : BM S 24 l2 p2) : l2 = l := by
  rcases h1 with ⟨a, b⟩ | ⟨j, q, a1, a2, a3, a4, a5, a6⟩
  · rcases h2 with ⟨c, d⟩ | ⟨j2, q2, c1, c2, c3, c4, c5, c6⟩
    · rw [a, c]
    · exact (MC_m1 (b j2 c1) c5 (by omega)).elim
  · rcases h2 with ⟨c, d⟩ | ⟨j2, q2, c1, c2, c3, c4, c5, c6⟩
    · exact (MC_m1 (d j a1) a5 (by omega)).elim
    · rw [a2, c2]
      rcases a6 j2 c1 with y | ⟨z, z1, z2, z3, z4⟩
      · exact (MC_m1 y c5 (by omega)).elim
      · rcases c6 j a1 with y | ⟨u, u1, u2, u3, u4⟩
        · exact (MC_m1 y a5 (by omega)).elim
        · have e1 := MC_z z2 c5 (by omega) (by omega)
          have e2 := MC_z u2 a5 (by omega) (by omega)
          have := z4 (by omega)
          have := u4 (by omega)
          rw [show j2 = j by omega]
theorem L_best {x : XW} {m : MW} {K : Int32 → XW → Prop} (hR : RR x m) (hk : ∀ r x', Tk (fun K2 => P_X4_best K2 m) x' r → K r x') : P_X3_best K x := by
  obtain ⟨S, hS, ⟨hx, hp⟩, hm, hn⟩ := hR
  refine X_best hS hx hp (fun l p x' a b c => hk l x' (fun K2 h2 => M_best hS hm hn (fun l2 m' d e f => ?_)))
  obtain ⟨p2, d⟩ := d
  have := a.one d
  subst this
  exact h2 m' ⟨S, hS, ⟨b, c⟩, e, f⟩
theorem no_row {S : Sx} {rw v : Int32} {col fo co pr r : Nat} (h : NoR S rw v) (e : v = nI col) (hc : col < tW (tbOf S (sU S))) (hS : SOK S) (hb : BeC S col fo co pr) (er : rw = nI r) (hr : tPlain (tbOf S (sU S)) (hdB (sU S)) r = true) : False := by
  have hT := tb_wf hS (sU S)
  have hR := hT.1
  have hr2 := (plain_i hT hr).1
  rcases h with z | z | ⟨r2, hr3, e2, hn⟩
  · exact no_be z e hc hS hb
  · exact z (by rw [er, nI_toInt (by omega)]; omega)
  · rw [er] at e2
    have := (nI_eq (by omega) (by omega)).mp e2
    subst this
    rw [hr] at hn
    cases hn
theorem row_one {S : Sx} {rw : Int32} {r r2 : Nat} (hS : SOK S) (er : rw = nI r) (hr : tPlain (tbOf S (sU S)) (hdB (sU S)) r = true) (er2 : rw = nI r2) (hr2 : tPlain (tbOf S (sU S)) (hdB (sU S)) r2 = true) : r2 = r := by
  have hT := tb_wf hS (sU S)
  have hR := hT.1
  have h1 := (plain_i hT hr).1
  have h2 := (plain_i hT hr2).1
  rw [er] at er2
  exact ((nI_eq (by omega) (by omega)).mp er2).symm
theorem L_value {x : XW} {m : MW} {K : Int64 → XW → Prop} {rw v : Int32} (hR : RR x m) (hk : ∀ r x', (∀ K2 : Int64 → MW → Prop, (∀ m, RR x' m → K2 r m) → P_X4_value K2 m rw v) → K r x') : P_X3_value K x rw v := by
  obtain ⟨S, hS, ⟨hx, hp⟩, hm, hn⟩ := hR
  refine X_value hS hx (fun x' a b c => hk _ x' (fun K2 h2 => M_value hS hm (fun m' d e f => h2 m' ⟨S, hS, ⟨a, hp.mv rfl b⟩, d, hn.of e⟩) (fun m' r col fo co pr ev hc hb er hr d e => (no_row c ev hc hS hb er hr).elim))) (fun x' r col fo co pr ev hc hb er hr a b => hk _ x' (fun K2 h2 => M_value hS hm (fun m' d e f => (no_row f ev hc hS hb er hr).elim) (fun m' r2 col2 fo2 co2 pr2 ev2 hc2 hb2 er2 hr2 d e => ?_)))
  obtain ⟨q1, q2, q3, q4⟩ := be_one hS ev hc hb ev2 hc2 hb2
  have q5 := row_one hS er hr er2 hr2
  subst q1; subst q2; subst q3; subst q5
  exact h2 m' ⟨S, hS, ⟨a, hp.mv rfl b⟩, d, hn.of e⟩
theorem W_fits {x : XW} {m : MW} {K : Int32 → XW → Prop} {v : Int32} (hR : RR x m) (hk : ∀ r x', Ta (fun K2 => P_X4_fits K2 m v) x' → K r x') : P_X3_fits K x v := by
  obtain ⟨S, hS, ⟨hx, hp⟩, hm, hn⟩ := hR
  exact X_fits hS hx (fun r x' a b => hk r x' (fun K2 h2 => M_fits hS hm (fun r2 m' c d => h2 r2 m' ⟨S, hS, ⟨a, hp.mv rfl b⟩, c, hn.of d⟩)))
theorem W_doubt {x : XW} {m : MW} {K : Int32 → XW → Prop} {v : Int32} (hR : RR x m) (hk : ∀ r x', Ta (fun K2 => P_X4_doubt K2 m v) x' → K r x') : P_X3_doubt K x v := by
  obtain ⟨S, hS, ⟨hx, hp⟩, hm, hn⟩ := hR
  exact X_doubt hS hx (fun r x' a b => hk r x' (fun K2 h2 => M_doubt hS hm (fun r2 m' c d => h2 r2 m' ⟨S, hS, ⟨a, hp.mv rfl b⟩, c, hn.of d⟩)))
theorem W_parts {x : XW} {m : MW} {K : Int32 → XW → Prop} {v f g k : Int32} (hR : RR x m) (hk : ∀ r x', Ta (fun K2 => P_X4_parts K2 m v f g k) x' → K r x') : P_X3_parts K x v f g k := by
  obtain ⟨S, hS, ⟨hx, hp⟩, hm, hn⟩ := hR
  exact X_parts hS hx (fun r x' a b => hk r x' (fun K2 h2 => M_parts hS hm (fun r2 m' c d => h2 r2 m' ⟨S, hS, ⟨a, hp.mv rfl b⟩, c, hn.of d⟩)))
theorem W_back {x : XW} {m : MW} {K : Int32 → XW → Prop} {rw v k : Int32} (hR : RR x m) (hk : ∀ r x', Ta (fun K2 => P_X4_back K2 m rw v k) x' → K r x') : P_X3_back K x rw v k := by
  obtain ⟨S, hS, ⟨hx, hp⟩, hm, hn⟩ := hR
  have fin : ∀ r x', IX S x' → rd_prices x' = rd_prices x → K r x' := fun r x' a b => hk r x' (fun K2 h2 => M_back hS hm (fun r2 m' c d => h2 r2 m' ⟨S, hS, ⟨a, hp.mv rfl b⟩, c, hn.of d⟩))
  exact X_back hS hx (fun x' a b _ => fin _ x' a b) (fun x' _ _ _ _ _ _ _ _ _ _ a b => fin _ x' a b)
theorem W_key {x : XW} {m : MW} {K : Int32 → XW → Prop} {v : Int32} (hR : RR x m) (hk : ∀ r x', Ta (fun K2 => P_X4_key K2 m v) x' → K r x') : P_X3_key K x v := by
  obtain ⟨S, hS, ⟨hx, hp⟩, hm, hn⟩ := hR
  have fin : ∀ r x', IX S x' → rd_prices x' = rd_prices x → K r x' := fun r x' a b => hk r x' (fun K2 h2 => M_key hS hm (fun r2 m' c d => h2 r2 m' ⟨S, hS, ⟨a, hp.mv rfl b⟩, c, hn.of d⟩))
  exact X_key hS hx (fun x' a b _ => fin _ x' a b) (fun x' _ _ _ _ _ _ _ a b => fin _ x' a b)
