/-! chance, mean: the reference's, and the two calls -/
theorem Fm.j {σ : Sg} {k : Nat} {v : Int64} : Fm σ (sJ σ 60 k v) := ⟨fun _ _ _ => rfl, fun _ _ _ _ => rfl, fun _ h => rj_ne h⟩
def GC (F : Int32 → Int32 → Int32 → Int32 → Int32 → Int32 → Int64 → Int32 → Sg → (Sg → Prop) → Prop) (ρ : Sg) (k p x r b T d : Nat) (l : Nat → Nat → Int32) : Prop := ∀ (t s w A B : Nat) (τ : Sg) (Q : Sg → Prop), t + d = T → s < 2048 → w ≤ 12 ^ t → Fm ρ τ → τ.2 60 35 = lN A → τ.2 60 36 = lN B →
  (∀ τ', Fm ρ τ' → τ'.2 60 35 = lN (A + w * chF l p x (vlF false r b) d t s) → τ'.2 60 36 = lN (B + w * chF l p x (vlF true r b) d t s) → Q τ') → F (nI k) (nI t) (nI T) (nI x) (nI (s / 8)) (nI (s % 8)) (lN w) (nI b) τ Q
theorem w62 {w t : Nat} (hw : w ≤ 12 ^ t) (ht : t ≤ 8) : w < 2 ^ 62 := Nat.lt_of_le_of_lt hw (Nat.lt_of_le_of_lt (Nat.pow_le_pow_right (by decide) ht) (by decide))
theorem gc_m {ρ : Sg} {k p x r b T : Nat} {l : Nat → Nat → Int32} (hk : k < 6) (hp : p < 1000) (hG : GM ρ k p l) (hx : x ≤ 12) (hb : b < 256) (hr : r ≤ 5) (h67 : ρ.1 67 0 = nI r) (hT : T ≤ 8) : ∀ (n d : Nat), d < n → GC (w_X12_goChance n) ρ k p x r b T d l
  | 0, d, h => by omega
  | n + 1, d, h => fun t s w A B τ Q ht hs hw hm hA hB hQ => by
    show w_X12_goChance_b (w_X12_goChance n) (nI k) (nI t) (nI T) (nI x) (nI (s / 8)) (nI (s % 8)) (lN w) (nI b) τ Q
    unfold w_X12_goChance_b
    by_cases g0 : w = 0
    · rw [if_pos ((lg_0 (w62 hw (by omega))).mpr g0)]
      subst g0
      rw [Nat.zero_mul, Nat.zero_mul] at hQ
      exact hQ τ hm hA hB
    · rw [if_neg (fun q => g0 ((lg_0 (w62 hw (by omega))).mp q))]
      cases d with
      | zero =>
        have : t = T := by omega
        subst this
        have h1 : τ.1 67 0 = nI r := by rw [hm.1 67 (by decide) (by decide), h67]
        have hap := ap_lt (show s / 8 < 256 by omega) hb
        rw [if_pos rfl, nrM (by omega) hb hr h1, bd_eq]
        have e1 : chF l p x (vlF false r b) 0 t s = if nr r (s / 8) b = true then 1 else 0 := rfl
        have e2 : chF l p x (vlF true r b) 0 t s = ap (s / 8) b := rfl
        rw [e1, e2] at hQ
        by_cases g : nr r (s / 8) b = true
        · rw [if_pos g, if_neg one_ne, bd_eq]
          dsimp only
          rw [apart_m (by omega) hb, bd_eq]
          rw [if_pos g] at hQ
          refine hQ _ (hm.trans (Fm.j.trans Fm.j)) ?_ ?_
          · rw [rj_in, if_neg (by decide), rj_in, if_pos rfl, hA, lN_add, Nat.mul_one]
          · rw [rj_in, if_pos rfl, rj_in, if_neg (by decide), hB, nI_l (by omega), lN_mul, lN_add]
        · rw [if_neg g, if_pos rfl]
          dsimp only
          rw [apart_m (by omega) hb, bd_eq]
          rw [if_neg g] at hQ
          refine hQ _ (hm.trans Fm.j) ?_ ?_
          · rw [rj_in, if_neg (by decide), hA]; rfl
          · rw [rj_in, if_pos rfl, hB, nI_l (by omega), lN_mul, lN_add]
      | succ d =>
        rw [if_neg (fun q => by have := nI_inj (by omega) (by omega) q; omega)]
        have ih := gc_m (l := l) hk hp hG hx hb hr h67 hT n d (by omega)
        have hpow : 12 ^ (t + 1) = 12 ^ t * 12 := Nat.pow_succ _ _
        have set2 : ∀ υ : Sg, Fm ρ υ → Fm ρ (sI (sI υ 60 30 (nI (s / 8))) 60 31 (nI (s % 8))) := fun υ hu => hu.trans (((Fr.set6 (Or.inl rfl)).trans (Fr.set6 (Or.inr (Or.inl rfl)))).m)
        have at2 : ∀ υ : Sg, At (sI (sI υ 60 30 (nI (s / 8))) 60 31 (nI (s % 8))) s := fun υ => ⟨by rw [rd_in, if_neg (by decide), rd_in, if_pos rfl], by rw [rd_in, if_pos rfl]⟩
        refine ⟨3, ?_⟩
        unfold w_X12_goChance_l59
        rw [if_neg (by decide), bd_eq, bd_eq, show (0 : Int32) = nI 0 from rfl]
        refine hour_q (s := s) hk (GM_m hG (set2 τ hm)) hs (by omega) hp (Or.inr (Or.inl rfl)) (at2 τ) (fun τ1 hf _ hA1 => ?_)
        rw [bd_eq, if_neg (show ¬ nI 0 = 1 by decide)]
        dsimp only
        rw [hA1.1, hA1.2, (odds hx).2, lN_mul, nI_1]
        have hm1 : Fm ρ τ1 := (set2 τ hm).trans hf.m
        refine ih (t + 1) _ (w * (12 - x)) A B τ1 _ (by omega) (nx_lt hs) (by rw [hpow]; exact Nat.mul_le_mul hw (by omega)) hm1 (by rw [hf.2.2]; exact hA) (by rw [hf.2.2]; exact hB) (fun τ2 hm2 hA2 hB2 => ?_)
        unfold w_X12_goChance_l59
        rw [show nI 0 + 1 = 1 by decide, if_neg (by decide), bd_eq, bd_eq]
        refine hour_q (s := s) hk (GM_m hG (set2 τ2 hm2)) hs (by omega) hp (Or.inr (Or.inr rfl)) (at2 τ2) (fun τ3 hf3 _ hA3 => ?_)
        rw [bd_eq, if_pos rfl]
        dsimp only
        rw [hA3.1, hA3.2, (odds hx).1, lN_mul, nI_1]
        have hm3 : Fm ρ τ3 := (set2 τ2 hm2).trans hf3.m
        refine ih (t + 1) _ (w * x) _ _ τ3 _ (by omega) (nx_lt hs) (by rw [hpow]; exact Nat.mul_le_mul hw hx) hm3 (by rw [hf3.2.2]; exact hA2) (by rw [hf3.2.2]; exact hB2) (fun τ4 hm4 hA4 hB4 => ?_)
        unfold w_X12_goChance_l59
        rw [show (1 : Int32) + 1 = 2 by decide, if_pos (by decide)]
        have ec : ∀ val, chF l p x val (d + 1) t s = (12 - x) * chF l p x val d (t + 1) (nx l p s t 0) + x * chF l p x val d (t + 1) (nx l p s t 1) := fun _ => rfl
        refine hQ τ4 hm4 ?_ ?_
        · rw [hA4, ec, Nat.mul_add, ← Nat.mul_assoc, ← Nat.mul_assoc, Nat.add_assoc]; rfl
        · rw [hB4, ec, Nat.mul_add, ← Nat.mul_assoc, ← Nat.mul_assoc, Nat.add_assoc]; rfl
def CH (nC nP : Nat) (a b c d : Int32) : Prop := PR nC nP a ∧ inR b 0 8 ∧ inR c 0 12 ∧ inR d 0 1
theorem are_m {nC nP : Nat} {a b c d : Int32} {σ : Sg} {Q : Int32 → Sg → Prop} (hn : nC ≤ 6) (hp : nP ≤ 8) (e : σ.1 60 1 = nI nC) (e' : σ.1 60 6 = nI nP) (h1 : CH nC nP a b c d → Q 1 σ) (h0 : ¬ CH nC nP a b c d → Q 0 σ) : w_X12_areChance a b c d σ Q := by
  unfold w_X12_areChance
  refine pair_m hn hp e e' (fun p1 => ?_) (fun p1 => by rw [if_pos rfl]; exact h0 (fun q => p1 q.1))
  rw [if_neg one_ne]
  refine in_m (a := 0) (b := 8) (by decide) (by decide) (fun p2 => ?_) (fun p2 => by rw [if_pos rfl]; exact h0 (fun q => p2 q.2.1))
  rw [if_neg one_ne]
  refine in_m (a := 0) (b := 12) (by decide) (by decide) (fun p3 => ?_) (fun p3 => by rw [if_pos rfl]; exact h0 (fun q => p3 q.2.2.1))
  rw [if_neg one_ne]
  refine in_m (a := 0) (b := 1) (by decide) (by decide) (fun p4 => ?_) (fun p4 => by rw [if_pos rfl]; exact h0 (fun q => p4 q.2.2.2))
  rw [if_neg one_ne]
  exact h1 ⟨p1, p2, p3, p4⟩
/-- both ways of weighing -/
theorem find_m {σ τ : Sg} {nC nP m T x : Nat} {g : Int32 → Int32 → Int32 → Int32 → Int32 → Int32 → Int32} {Q : Int64 → Sg → Prop} (hB : Bs σ nC nP) (hq : Mq σ) (h3 : G3 g) (hM : ML σ g) (hF : Fx σ τ) (hm : m < 2 ^ 31) (hk : m / 10 < nC) (hp : m % 10 < nP) (hT : T ≤ 8) (hx : x ≤ 12)
    (hQ : ∀ τ', Fm τ τ' → τ'.2 60 35 = lN (chF (lP g σ (m / 10) (vN σ 4 (m / 10))) (vN σ 4 (m / 10)) x (vlF false (vN σ 1 8) (vN σ 6 (m % 10))) T 0 (stN σ (m / 10))) → τ'.2 60 36 = lN (chF (lP g σ (m / 10) (vN σ 4 (m / 10))) (vN σ 4 (m / 10)) x (vlF true (vN σ 1 8) (vN σ 6 (m % 10))) T 0 (stN σ (m / 10))) → Q (lN (12 ^ T)) τ') : w_X12_findChance (nI m) (nI T) (nI x) τ Q := by
  obtain ⟨hn6, hp8, en, ep⟩ := hB.1
  obtain ⟨⟨k1, k2⟩, ⟨k3, k4⟩, ⟨k5, k6, k7⟩, ⟨k8', k9⟩⟩ := hB.2.1 _ hk
  obtain ⟨s1, s2⟩ := (hB.2.2.1 _ hp).1
  have hv8 : vp_in (nI (m % 10)) 8 := vp_nI (by omega) (by decide)
  have hvk : vp_in (nI (m / 10)) 6 := vp_nI (by omega) (by decide)
  have hLm := LM_of hB hq hF (Fm.refl τ)
  have e : ∀ c, 61 ≤ c → c ≤ 77 → τ.1 c = σ.1 c := fun c h1 h2 => hF.lo (by omega)
  have hG := GM_of hB hq h3 hM hk e (by rw [hF.lo (by omega)])
  have x61 : τ.1 61 (m / 10) = nI (stN σ (m / 10) / 8) := by rw [e 61 (by decide) (by decide), hq.1.1, k1]; unfold stN; congr 1; omega
  have x62 : τ.1 62 (m / 10) = nI (stN σ (m / 10) % 8) := by rw [e 62 (by decide) (by decide), hq.1.2.1, k3]; unfold stN; congr 1; omega
  have hms : Fm τ (sJ (sJ τ 60 35 (0 : Int64)) 60 36 (0 : Int64)) := Fm.j.trans Fm.j
  unfold w_X12_findChance
  rw [bd_eq, bd_eq, rem10 hm, div10 hm, cl_nI (by omega), cl_nI (by omega), rj_1, rj_1, x61, x62, (hLm.2.2.2.1 _ hp).1]
  refine ⟨hvk, hvk, hv8, ?_⟩
  refine gc_m (by omega) (by omega) hG hx s2 hB.2.2.2.1.2 (by rw [e 67 (by decide) (by decide)]; exact (LM_of hB hq (Fx.refl σ) (Fm.refl σ)).2.2.2.2.2) hT 10 T (by omega) 0 (stN σ (m / 10)) 1 0 0 _ _ (by omega) (stN_lt hB hk) (by decide) hms (by rw [rj_in, if_neg (by decide), rj_in, if_pos rfl]; rfl) (by rw [rj_in, if_pos rfl]; rfl) (fun τ1 hm1 hA1 hB1 => ?_)
  rw [Nat.zero_add, Nat.one_mul] at hA1 hB1
  exact ⟨T + 1, be_m hT (hQ τ1 hm1 hA1 hB1) T 0 (by omega)⟩
theorem weigh_x {σ : Sg} {nC nP m x T : Nat} {far : Bool} {d0 : Int32} {g : Int32 → Int32 → Int32 → Int32 → Int32 → Int32 → Int32} {N : Nat} {Q : Int64 → Sg → Prop} (hd0 : d0 = if far = true then 1 else 0) (hm : m < 2 ^ 31) (hB : Bs σ nC nP) (h3 : G3 g) (hX : XL σ g) (hK : IKb (16 * N) σ) (hN : N < 600) (hk : m / 10 < nC) (hp : m % 10 < nP) (hx : x ≤ 12) (hT : T ≤ 8)
    (hQ : ∀ τ, Fx σ τ → IKb (16 * N + 1) τ → Q (lN (chF (lP g σ (m / 10) (vN σ 4 (m / 10))) (vN σ 4 (m / 10)) x (vlF far (vN σ 1 8) (vN σ 6 (m % 10))) T 0 (stN σ (m / 10)))) τ) : w_X1_weight (nI m) (nI T) (nI x) d0 σ Q := by
  obtain ⟨hn6, hp8, en, ep⟩ := hB.1
  obtain ⟨⟨k1, k2⟩, ⟨k3, k4⟩, ⟨k5, k6, k7⟩, ⟨k8', k9⟩⟩ := hB.2.1 _ hk
  obtain ⟨s1, s2⟩ := (hB.2.2.1 _ hp).1
  have hv8 : vp_in (nI (m % 10)) 8 := vp_nI (by omega) (by decide)
  have hvk : vp_in (nI (m / 10)) 6 := vp_nI (by omega) (by decide)
  unfold w_X1_weight
  rw [rem10 hm, div10 hm, cl_nI (by omega), k5]
  refine ⟨hvk, hvk, start_x (by omega) h3 hX k8' k9 hB.2.2.2.2.1 hB.2.2.2.2.2 hK (by omega) (fun τ1 hst hC1 hK1 => ?_)⟩
  have hf := hst.x (show m / 10 < 6 by omega)
  rw [cl_nI (by omega), bd_eq, hf.lo (c := 6) (by omega), s1]
  refine ⟨hv8, 2 ^ T + 1, ?_⟩
  exact ways2_x (M := 16 * N + 1) (l := lP g σ (m / 10) (vN σ 4 (m / 10))) hd0 hm hB hk (by omega) (by omega) hx hT s2 (fun τ2 hX2 => hQ τ2 hX2.1 hX2.2.2) (2 ^ T) 0 τ1 (by omega) ⟨hf, hC1, hK1⟩
theorem chF_60 {l : Nat → Nat → Int32} {p x r b T s : Nat} {far : Bool} (hx : x ≤ 12) (hT : T ≤ 8) (hb : b < 256) (hs : s < 2048) : chF l p x (vlF far r b) T 0 s < 2 ^ 60 := by
  have h := chF_le (l := l) (p := p) (val := vlF far r b) hx (fun s hs => vlF_le hb hs) T 0 s hs
  have := (p12 hT).1
  omega
theorem op_chance {N : Nat} {σ : Sg} (hI : Inv N σ) (hN : N < 600) (a b c d : Int32) {Q : Int64 → Int64 → Sg → Prop} (hQ : ∀ r σ', Inv (N + 1) σ' → Q r r σ') : w_X11_chance a b c d σ (fun r σ1 => w_X12_chance a b c d σ1 (fun r' σ2 => Q r r' σ2)) := by
  obtain ⟨nC, nP, g, hB, hq, h3, hX, hM⟩ := Inv_get hI
  have hK := Inv_K hI
  have hU := Inv_up hI
  obtain ⟨hn, hp, en, ep⟩ := hB.1
  have c60 := c60_x hq hB (Fx.refl σ)
  have bad : ¬ CH nC nP a b c d → w_X12_chance a b c d σ (fun r' σ2 => Q (-9223372036854775808) r' σ2) := fun h => are_m hn hp c60.1 c60.2 (fun q => absurd q h) (fun _ => by rw [if_pos rfl]; exact hQ _ _ hU)
  unfold w_X11_chance
  refine pair_x hn hp en ep (fun h1 => ?_) (fun h => by rw [if_pos rfl]; exact bad (fun q => h q.1))
  rw [if_neg one_ne]
  refine within_x (a := 0) (b := 8) (by decide) (by decide) (fun h2 => ?_) (fun h => by rw [if_pos rfl]; exact bad (fun q => h q.2.1))
  rw [if_neg one_ne]
  refine within_x (a := 0) (b := 12) (by decide) (by decide) (fun h3' => ?_) (fun h => by rw [if_pos rfl]; exact bad (fun q => h q.2.2.1))
  rw [if_neg one_ne]
  refine within_x (a := 0) (b := 1) (by decide) (by decide) (fun h4 => ?_) (fun h => by rw [if_pos rfl]; exact bad (fun q => h q.2.2.2))
  rw [if_neg one_ne]
  obtain ⟨m, hm, rfl, hk, hp'⟩ := id h1
  obtain ⟨T, hT, rfl⟩ := inR_num (v := b) (b := 8) h2 (by decide)
  obtain ⟨x, hx, rfl⟩ := inR_num (v := c) (b := 12) h3' (by decide)
  refine weigh_x (far := false) rfl hm hB h3 hX hK hN hk hp' hx hT (fun τ hF hKτ => ?_)
  have s2 := (hB.2.2.1 _ hp').1.2
  have h60 := fun far => chF_60 (l := lP g σ (m / 10) (vN σ 4 (m / 10))) (p := vN σ 4 (m / 10)) (r := vN σ 1 8) (far := far) hx hT s2 (stN_lt hB hk)
  refine fr_x (h60 false) hT ?_
  have cc := c60_x hq hB hF
  refine are_m hn hp cc.1 cc.2 (fun _ => ?_) (fun q => absurd ⟨h1, h2, h3', h4⟩ q)
  rw [if_neg one_ne]
  refine find_m hB hq h3 hM hF hm hk hp' hT hx (fun τ2 hm2 hA hB2 => ?_)
  rw [hA]
  exact fr_m (h60 false) hT h4 (hQ _ _ (th_e hI hF hKτ (by omega) hm2))
theorem op_mean {N : Nat} {σ : Sg} (hI : Inv N σ) (hN : N < 600) (a b c d : Int32) {Q : Int64 → Int64 → Sg → Prop} (hQ : ∀ r σ', Inv (N + 1) σ' → Q r r σ') : w_X11_mean a b c d σ (fun r σ1 => w_X12_mean a b c d σ1 (fun r' σ2 => Q r r' σ2)) := by
  obtain ⟨nC, nP, g, hB, hq, h3, hX, hM⟩ := Inv_get hI
  have hK := Inv_K hI
  have hU := Inv_up hI
  obtain ⟨hn, hp, en, ep⟩ := hB.1
  have c60 := c60_x hq hB (Fx.refl σ)
  have bad : ¬ CH nC nP a b c d → w_X12_mean a b c d σ (fun r' σ2 => Q (-9223372036854775808) r' σ2) := fun h => are_m hn hp c60.1 c60.2 (fun q => absurd q h) (fun _ => by rw [if_pos rfl]; exact hQ _ _ hU)
  unfold w_X11_mean
  refine pair_x hn hp en ep (fun h1 => ?_) (fun h => by rw [if_pos rfl]; exact bad (fun q => h q.1))
  rw [if_neg one_ne]
  refine within_x (a := 0) (b := 8) (by decide) (by decide) (fun h2 => ?_) (fun h => by rw [if_pos rfl]; exact bad (fun q => h q.2.1))
  rw [if_neg one_ne]
  refine within_x (a := 0) (b := 12) (by decide) (by decide) (fun h3' => ?_) (fun h => by rw [if_pos rfl]; exact bad (fun q => h q.2.2.1))
  rw [if_neg one_ne]
  refine within_x (a := 0) (b := 1) (by decide) (by decide) (fun h4 => ?_) (fun h => by rw [if_pos rfl]; exact bad (fun q => h q.2.2.2))
  rw [if_neg one_ne]
  obtain ⟨m, hm, rfl, hk, hp'⟩ := id h1
  obtain ⟨T, hT, rfl⟩ := inR_num (v := b) (b := 8) h2 (by decide)
  obtain ⟨x, hx, rfl⟩ := inR_num (v := c) (b := 12) h3' (by decide)
  refine weigh_x (far := true) rfl hm hB h3 hX hK hN hk hp' hx hT (fun τ hF hKτ => ?_)
  have s2 := (hB.2.2.1 _ hp').1.2
  have h60 := fun far => chF_60 (l := lP g σ (m / 10) (vN σ 4 (m / 10))) (p := vN σ 4 (m / 10)) (r := vN σ 1 8) (far := far) hx hT s2 (stN_lt hB hk)
  refine fr_x (h60 true) hT ?_
  have cc := c60_x hq hB hF
  refine are_m hn hp cc.1 cc.2 (fun _ => ?_) (fun q => absurd ⟨h1, h2, h3', h4⟩ q)
  rw [if_neg one_ne]
  refine find_m hB hq h3 hM hF hm hk hp' hT hx (fun τ2 hm2 hA hB2 => ?_)
  rw [hB2]
  exact fr_m (h60 true) hT h4 (hQ _ _ (th_e hI hF hKτ (by omega) hm2))
