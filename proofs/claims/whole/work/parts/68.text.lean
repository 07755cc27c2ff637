/-! the reference's reader: lines, the text -/
def lstZ : Option TreeZ × TreeZ → StZ
  | (none, a) => a.1
  | (some t, a) => t.1 ++ a.1
def tEz (o : Nat) : Option TreeZ × TreeZ → Nat
  | (none, _) => o
  | (some t, _) => o + szZ t
def stps : List (Option TreeZ × TreeZ) → StZ
  | [] => []
  | l :: ls => lstZ l ++ stps ls
def endsZ : Nat → List (Option TreeZ × TreeZ) → List (Nat × Nat)
  | _, [] => []
  | o, l :: ls => (tEz o l, o + (lstZ l).length) :: endsZ (o + (lstZ l).length) ls
def MT (σ τ : Sg) : Prop := (∀ c, c ≠ 60 → c ≠ 73 → c ≠ 74 → c ≠ 75 → c ≠ 76 → c ≠ 77 → τ.1 c = σ.1 c) ∧ (∀ k, k ≠ 18 → k ≠ 19 → k ≠ 20 → k ≠ 21 → τ.1 60 k = σ.1 60 k) ∧ (∀ j, j < 130 → τ.1 73 j = σ.1 73 j ∧ τ.1 74 j = σ.1 74 j) ∧ τ.1 75 0 = σ.1 75 0 ∧ (∀ j, j < 61 → τ.1 76 j = σ.1 76 j ∧ τ.1 77 j = σ.1 77 j) ∧ τ.2 = σ.2
theorem MT.refl (σ : Sg) : MT σ σ := ⟨fun _ _ _ _ _ _ _ => rfl, fun _ _ _ _ _ => rfl, fun _ _ => ⟨rfl, rfl⟩, rfl, fun _ _ => ⟨rfl, rfl⟩, rfl⟩
theorem MT.r {σ τ ρ : Sg} (h : MT σ τ) (k : MR τ ρ) : MT σ ρ := by
  obtain ⟨h1, h2, h3, h4, h5, h6⟩ := h
  obtain ⟨k1, k2, k3, k4⟩ := k
  refine ⟨fun c a1 a2 a3 a4 a5 a6 => (k1 c a1 a2 a3).trans (h1 c a1 a2 a3 a4 a5 a6), fun j a1 a2 a3 a4 => (k2 j a1 a2 a3 a4).trans (h2 j a1 a2 a3 a4), fun j hj => ⟨(k3 j hj).1.trans (h3 j hj).1, (k3 j hj).2.trans (h3 j hj).2⟩, ?_, fun j hj => ?_, k4.trans h6⟩
  · rw [k1 75 (by decide) (by decide) (by decide)]; exact h4
  · rw [k1 76 (by decide) (by decide) (by decide), k1 77 (by decide) (by decide) (by decide)]; exact h5 j hj
theorem MT.s60 {σ τ : Sg} {k : Nat} {v : Int32} (h : MT σ τ) (hk : k = 18 ∨ k = 19 ∨ k = 20 ∨ k = 21) : MT σ (sI τ 60 k v) := h.r ((MR.refl τ).s hk)
theorem MT.s7 {σ τ : Sg} {c k : Nat} {v : Int32} (h : MT σ τ) (hc : (c = 76 ∨ c = 77) ∧ 61 ≤ k ∨ c = 75 ∧ k = 1) : MT σ (sI τ c k v) := by
  obtain ⟨h1, h2, h3, h4, h5, h6⟩ := h
  have e : ∀ x j, (x ≠ c ∨ j ≠ k) → (sI τ c k v).1 x j = τ.1 x j := by
    intro x j q
    by_cases g : x = c
    · subst g
      rw [rd_in, if_neg (by omega)]
    · rw [rd_ne g]
  refine ⟨fun x a1 a2 a3 a4 a5 a6 => by rw [rd_ne (by omega)]; exact h1 x a1 a2 a3 a4 a5 a6, fun j a1 a2 a3 a4 => by rw [e 60 j (by omega)]; exact h2 j a1 a2 a3 a4, fun j hj => ?_, ?_, fun j hj => ?_, h6⟩
  · rw [e 73 j (by omega), e 74 j (by omega)]; exact h3 j hj
  · rw [e 75 0 (by omega)]; exact h4
  · rw [e 76 j (by omega), e 77 j (by omega)]; exact h5 j hj
/-- between lines -/
def QT (σ0 τ : Sg) (i : Nat) (T : StZ) (Ls : List (Nat × Nat)) : Prop :=
  MT σ0 τ ∧ (τ.1 60 18 = nI i ∧ τ.1 60 19 = -1 ∧ τ.1 60 20 = nI 0 ∧ τ.1 60 21 = nI T.length ∧ sg1 (τ.1 73) 130 (T.map (fun x => x.2.1)) ∧ sg1 (τ.1 74) 130 (T.map (fun x => x.2.2))) ∧
  τ.1 75 1 = nI Ls.length ∧ sg1 (τ.1 76) 61 (Ls.map (fun x => nI x.1)) ∧ sg1 (τ.1 77) 61 (Ls.map (fun x => nI x.2))
/-- in a line -/
def QL (σ0 τ : Sg) (i : Nat) (T : StZ) (Ls : List (Nat × Nat)) (te : Nat) : Prop :=
  QT σ0 τ i T Ls ∧ τ.1 76 (61 + Ls.length) = nI te
def QG (σ0 τ : Sg) (n f : Nat) : Prop := MT σ0 τ ∧ τ.1 60 19 = nI f ∧ ∃ h, h ≤ n ∧ τ.1 60 18 = nI h
theorem QT.m {σ0 τ : Sg} {i : Nat} {T : StZ} {Ls : List (Nat × Nat)} (h : QT σ0 τ i T Ls) : QM τ τ i 0 T := ⟨MR.refl τ, h.2.1⟩
theorem QT.r {σ0 τ ρ : Sg} {i j : Nat} {T T' : StZ} {Ls : List (Nat × Nat)} (h : QT σ0 τ i T Ls) (k : QM τ ρ j 0 T') : QT σ0 ρ j T' Ls := by
  obtain ⟨h1, h2, h3, h4, h5⟩ := h
  obtain ⟨k1, k2⟩ := k
  refine ⟨h1.r k1, k2, ?_, ?_, ?_⟩
  · rw [k1.1 75 (by decide) (by decide) (by decide)]; exact h3
  · rw [k1.1 76 (by decide) (by decide) (by decide)]; exact h4
  · rw [k1.1 77 (by decide) (by decide) (by decide)]; exact h5
theorem QL.r {σ0 τ ρ : Sg} {i j te : Nat} {T T' : StZ} {Ls : List (Nat × Nat)} (h : QL σ0 τ i T Ls te) (k : QM τ ρ j 0 T') : QL σ0 ρ j T' Ls te := by
  refine ⟨h.1.r k, ?_⟩
  rw [k.1.1 76 (by decide) (by decide) (by decide)]; exact h.2
theorem QT.t {σ0 τ : Sg} {i te : Nat} {T : StZ} {Ls : List (Nat × Nat)} (h : QT σ0 τ i T Ls) : QL σ0 (sI τ 76 (61 + Ls.length) (nI te)) i T Ls te := by
  obtain ⟨h1, ⟨a1, a2, a3, a4, a5, a6⟩, h3, h4, h5⟩ := h
  refine ⟨⟨h1.s7 (by omega), ⟨?_, ?_, ?_, ?_, ?_, ?_⟩, ?_, ?_, ?_⟩, by rw [rd_in, if_pos rfl]⟩
  · rw [rd_ne (by decide)]; exact a1
  · rw [rd_ne (by decide)]; exact a2
  · rw [rd_ne (by decide)]; exact a3
  · rw [rd_ne (by decide)]; exact a4
  · rw [rd_ne (by decide)]; exact a5
  · rw [rd_ne (by decide)]; exact a6
  · rw [rd_ne (by decide)]; exact h3
  · exact sg_c _ _ (fun j q1 q2 => by rw [rd_in, if_neg (by rw [List.length_map] at q2; omega)]) h4
  · rw [rd_ne (by decide)]; exact h5
theorem nar_s : ∀ s, s < 200 → (Int16.toInt32 (Int32.toInt16 (nI s))).toInt16.toInt32 = nI s := by decide +kernel
theorem nar_s' {s : Nat} (h : s < 200) : vp_nar .short (Int16.toInt32 (Int32.toInt16 (nI s))) = nI s := by
  rw [vp_nar_short]
  exact nar_s s h
theorem nar_s2 : ∀ s, s < 200 → (nI s).toInt16.toInt32 = nI s := by decide +kernel
/-- a line's end -/
theorem QL.e {σ0 τ : Sg} {i te : Nat} {T : StZ} {Ls : List (Nat × Nat)} (h : QL σ0 τ i T Ls te) : QT σ0 (sI (sI τ 77 (61 + Ls.length) (nI T.length)) 75 1 (nI (Ls.length + 1))) i T (Ls ++ [(te, T.length)]) := by
  obtain ⟨⟨h1, ⟨a1, a2, a3, a4, a5, a6⟩, h3, h4, h5⟩, h6⟩ := h
  refine ⟨(h1.s7 (by omega)).s7 (by omega), ⟨?_, ?_, ?_, ?_, ?_, ?_⟩, ?_, ?_, ?_⟩
  · rw [rd_ne (by decide), rd_ne (by decide)]; exact a1
  · rw [rd_ne (by decide), rd_ne (by decide)]; exact a2
  · rw [rd_ne (by decide), rd_ne (by decide)]; exact a3
  · rw [rd_ne (by decide), rd_ne (by decide)]; exact a4
  · rw [rd_ne (by decide), rd_ne (by decide)]; exact a5
  · rw [rd_ne (by decide), rd_ne (by decide)]; exact a6
  · rw [rd_in, if_pos rfl, List.length_append]; rfl
  · rw [rd_ne (by decide), rd_ne (by decide), List.map_append]
    refine (sg_app _ _ _).mpr ⟨h4, ?_, trivial⟩
    rw [List.length_map]
    exact h6
  · rw [rd_ne (by decide), List.map_append]
    refine (sg_app _ _ _).mpr ⟨sg_c _ _ (fun j q1 q2 => by rw [rd_in, if_neg (by rw [List.length_map] at q2; omega)]) h5, ?_, trivial⟩
    rw [List.length_map, rd_in, if_pos rfl]
theorem ln_gd {n : Nat} {c : Nat → Nat} (ht : txtZ n c) {i : Nat} (hi : i ≤ n) : (∀ f, lnP c i = .inl f → i ≤ f ∧ f ≤ n) ∧ ∀ j l, lnP c i = .inr (j, l) → i < j ∧ j ≤ n ∧ (lstZ l).length ≤ j - i := by
  have hG := ei_gd ht (fun i hi => op_gd ht 8 0 i hi)
  have qg := hG i hi
  unfold lnP
  cases e : eiP c (opP c 8 0) i with
  | inl f =>
    rw [e] at qg
    exact ⟨fun x hx => (by cases hx; exact qg), fun j l h => by cases h⟩
  | inr jj =>
    obtain ⟨j, t⟩ := jj
    rw [e] at qg
    obtain ⟨q1, q2, q3, q4⟩ := qg
    dsimp only
    by_cases g : c j = 63
    · rw [if_pos g]
      have hj := in_n ht (show 0 < c j by omega)
      have qg' := hG (j + 1) (by omega)
      cases e' : eiP c (opP c 8 0) (j + 1) with
      | inl f =>
        rw [e'] at qg'
        have r1 : j + 1 ≤ f := qg'.1
        exact ⟨fun x hx => (by cases hx; exact ⟨by omega, qg'.2⟩), fun j l h => by cases h⟩
      | inr kk =>
        obtain ⟨k, a⟩ := kk
        rw [e'] at qg'
        obtain ⟨r1, r2, r3, r4⟩ := qg'
        refine ⟨fun x hx => (by cases hx), fun j' l h => ?_⟩
        cases h
        refine ⟨by omega, r2, ?_⟩
        have : (lstZ (some t, a)).length = szZ t + szZ a := List.length_append
        omega
    · rw [if_neg g]
      refine ⟨fun x hx => (by cases hx), fun j' l h => ?_⟩
      cases h
      exact ⟨q1, q2, q4⟩
theorem Tp.m {σ0 τ : Sg} {n : Nat} {c : Nat → Nat} (h : Tp σ0 n c) (k : MT σ0 τ) : Tp τ n c :=
  ⟨h.1, h.2.1, (k.2.1 17 (by decide) (by decide) (by decide) (by decide)).trans h.2.2.1, fun j hj => by rw [k.1 72 (by decide) (by decide) (by decide) (by decide) (by decide) (by decide)]; exact h.2.2.2 j hj⟩
theorem Tp.s {τ : Sg} {n : Nat} {c : Nat → Nat} {i k : Nat} {v : Int32} (h : Tp τ n c) (hi : i = 76 ∨ i = 77 ∨ i = 75 ∨ i = 60 ∧ k ≠ 17) : Tp (sI τ i k v) n c := by
  refine ⟨h.1, h.2.1, ?_, fun j hj => by rw [rd_ne (by omega)]; exact h.2.2.2 j hj⟩
  by_cases g : i = 60
  · subst g
    rw [rd_in, if_neg (by omega)]
    exact h.2.2.1
  · rw [rd_ne (fun q => g q.symm)]
    exact h.2.2.1
theorem line_m {σ0 τ : Sg} {n i : Nat} {c : Nat → Nat} {T : StZ} {Ls : List (Nat × Nat)} {K : Sg → Prop} (hT : Tp σ0 n c) (hi : i ≤ n) (hl : T.length ≤ i) (hL : 2 * Ls.length ≤ i) (h : QT σ0 τ i T Ls)
    (k1 : ∀ f, lnP c i = .inl f → ∀ τ', QG σ0 τ' n f → K τ') (k2 : ∀ j l, lnP c i = .inr (j, l) → ∀ τ', QT σ0 τ' j (T ++ lstZ l) (Ls ++ [(tEz T.length l, T.length + (lstZ l).length)]) → K τ') : w_X12_line τ K := by
  have hn := hT.1.1
  have hE : ∀ ρ, Tp ρ n c → RMz ρ n 0 (fun σ Q => w_X12_either (w_X12_operand 8) σ Q) (eiP c (opP c 8 0)) := fun ρ hρ => ei_RM hρ (op_RM hρ 8 0 (by omega) (by omega)) (fun i hi => op_gd hT.1 8 0 i hi)
  have hG := ei_gd hT.1 (fun i hi => op_gd hT.1 8 0 i hi)
  have qg := hG i hi
  unfold lnP at k1 k2
  unfold w_X12_line
  have e1 : (61 : Int32) + (τ.1 75 (Int32.toNatClampNeg (1 : Int32))) = nI (61 + Ls.length) := by
    rw [show Int32.toNatClampNeg (1 : Int32) = 1 from rfl, h.2.2.1, show (61 : Int32) = nI 61 from rfl, nI_add]
  rw [e1]
  simp only [bd_eq]
  have hv : vp_in (nI (61 + Ls.length)) 122 := vp_nI (by omega) (by decide)
  rw [cl_nI (by omega), h.2.1.2.2.2.1, nar_s' (by omega), show Int32.toNatClampNeg (1 : Int32) = 1 from rfl]
  have h1 := h.t (te := T.length)
  -- the end of a line: as it should, and behind a fault
  have jok : ∀ ρ j te T', QL σ0 ρ j T' Ls te → T'.length < 200 → (∀ τ', QT σ0 τ' j T' (Ls ++ [(te, T'.length)]) → K τ') → vp_in (nI (61 + Ls.length)) 122 ∧ K (sI (sI ρ 77 (61 + Ls.length) (vp_nar .short (Int16.toInt32 (Int32.toInt16 (ρ.1 60 21))))) 75 1 (((sI ρ 77 (61 + Ls.length) (vp_nar .short (Int16.toInt32 (Int32.toInt16 (ρ.1 60 21))))).1 75 1) + (1 : Int32))) := by
    intro ρ j te T' q hq kk
    refine ⟨hv, kk _ ?_⟩
    rw [q.1.2.1.2.2.2.1, nar_s' hq, rd_ne (by decide), q.1.2.2.1, nI_1]
    exact q.e
  have jbad : ∀ ρ0 ρ f m v, QL σ0 ρ0 i T Ls v → ∀ ρ1, MT σ0 ρ1 → QF ρ1 ρ n f m → (∀ τ', QG σ0 τ' n f → K τ') → vp_in (nI (61 + Ls.length)) 122 ∧ K (sI (sI ρ 77 (61 + Ls.length) (vp_nar .short (Int16.toInt32 (Int32.toInt16 (ρ.1 60 21))))) 75 1 (((sI ρ 77 (61 + Ls.length) (vp_nar .short (Int16.toInt32 (Int32.toInt16 (ρ.1 60 21))))).1 75 1) + (1 : Int32))) := by
    intro ρ0 ρ f m v _ ρ1 hm q kk
    obtain ⟨q1, q2, ⟨x, q3, q4⟩, _⟩ := q
    refine ⟨hv, kk _ ⟨((hm.r q1).s7 (by omega)).s7 (by omega), ?_, x, q3, ?_⟩⟩
    · rw [rd_ne (by decide), rd_ne (by decide)]; exact q2
    · rw [rd_ne (by decide), rd_ne (by decide)]; exact q4
  refine ⟨hv, ?_⟩
  have hT1 : Tp (sI τ 76 (61 + Ls.length) (nI T.length)) n c := (hT.m h.1).s (Or.inl rfl)
  generalize hτ1 : sI τ 76 (61 + Ls.length) (nI T.length) = τ1 at h1 hT1 ⊢
  refine hE τ1 hT1 i T τ1 _ hi hl h1.1.m (fun f hf τ2 h2 => ?_) (fun j t hj τ2 h2 => ?_)
  · rw [hf] at k1 qg
    have q2 : f ≤ n := qg.2
    rw [if_pos (by rw [h2.2.1]; exact nI_pos' (by omega))]
    exact jbad τ1 τ2 f _ _ h1 τ1 h1.1.1 h2 (k1 f rfl)
  · rw [hj] at k1 k2 qg
    obtain ⟨q1, q2, q3, q4⟩ := qg
    dsimp only at k1 k2
    have hlen : (T ++ t.1).length = T.length + szZ t := List.length_append
    have h3 := h1.r h2
    rw [if_neg (by rw [h2.2.2.1]; decide)]
    refine look_m hT1 h2 q2 (fun v hv' => ?_)
    by_cases g : c j = 63
    · rw [if_pos g] at k1 k2
      have hj' := in_n hT.1 (show 0 < c j by omega)
      have qg' := hG (j + 1) (by omega)
      rw [if_pos ((lkl hv' (k := 63) (m := 63) rfl (by decide) (by decide)).mpr g), h2.2.1, nI_1, rd_in, if_neg (by decide), h2.2.2.2.2.1, nar_s' (by omega)]
      refine ⟨hv, ?_⟩
      have h4 : QT σ0 (sI τ2 60 18 (nI (j + 1))) (j + 1) (T ++ t.1) Ls := h1.1.r (h2.s18 (j + 1))
      have h5 := h4.t (te := (T ++ t.1).length)
      have hT2 : Tp (sI (sI τ2 60 18 (nI (j + 1))) 76 (61 + Ls.length) (nI (T ++ t.1).length)) n c := (hT.m h4.1).s (Or.inl rfl)
      generalize hτ5 : sI (sI τ2 60 18 (nI (j + 1))) 76 (61 + Ls.length) (nI (T ++ t.1).length) = τ5 at h5 hT2 ⊢
      refine hE τ5 hT2 (j + 1) (T ++ t.1) τ5 _ (by omega) (by omega) h5.1.m (fun f hf τ6 h6 => ?_) (fun k a hk τ6 h6 => ?_)
      · rw [hf] at k1
        exact jbad τ1 τ6 f _ _ h1 τ5 h5.1.1 h6 (k1 f rfl)
      · rw [hk] at k2 qg'
        obtain ⟨r1, r2, r3, r4⟩ := qg'
        have hlen2 : (T ++ t.1 ++ a.1).length = T.length + szZ t + szZ a := by rw [List.length_append, hlen]; rfl
        refine jok τ6 k _ _ (h5.r h6) (by omega) (fun τ7 h7 => k2 k _ rfl τ7 ?_)
        have e2 : T ++ lstZ (some t, a) = T ++ t.1 ++ a.1 := (List.append_assoc _ _ _).symm
        have e3 : (lstZ (some t, a)).length = szZ t + szZ a := List.length_append
        rw [e2, e3, show T.length + (szZ t + szZ a) = (T ++ t.1 ++ a.1).length by omega, show tEz T.length (some t, a) = (T ++ t.1).length by rw [hlen]; rfl]
        exact h7
    · rw [if_neg g] at k2
      rw [if_neg (fun q => g ((lkl hv' (k := 63) (m := 63) rfl (by decide) (by decide)).mp q))]
      refine jok τ2 j _ _ h3 (by omega) (fun τ7 h7 => k2 j _ rfl τ7 ?_)
      show QT σ0 τ7 j (T ++ t.1) (Ls ++ [(T.length, T.length + szZ t)])
      rw [← hlen]
      exact h7
theorem text_l {σ0 : Sg} {n : Nat} {c : Nat → Nat} {J : Sg → Prop} (hT : Tp σ0 n c) : ∀ (m i : Nat) (T : StZ) (Ls : List (Nat × Nat)) (τ : Sg) (K1 : Sg → Prop), (∀ σ, w_X12_readText_l31 J m σ → K1 σ) → n < i + m → i ≤ n → T.length ≤ i → 2 * Ls.length ≤ i → QT σ0 τ i T Ls →
    (∀ f, txP n c m i = .inl f → ∀ τ', (QG σ0 τ' n f ∧ f ≤ n ∨ ∃ T' Ls', QT σ0 τ' f T' Ls' ∧ f < n) → J τ') → (∀ k ls, txP n c m i = .inr (k, ls) → ¬ k < n → k ≤ n → ∀ τ', QT σ0 τ' k (T ++ stps ls) (Ls ++ endsZ T.length ls) → J τ') → w_X12_line τ K1
  | 0, i, T, Ls, τ, K1, hK1, h1, h2, _, _, _, _, _ => by omega
  | m + 1, i, T, Ls, τ, K1, hK1, h1, h2, h3, h4, h, k1, k2 => by
    have hn := hT.1.1
    have hg := ln_gd hT.1 h2
    unfold txP at k1 k2
    refine line_m hT h2 h3 h4 h (fun f hf τ2 q => ?_) (fun j l hj τ2 q => ?_)
    · rw [hf] at k1
      have hf' := hg.1 f hf
      refine hK1 τ2 ?_
      rw [w_X12_readText_l31, if_pos (by rw [q.2.1]; exact nI_pos' (by omega))]
      exact k1 f rfl τ2 (Or.inl ⟨q, hf'.2⟩)
    · rw [hj] at k1 k2
      have hj' := hg.2 j l hj
      dsimp only at k1 k2
      have hlen : (T ++ lstZ l).length = T.length + (lstZ l).length := List.length_append
      have hlen2 : (Ls ++ [(tEz T.length l, T.length + (lstZ l).length)]).length = Ls.length + 1 := List.length_append
      refine hK1 τ2 ?_
      rw [w_X12_readText_l31, if_neg (by rw [q.2.1.2.1]; decide)]
      refine look_r (hT.m q.1) (MR.refl τ2) q.2.1.1 hj'.2.1 (fun v hv => ?_)
      by_cases g : c j = 59
      · rw [if_pos g] at k1 k2
        have hjn := in_n hT.1 (show 0 < c j by omega)
        rw [if_pos ((lkl hv (k := 59) (m := 59) rfl (by decide) (by decide)).mpr g), bd_eq, q.2.1.1, nI_1]
        refine text_l hT m (j + 1) (T ++ lstZ l) _ _ _ (fun σ q' => q') (by omega) (by omega) (by omega) (by omega) (q.r (q.m.s18 (j + 1))) (fun f hf τ3 q3 => ?_) (fun k ls hk p1 p2 τ3 q3 => ?_)
        · rw [hf] at k1
          exact k1 f rfl τ3 q3
        · rw [hk] at k2
          refine k2 k _ rfl p1 p2 τ3 ?_
          have e1 : T ++ stps (l :: ls) = T ++ lstZ l ++ stps ls := (List.append_assoc _ _ _).symm
          rw [e1, endsZ, List.append_cons]
          rw [hlen] at q3
          exact q3
      · rw [if_neg g] at k1 k2
        rw [if_neg (fun q' => g ((lkl hv (k := 59) (m := 59) rfl (by decide) (by decide)).mp q'))]
        by_cases g2 : j < n
        · rw [if_pos g2] at k1
          exact k1 j rfl τ2 (Or.inr ⟨_, _, q, g2⟩)
        · rw [if_neg g2] at k2
          refine k2 j [l] rfl g2 hj'.2.1 τ2 ?_
          have e1 : T ++ stps [l] = T ++ lstZ l := by
            show T ++ (lstZ l ++ []) = _
            rw [List.append_nil]
          rw [e1]
          exact q
/-! laying the text down -/
def okA (T : StZ) : Prop := ∀ x, x ∈ T → vp_nar .byte x.2.1 = x.2.1
theorem wf_okA {e : TreeZ} (h : wf e) : okA e.1 := by
  have lit : ∀ w, w < 128 → vp_nar .byte (nI w) = nI w := fun w hw => by
    rw [vp_nar_byte]
    exact (nar_b w (by omega)).1 hw
  refine h (fun e => okA e.1) (fun v _ x hx => ?_) (fun c _ x hx => ?_) (fun c e _ ih x hx => ?_) (fun c a b hc ia ib x hx => ?_)
  · rw [List.mem_singleton.mp hx]
    exact lit 1 (by decide)
  · rw [List.mem_singleton.mp hx]
    exact lit 2 (by decide)
  · rcases List.mem_append.mp hx with q | q
    · exact ih x q
    · rw [List.mem_singleton.mp q]
      show vp_nar .byte (if c = 33 then 3 else 4) = if c = 33 then 3 else 4
      split
      · exact lit 3 (by decide)
      · exact lit 4 (by decide)
  · rcases List.mem_append.mp hx with q | q
    · rcases List.mem_append.mp q with q | q
      · exact ia x q
      · exact ib x q
    · rw [List.mem_singleton.mp q]
      exact lit c (rk_128 hc)
theorem sg_get {f : Nat → Int32} : ∀ (L : List Int32) (s : Nat), sg1 f s L ↔ ∀ j, (h : j < L.length) → f (s + j) = L[j]
  | [], s => ⟨fun _ j h => absurd h (Nat.not_lt_zero _), fun _ => trivial⟩
  | x :: L, s => by
    show (f s = x ∧ sg1 f (s + 1) L) ↔ _
    rw [sg_get L (s + 1)]
    constructor
    · rintro ⟨h1, h2⟩ j hj
      cases j with
      | zero => exact h1
      | succ j =>
        rw [List.length_cons] at hj
        have := h2 j (by omega)
        rw [show s + 1 + j = s + (j + 1) by omega] at this
        exact this
    · intro h
      refine ⟨h 0 (by rw [List.length_cons]; omega), fun j hj => ?_⟩
      have := h (j + 1) (by rw [List.length_cons]; omega)
      rw [show s + (j + 1) = s + 1 + j by omega] at this
      exact this
/-- the text's steps and lines, as they lie for good -/
def FT (σ : Sg) (T : StZ) (Ls : List (Nat × Nat)) : Prop :=
  sg1 (σ.1 73) 0 (T.map (fun x => x.2.1)) ∧ sg1 (σ.1 74) 0 (T.map (fun x => x.2.2)) ∧ σ.1 75 0 = nI Ls.length ∧ sg1 (σ.1 76) 0 (Ls.map (fun x => nI x.1)) ∧ sg1 (σ.1 77) 0 (Ls.map (fun x => nI x.2))
/-- nothing but the reader's cells -/
def Fw (σ τ : Sg) : Prop := (∀ c, c ≠ 60 → c ≠ 73 → c ≠ 74 → c ≠ 75 → c ≠ 76 → c ≠ 77 → τ.1 c = σ.1 c) ∧ (∀ k, k ≠ 17 → k ≠ 18 → k ≠ 19 → k ≠ 20 → k ≠ 21 → τ.1 60 k = σ.1 60 k) ∧ τ.2 = σ.2
def FvZ (σ τ : Sg) : Prop := (∀ c, c ≠ 73 → c ≠ 74 → c ≠ 75 → c ≠ 76 → c ≠ 77 → τ.1 c = σ.1 c) ∧ τ.2 = σ.2
theorem FvZ.s {σ τ : Sg} {c k : Nat} {v : Int32} (h : FvZ σ τ) (hc : c = 73 ∨ c = 74 ∨ c = 75 ∨ c = 76 ∨ c = 77) : FvZ σ (sI τ c k v) :=
  ⟨fun x a2 a3 a4 a5 a6 => by rw [rd_ne (by omega)]; exact h.1 x a2 a3 a4 a5 a6, h.2⟩
theorem i130 {k : Nat} : ((130 : Int32) * (0 : Int32)) + nI k = nI k := by rw [show (130 : Int32) * 0 = nI 0 by decide, nI_add, Nat.zero_add]
theorem i61 {k : Nat} : ((61 : Int32) * (0 : Int32)) + nI k = nI k := by rw [show (61 : Int32) * 0 = nI 0 by decide, nI_add, Nat.zero_add]
theorem a130 {k : Nat} : (130 : Int32) + nI k = nI (130 + k) := by rw [show (130 : Int32) = nI 130 from rfl, nI_add]
theorem a61 {k : Nat} : (61 : Int32) + nI k = nI (61 + k) := by rw [show (61 : Int32) = nI 61 from rfl, nI_add]
theorem vp02 : vp_in (0 : Int32) 2 := by
  unfold vp_in
  decide
theorem lay1_l {T : StZ} {Ls : List (Nat × Nat)} {J : Sg → Prop} (hA : okA T) (hT : T.length ≤ 120) {σ0 : Sg} (hJ : ∀ τ, FvZ σ0 τ → τ.1 75 1 = nI Ls.length → sg1 (τ.1 76) 61 (Ls.map (fun x => nI x.1)) → sg1 (τ.1 77) 61 (Ls.map (fun x => nI x.2)) → sg1 (τ.1 73) 0 (T.map (fun x => x.2.1)) → sg1 (τ.1 74) 0 (T.map (fun x => x.2.2)) → J τ) : ∀ (d x : Nat) (τ : Sg), x + d = T.length → FvZ σ0 τ → τ.1 60 21 = nI T.length → τ.1 75 1 = nI Ls.length → sg1 (τ.1 76) 61 (Ls.map (fun x => nI x.1)) → sg1 (τ.1 77) 61 (Ls.map (fun x => nI x.2)) →
    sg1 (τ.1 73) 130 (T.map (fun x => x.2.1)) → sg1 (τ.1 74) 130 (T.map (fun x => x.2.2)) → (∀ j (h : j < T.length), j < x → τ.1 73 j = T[j].2.1 ∧ τ.1 74 j = T[j].2.2) → w_X12_readText_l105 (0 : Int32) J (d + 1) (nI x) τ
  | 0, x, τ, h1, hF, h21, h75, h76, h77, h73, h74, hD => by
    rw [w_X12_readText_l105, if_pos (by rw [h21]; exact (nI_leI (by omega) (by omega)).mpr (by omega))]
    refine hJ τ hF h75 h76 h77 ((sg_get _ _).mpr (fun j hj => ?_)) ((sg_get _ _).mpr (fun j hj => ?_))
    · rw [List.length_map] at hj
      rw [Nat.zero_add, (hD j hj (by omega)).1, List.getElem_map]
    · rw [List.length_map] at hj
      rw [Nat.zero_add, (hD j hj (by omega)).2, List.getElem_map]
  | d + 1, x, τ, h1, hF, h21, h75, h76, h77, h73, h74, hD => by
    have hx : x < T.length := by omega
    have e1 := (sg_get _ _).mp h73 x (by rw [List.length_map]; exact hx)
    have e2 := (sg_get _ _).mp h74 x (by rw [List.length_map]; exact hx)
    rw [List.getElem_map] at e1 e2
    rw [w_X12_readText_l105, if_neg (by rw [h21]; exact fun q => by have := (nI_leI (by omega) (by omega)).mp q; omega), i130, a130, cl_nI (by omega), cl_nI (by omega), e1, hA _ (List.getElem_mem hx)]
    refine ⟨vp_nI (by omega) (by decide), vp_nI (by omega) (by decide), ?_⟩
    rw [bd_eq, rd_ne (by decide), e2]
    refine ⟨vp_nI (by omega) (by decide), vp_nI (by omega) (by decide), ?_⟩
    rw [bd_eq, nI_1]
    refine lay1_l hA hT hJ d (x + 1) _ (by omega) ((hF.s (by omega)).s (by omega)) ?_ ?_ ?_ ?_ ?_ ?_ (fun j hj hjx => ?_)
    · rw [rd_ne (by decide), rd_ne (by decide)]; exact h21
    · rw [rd_ne (by decide), rd_ne (by decide)]; exact h75
    · rw [rd_ne (by decide), rd_ne (by decide)]; exact h76
    · rw [rd_ne (by decide), rd_ne (by decide)]; exact h77
    · rw [rd_ne (by decide)]
      exact sg_c _ _ (fun j q1 q2 => by rw [rd_in, if_neg (by omega)]) h73
    · exact sg_c _ _ (fun j q1 q2 => by rw [rd_in, if_neg (by omega), rd_ne (by decide)]) h74
    · rw [rd_ne (by decide), rd_in, rd_in, rd_ne (by decide)]
      by_cases g : j = x
      · subst g
        rw [if_pos rfl, if_pos rfl]
        exact ⟨rfl, rfl⟩
      · rw [if_neg g, if_neg g]
        exact hD j hj (by omega)
theorem lay2_l {Ls : List (Nat × Nat)} {T : StZ} {Q : Int32 → Sg → Prop} (hL : Ls.length ≤ 60) (hv : ∀ y, y ∈ Ls → y.1 < 200 ∧ y.2 < 200) {σ0 : Sg} (hQ : ∀ τ, FvZ σ0 τ → FT τ T Ls → Q (-1) τ) : ∀ (d x : Nat) (τ : Sg), x + d = Ls.length → FvZ σ0 τ → τ.1 75 0 = nI Ls.length → sg1 (τ.1 73) 0 (T.map (fun x => x.2.1)) → sg1 (τ.1 74) 0 (T.map (fun x => x.2.2)) →
    sg1 (τ.1 76) 61 (Ls.map (fun x => nI x.1)) → sg1 (τ.1 77) 61 (Ls.map (fun x => nI x.2)) → (∀ j (h : j < Ls.length), j < x → τ.1 76 j = nI Ls[j].1 ∧ τ.1 77 j = nI Ls[j].2) → w_X12_readText_l177 (0 : Int32) Q (d + 1) (nI x) τ
  | 0, x, τ, h1, hF, h75, h73, h74, h76, h77, hD => by
    rw [w_X12_readText_l177, show Int32.toNatClampNeg (0 : Int32) = 0 from rfl, h75, if_pos ((nI_leI (by omega) (by omega)).mpr (by omega))]
    refine ⟨vp02, hQ τ hF ⟨h73, h74, h75, (sg_get _ _).mpr (fun j hj => ?_), (sg_get _ _).mpr (fun j hj => ?_)⟩⟩
    · rw [List.length_map] at hj
      rw [Nat.zero_add, (hD j hj (by omega)).1, List.getElem_map]
    · rw [List.length_map] at hj
      rw [Nat.zero_add, (hD j hj (by omega)).2, List.getElem_map]
  | d + 1, x, τ, h1, hF, h75, h73, h74, h76, h77, hD => by
    have hx : x < Ls.length := by omega
    have e1 := (sg_get _ _).mp h76 x (by rw [List.length_map]; exact hx)
    have e2 := (sg_get _ _).mp h77 x (by rw [List.length_map]; exact hx)
    rw [List.getElem_map] at e1 e2
    have hb := hv _ (List.getElem_mem hx)
    rw [w_X12_readText_l177, show Int32.toNatClampNeg (0 : Int32) = 0 from rfl, h75, if_neg (fun q => by have := (nI_leI (by omega) (by omega)).mp q; omega), i61, a61, cl_nI (by omega), cl_nI (by omega), e1, vp_nar_short, nar_s2 _ hb.1]
    refine ⟨vp02, vp_nI (by omega) (by decide), vp_nI (by omega) (by decide), ?_⟩
    rw [bd_eq, rd_ne (by decide), e2, vp_nar_short, nar_s2 _ hb.2]
    refine ⟨vp_nI (by omega) (by decide), vp_nI (by omega) (by decide), ?_⟩
    rw [bd_eq, nI_1]
    refine lay2_l hL hv hQ d (x + 1) _ (by omega) ((hF.s (by omega)).s (by omega)) ?_ ?_ ?_ ?_ ?_ (fun j hj hjx => ?_)
    · rw [rd_ne (by decide), rd_ne (by decide)]; exact h75
    · rw [rd_ne (by decide), rd_ne (by decide)]; exact h73
    · rw [rd_ne (by decide), rd_ne (by decide)]; exact h74
    · rw [rd_ne (by decide)]
      exact sg_c _ _ (fun j q1 q2 => by rw [rd_in, if_neg (by omega)]) h76
    · exact sg_c _ _ (fun j q1 q2 => by rw [rd_in, if_neg (by omega), rd_ne (by decide)]) h77
    · rw [rd_ne (by decide), rd_in, rd_in, rd_ne (by decide)]
      by_cases g : j = x
      · subst g
        rw [if_pos rfl, if_pos rfl]
        exact ⟨rfl, rfl⟩
      · rw [if_neg g, if_neg g]
        exact hD j hj (by omega)
/-! what the trees of a text are -/
def okL : Option TreeZ × TreeZ → Prop
  | (none, a) => wf a
  | (some t, a) => wf t ∧ wf a
theorem ln_ok {n : Nat} {c : Nat → Nat} (ht : txtZ n c) {i j : Nat} {l : Option TreeZ × TreeZ} (hi : i ≤ n) (h : lnP c i = .inr (j, l)) : okL l := by
  have hG := ei_gd ht (fun i hi => op_gd ht 8 0 i hi)
  have qg := hG i hi
  unfold lnP at h
  cases e : eiP c (opP c 8 0) i with
  | inl f => rw [e] at h; cases h
  | inr jj =>
    obtain ⟨j1, t⟩ := jj
    rw [e] at h qg
    obtain ⟨q1, q2, q3, q4⟩ := qg
    dsimp only at h
    by_cases g : c j1 = 63
    · rw [if_pos g] at h
      have hj := in_n ht (show 0 < c j1 by omega)
      have qg' := hG (j1 + 1) (by omega)
      cases e' : eiP c (opP c 8 0) (j1 + 1) with
      | inl f => rw [e'] at h; cases h
      | inr kk =>
        obtain ⟨k, a⟩ := kk
        rw [e'] at h qg'
        cases h
        exact ⟨q3, qg'.2.2.1⟩
    · rw [if_neg g] at h
      cases h
      exact q3
theorem tx_ok {n : Nat} {c : Nat → Nat} (ht : txtZ n c) : ∀ (m i : Nat), i ≤ n → (∀ f, txP n c m i = .inl f → f ≤ n) ∧ ∀ k ls, txP n c m i = .inr (k, ls) → i ≤ k ∧ k ≤ n ∧ ¬ k < n ∧ (∀ l, l ∈ ls → okL l) ∧ (stps ls).length ≤ k - i ∧ 2 * ls.length ≤ k - i + 1
  | 0, i, hi => ⟨fun f h => (by cases h; exact hi), fun k ls h => by cases h⟩
  | m + 1, i, hi => by
    have hg := ln_gd ht hi
    unfold txP
    cases e : lnP c i with
    | inl f => exact ⟨fun f' h => (by cases h; exact (hg.1 f e).2), fun k ls h => by cases h⟩
    | inr jj =>
      obtain ⟨j, l⟩ := jj
      have hj := hg.2 j l e
      have hl := ln_ok ht hi e
      dsimp only
      by_cases g : c j = 59
      · rw [if_pos g]
        have hjn := in_n ht (show 0 < c j by omega)
        have ih := tx_ok ht m (j + 1) (by omega)
        cases e2 : txP n c m (j + 1) with
        | inl f => exact ⟨fun f' h => (by cases h; exact ih.1 f e2), fun k ls h => by cases h⟩
        | inr kk =>
          obtain ⟨k, ls⟩ := kk
          obtain ⟨r1, r2, r3, r4, r5, r6⟩ := ih.2 k ls e2
          refine ⟨fun f' h => (by cases h), fun k' ls' h => ?_⟩
          cases h
          refine ⟨by omega, r2, r3, fun l' hl' => ?_, ?_, ?_⟩
          · rcases List.mem_cons.mp hl' with rfl | q
            · exact hl
            · exact r4 l' q
          · show (lstZ l ++ stps ls).length ≤ _
            rw [List.length_append]
            omega
          · rw [List.length_cons]
            omega
      · rw [if_neg g]
        by_cases g2 : j < n
        · rw [if_pos g2]
          exact ⟨fun f' h => (by cases h; omega), fun k ls h => by cases h⟩
        · rw [if_neg g2]
          refine ⟨fun f' h => (by cases h), fun k' ls' h => ?_⟩
          cases h
          refine ⟨by omega, hj.2.1, g2, fun l' hl' => ?_, ?_, ?_⟩
          · rw [List.mem_singleton.mp hl']
            exact hl
          · show (lstZ l ++ []).length ≤ _
            rw [List.append_nil]
            omega
          · rw [List.length_cons, List.length_nil]
            omega
theorem okA_stps : ∀ (ls : List (Option TreeZ × TreeZ)), (∀ l, l ∈ ls → okL l) → okA (stps ls)
  | [], _ => fun x hx => by cases hx
  | l :: ls, h => by
    intro x hx
    rcases List.mem_append.mp hx with q | q
    · have hl := h l List.mem_cons_self
      obtain ⟨t, a⟩ := l
      cases t with
      | none => exact wf_okA hl x q
      | some t =>
        rcases List.mem_append.mp q with q | q
        · exact wf_okA hl.1 x q
        · exact wf_okA hl.2 x q
    · exact okA_stps ls (fun l' hl' => h l' (List.mem_cons_of_mem _ hl')) x q
theorem ends_len : ∀ (o : Nat) (ls : List (Option TreeZ × TreeZ)), (endsZ o ls).length = ls.length
  | _, [] => rfl
  | o, l :: ls => by
    rw [endsZ, List.length_cons, List.length_cons, ends_len]
theorem tE_le {o : Nat} {l : Option TreeZ × TreeZ} : tEz o l ≤ o + (lstZ l).length := by
  obtain ⟨t, a⟩ := l
  cases t with
  | none => exact Nat.le_add_right _ _
  | some t =>
    have : (lstZ (some t, a)).length = szZ t + szZ a := List.length_append
    rw [this]
    show o + szZ t ≤ _
    omega
theorem ends_le : ∀ (o : Nat) (ls : List (Option TreeZ × TreeZ)) (y : Nat × Nat), y ∈ endsZ o ls → y.1 ≤ o + (stps ls).length ∧ y.2 ≤ o + (stps ls).length
  | o, [], y, h => by cases h
  | o, l :: ls, y, h => by
    have e : (stps (l :: ls)).length = (lstZ l).length + (stps ls).length := List.length_append
    have := tE_le (o := o) (l := l)
    rw [e]
    rcases List.mem_cons.mp h with rfl | q
    · exact ⟨by omega, by omega⟩
    · have := ends_le _ ls y q
      omega
theorem text_m {σ : Sg} {n : Nat} {c : Nat → Nat} {Q : Int32 → Sg → Prop} (hT : Tp σ n c) (k1 : ∀ f, txP n c 121 0 = .inl f → f ≤ n → ∀ τ, Fw σ τ → sameLaw σ τ → τ.1 60 17 = nI 0 → Q (nI f) τ) (k2 : ∀ k ls, txP n c 121 0 = .inr (k, ls) → ∀ τ, Fw σ τ → FT τ (stps ls) (endsZ 0 ls) → τ.1 60 17 = nI 0 → Q (-1) τ) : w_X12_readText (0 : Int32) σ Q := by
  have hn := hT.1.1
  have ho := tx_ok hT.1 121 0 (by omega)
  unfold w_X12_readText
  simp only [bd_eq]
  rw [show Int32.toNatClampNeg (1 : Int32) = 1 from rfl, show Int32.toNatClampNeg (0 : Int32) = 0 from rfl]
  have hmt : MT σ (sI (sI (sI (sI (sI σ 60 18 (0 : Int32)) 60 19 (-1 : Int32)) 60 20 (0 : Int32)) 60 21 (0 : Int32)) 75 1 (0 : Int32)) := (((((MT.refl σ).s60 (by omega)).s60 (by omega)).s60 (by omega)).s60 (by omega)).s7 (by omega)
  have hq : QT σ (sI (sI (sI (sI (sI σ 60 18 (0 : Int32)) 60 19 (-1 : Int32)) 60 20 (0 : Int32)) 60 21 (0 : Int32)) 75 1 (0 : Int32)) 0 [] [] := by
    refine ⟨hmt, ⟨?_, ?_, ?_, ?_, trivial, trivial⟩, ?_, trivial, trivial⟩
    all_goals simp [rd_in, rd_ne]
    all_goals rfl
  have fin : ∀ τ, MT σ τ → Fw σ (sI τ 60 17 (0 : Int32)) ∧ sameLaw σ (sI τ 60 17 (0 : Int32)) := by
    rintro τ ⟨h1, h2, h3, h4, h5, h6⟩
    refine ⟨⟨fun c a1 a2 a3 a4 a5 a6 => by rw [rd_ne a1]; exact h1 c a1 a2 a3 a4 a5 a6, fun k a0 a1 a2 a3 a4 => by rw [rd_in, if_neg a0]; exact h2 k a1 a2 a3 a4, h6⟩, fun j hj => ?_, ?_, fun j hj => ?_, ?_⟩
    · rw [rd_ne (by decide), rd_ne (by decide)]; exact h3 j hj
    · rw [rd_ne (by decide)]; exact h4
    · rw [rd_ne (by decide), rd_ne (by decide)]; exact h5 j hj
    · rw [rd_in, if_neg (by decide)]; exact h2 29 (by decide) (by decide) (by decide) (by decide)
  refine text_l (σ0 := σ) hT 121 0 [] [] _ _ (fun ρ q => ⟨121, q⟩) (by omega) (by omega) (Nat.le_refl _) (Nat.le_refl _) hq (fun f hf τ h => ?_) (fun k ls hk p1 p2 τ h => ?_)
  · have hfn := ho.1 f hf
    have bad : ∀ (τ : Sg) (A : Prop), QG σ τ n f → (if ((sI τ 60 17 (0 : Int32)).1 60 19) < 0 then A else (Q ((sI τ 60 17 (0 : Int32)).1 60 19) (sI τ 60 17 (0 : Int32)))) := by
      intro τ A q
      have e : (sI τ 60 17 (0 : Int32)).1 60 19 = nI f := by rw [rd_in, if_neg (by decide)]; exact q.2.1
      rw [e, if_neg (nI_pos (by omega))]
      exact k1 f hf hfn _ (fin τ q.1).1 (fin τ q.1).2 (by rw [rd_in, if_pos rfl]; rfl)
    rcases h with ⟨q, _⟩ | ⟨T', Ls', q, q2⟩
    · rw [if_pos (by rw [q.2.1]; exact nI_pos' (by omega))]
      exact bad τ _ q
    · rw [if_neg (by rw [q.2.1.2.1]; decide), q.1.2.1 17 (by decide) (by decide) (by decide) (by decide), hT.2.2.1, q.2.1.1, if_neg (fun w => by have := (nI_leI (by omega) (by omega)).mp w; omega)]
      exact wrongZ_m (n := n) q.m (by omega) (fun τ2 h2 => bad τ2 _ ⟨q.1.r h2.1, h2.2.1, h2.2.2.1⟩)
  · rw [List.nil_append, List.nil_append, List.length_nil] at h
    obtain ⟨r1, r2, r3, r4, r5, r6⟩ := ho.2 k ls hk
    obtain ⟨m1, ⟨m2, m3, m4, m5, m6, m7⟩, m8, m9, m10⟩ := id h
    have e : (sI τ 60 17 (0 : Int32)).1 60 19 = -1 := by rw [rd_in, if_neg (by decide)]; exact m3
    rw [if_neg (by rw [m3]; decide), m1.2.1 17 (by decide) (by decide) (by decide) (by decide), hT.2.2.1, m2, if_pos ((nI_leI (by omega) (by omega)).mpr (by omega)), e, if_pos (by decide)]
    have el := ends_len 0 ls
    have fv : ∀ τ2, FvZ (sI τ 60 17 (0 : Int32)) τ2 → Fw σ τ2 ∧ τ2.1 60 17 = nI 0 := by
      intro τ2 v
      have w := (fin τ m1).1
      have e60 := v.1 60 (by decide) (by decide) (by decide) (by decide) (by decide)
      exact ⟨⟨fun c a1 a2 a3 a4 a5 a6 => (v.1 c a2 a3 a4 a5 a6).trans (w.1 c a1 a2 a3 a4 a5 a6), fun k a0 a1 a2 a3 a4 => by rw [e60]; exact w.2.1 k a0 a1 a2 a3 a4, v.2.trans w.2.2⟩, by rw [e60, rd_in, if_pos rfl]; rfl⟩
    refine ⟨(stps ls).length + 1, lay1_l (Ls := endsZ 0 ls) (σ0 := sI τ 60 17 (0 : Int32)) (okA_stps ls r4) (by omega) (fun τ2 f1 f2 f3 f4 f5 f6 => ⟨vp02, (endsZ 0 ls).length + 1, ?lay2⟩) (stps ls).length 0 _ (by omega) ⟨fun _ _ _ _ _ _ => rfl, rfl⟩ ?_ ?_ ?_ ?_ ?_ ?_ (fun j _ hj => absurd hj (Nat.not_lt_zero _))⟩
    case lay2 =>
      refine lay2_l (T := stps ls) (σ0 := sI τ 60 17 (0 : Int32)) (by omega) (fun y hy => ?_) (fun τ3 g1 g2 => k2 k ls hk τ3 (fv τ3 g1).1 g2 (fv τ3 g1).2) (endsZ 0 ls).length 0 _ (by omega) (f1.s (by omega)) ?_ ?_ ?_ ?_ ?_ (fun j _ hj => absurd hj (Nat.not_lt_zero _))
      · have := ends_le 0 ls y hy
        omega
      · rw [rd_in, if_pos rfl]; exact f2
      · rw [rd_ne (by decide)]; exact f5
      · rw [rd_ne (by decide)]; exact f6
      · rw [rd_ne (by decide)]; exact f3
      · rw [rd_ne (by decide)]; exact f4
    · rw [rd_in, if_neg (by decide)]; exact m5
    · rw [rd_ne (by decide)]; exact m8
    · rw [rd_ne (by decide)]; exact m9
    · rw [rd_ne (by decide)]; exact m10
    · rw [rd_ne (by decide)]; exact m6
    · rw [rd_ne (by decide)]; exact m7
