/-! acts on the reference's side -/
def fac (kd s : Nat) (x : Int32) : Int32 × List Nat := if upF 8 kd 1 = true then (x + nI s + 3, [20, 1]) else if kd = 7 then ((x + nI s) * 2 - 1, [81, 70, 1]) else if kd = 6 then ((x + nI s) * 2, [70, 1]) else (x + nI s, [1])
def pdr (kd s : Nat) (x : Int32) : Int32 × List Nat := ((fac kd s x).1 * 2, 10 :: (fac kd s x).2)
def bdr (kd s : Nat) (x : Int32) : Int32 × List Nat := (-(pdr kd s x).1, 30 :: (pdr kd s x).2)
def wee (kd s : Nat) (x : Int32) : Int32 × List Nat := if kd = 5 then ((x ^^^ nI s) * 3 - (fac kd s 2).1, 60 :: ([40, 11] ++ (fac kd s 2).2)) else if kd = 3 then ((x ^^^ nI s) * 3, [40, 11]) else (x ^^^ nI s, [11])
def drv (kd s : Nat) (x : Int32) : Int32 × List Nat := if upF 8 kd 3 = true then ((bdr kd s (x + 1)).1, 41 :: (bdr kd s (x + 1)).2) else if kd = 7 then ((pdr kd s x).1 + (wee kd s 2).1, 80 :: ((pdr kd s x).2 ++ (wee kd s 2).2)) else if kd = 2 then bdr kd s x else pdr kd s x
def ptl (kd s : Nat) (x : Int32) : Int32 × List Nat := ((drv kd s x).1 - (wee kd s 1).1, 2 :: ((drv kd s x).2 ++ (wee kd s 1).2))
def tel (kd s : Nat) (x : Int32) : Int32 × List Nat := if kd = 4 then ((ptl kd s x).1 ^^^ 5, 50 :: (ptl kd s x).2) else if kd = 5 then ((ptl kd s x).1 + 1, 61 :: (ptl kd s x).2) else ptl kd s x
theorem k8 {kd : Nat} (h : kd < 8) : kd = 0 ∨ kd = 1 ∨ kd = 2 ∨ kd = 3 ∨ kd = 4 ∨ kd = 5 ∨ kd = 6 ∨ kd = 7 := by omega
theorem ru_fac {s kd : Nat} (h : kd < 8) (x : Int32) : ru s kd 12 kd 0 x = some (fac kd s x) ∧ (fac kd s x).2.length ≤ 3 := by
  rcases k8 h with rfl | rfl | rfl | rfl | rfl | rfl | rfl | rfl <;> exact ⟨rfl, Nat.le_of_ble_eq_true rfl⟩
theorem ru_drv {s kd : Nat} (h : kd < 8) (x : Int32) : ru s kd 12 kd 1 x = some (drv kd s x) ∧ (drv kd s x).2.length ≤ 8 := by
  rcases k8 h with rfl | rfl | rfl | rfl | rfl | rfl | rfl | rfl <;> exact ⟨rfl, Nat.le_of_ble_eq_true rfl⟩
theorem ru_wee {s kd : Nat} (h : kd < 8) (x : Int32) : ru s kd 12 kd 2 x = some (wee kd s x) ∧ (wee kd s x).2.length ≤ 8 := by
  rcases k8 h with rfl | rfl | rfl | rfl | rfl | rfl | rfl | rfl <;> exact ⟨rfl, Nat.le_of_ble_eq_true rfl⟩
theorem ru_tel {s kd : Nat} (h : kd < 8) (x : Int32) : ru s kd 12 kd 3 x = some (tel kd s x) ∧ (tel kd s x).2.length ≤ 20 := by
  rcases k8 h with rfl | rfl | rfl | rfl | rfl | rfl | rfl | rfl <;> exact ⟨rfl, Nat.le_of_ble_eq_true rfl⟩
def FbM (σ σ' : Sg) : Prop := (∀ c, c ≠ 60 → c ≠ 90 → σ'.1 c = σ.1 c) ∧ (∀ i, i ≠ 49 → σ'.1 60 i = σ.1 60 i) ∧ σ'.2 = σ.2
theorem FbM.refl (σ : Sg) : FbM σ σ := ⟨fun _ _ _ => rfl, fun _ _ => rfl, rfl⟩
theorem FbM.trans {a b c : Sg} (h1 : FbM a b) (h2 : FbM b c) : FbM a c := ⟨fun x h h' => (h2.1 x h h').trans (h1.1 x h h'), fun x h => (h2.2.1 x h).trans (h1.2.1 x h), h2.2.2.trans h1.2.2⟩
def TM (σ : Sg) (a : (Nat → Int32) × Nat) : Prop := σ.1 90 = a.1 ∧ σ.1 60 49 = nI a.2 ∧ a.2 ≤ 1000
def KM (σ : Sg) (s kd : Nat) : Prop := s < 50 ∧ kd < 8 ∧ σ.1 89 s = nI kd
theorem KM.f {σ σ' : Sg} {s kd : Nat} (h : KM σ s kd) (f : FbM σ σ') : KM σ' s kd := ⟨h.1, h.2.1, by rw [f.1 89 (by decide) (by decide)]; exact h.2.2⟩
theorem ran_m {b : Nat} {a : (Nat → Int32) × Nat} {σ : Sg} {Q : Sg → Prop} (hT : TM σ a) (ha : a.2 < 1000) (hQ : ∀ σ', FbM σ σ' → TM σ' (ph a b) → Q σ') : w_X12_ran (nI b) σ Q := by
  obtain ⟨t1, t2, t3'⟩ := hT
  unfold w_X12_ran
  rw [bd_eq, t2]
  by_cases g : a.2 < 24
  · rw [if_neg (show ¬ (24 : Int32) ≤ nI a.2 from nI_ge (b := 24) g (by decide)), cl_nI (by omega), bd_eq]
    refine ⟨vp_nI g (by decide), ?_⟩
    dsimp only
    rw [bd_eq, rd_ne (show 60 ≠ 90 by decide), t2, nI_1]
    refine hQ _ ⟨fun c h1 h2 => by rw [rd_ne h1, rd_ne h2], fun i hi => by rw [rd_in, if_neg hi, rd_ne (by decide)], rfl⟩ ⟨?_, ?_, ?_⟩
    · rw [rd_ne (by decide), rd_fn, t1]
      unfold ph
      rw [if_pos g]
    · rw [rd_in, if_pos rfl]; rfl
    · show a.2 + 1 ≤ 1000; omega
  · rw [if_pos (show (24 : Int32) ≤ nI a.2 from nI_le (a := 24) (by omega) (by omega))]
    dsimp only
    rw [bd_eq, t2, nI_1]
    refine hQ _ ⟨fun c h1 h2 => by rw [rd_ne h1], fun i hi => by rw [rd_in, if_neg hi], rfl⟩ ⟨?_, ?_, ?_⟩
    · rw [rd_ne (by decide), t1]
      unfold ph
      rw [if_neg g]
    · rw [rd_in, if_pos rfl]; rfl
    · show a.2 + 1 ≤ 1000; omega
theorem pf_m {s : Nat} {x : Int32} {a : (Nat → Int32) × Nat} {σ : Sg} {Q : Int32 → Sg → Prop} (hT : TM σ a) (ha : a.2 < 1000) (hQ : ∀ σ', FbM σ σ' → TM σ' (ph a 1) → Q (x + nI s) σ') : w_X12_plainFaces (nI s) x σ Q := ran_m (b := 1) hT ha hQ
theorem lf_m {s : Nat} {x : Int32} {a : (Nat → Int32) × Nat} {σ : Sg} {Q : Int32 → Sg → Prop} (hT : TM σ a) (ha : a.2 + 2 ≤ 1000) (hQ : ∀ σ', FbM σ σ' → TM σ' (phs a [70, 1]) → Q ((x + nI s) * 2) σ') : w_X12_ludlowFaces (nI s) x σ Q :=
  ran_m (b := 70) hT (by omega) (fun σ1 f1 t1 => pf_m t1 (by show a.2 + 1 < 1000; omega) (fun σ2 f2 t2 => hQ σ2 (f1.trans f2) t2))
theorem fac_m {kd s : Nat} {x : Int32} {a : (Nat → Int32) × Nat} {σ : Sg} {Q : Int32 → Sg → Prop} (hk : KM σ s kd) (hT : TM σ a) (hl : a.2 + 3 ≤ 1000) (hQ : ∀ σ', FbM σ σ' → TM σ' (phs a (fac kd s x).2) → Q (fac kd s x).1 σ') : w_X12_facing (nI s) x σ Q := by
  obtain ⟨k1, k2, k3⟩ := hk
  have hv : vp_in (nI s) 50 := vp_nI k1 (by decide)
  unfold w_X12_facing
  rw [cl_nI (by omega), k3]
  refine ⟨hv, ?_⟩
  rw [show (1 : Int32) = nI 1 from rfl, isu_m k2 (by decide)]
  unfold fac at hQ
  by_cases g : upF 8 kd 1 = true
  · rw [if_pos g] at hQ
    rw [if_pos g, if_neg one_ne]
    exact ran_m (b := 20) hT (by omega) (fun σ1 f1 t1 => pf_m t1 (by show a.2 + 1 < 1000; omega) (fun σ2 f2 t2 => hQ σ2 (f1.trans f2) t2))
  · rw [if_neg g] at hQ
    rw [if_neg g, if_pos rfl, k3]
    refine ⟨hv, ?_⟩
    by_cases g7 : kd = 7
    · rw [if_pos g7] at hQ
      rw [if_pos (by rw [g7]; rfl)]
      exact ran_m (b := 81) hT (by omega) (fun σ1 f1 t1 => lf_m t1 (by show a.2 + 1 + 2 ≤ 1000; omega) (fun σ2 f2 t2 => hQ σ2 (f1.trans f2) t2))
    · rw [if_neg g7] at hQ
      rw [if_neg (show ¬ nI kd = 7 from fun q => g7 (nI_inj (b := 7) (by omega) (by decide) q))]
      refine ⟨hv, ?_⟩
      by_cases g6 : kd = 6
      · rw [if_pos g6] at hQ
        rw [if_pos (by rw [g6]; rfl)]
        exact lf_m hT (by omega) hQ
      · rw [if_neg g6] at hQ
        rw [if_neg (show ¬ nI kd = 6 from fun q => g6 (nI_inj (b := 6) (by omega) (by decide) q))]
        exact pf_m hT (by omega) hQ
theorem pdr_m {kd s : Nat} {x : Int32} {a : (Nat → Int32) × Nat} {σ : Sg} {Q : Int32 → Sg → Prop} (hk : KM σ s kd) (hT : TM σ a) (hl : a.2 + 4 ≤ 1000) (hQ : ∀ σ', FbM σ σ' → TM σ' (phs a (pdr kd s x).2) → Q (pdr kd s x).1 σ') : w_X12_plainDrives (nI s) x σ Q :=
  ran_m (b := 10) hT (by omega) (fun σ1 f1 t1 => fac_m (hk.f f1) t1 (by show a.2 + 1 + 3 ≤ 1000; omega) (fun σ2 f2 t2 => hQ σ2 (f1.trans f2) t2))
theorem bdr_m {kd s : Nat} {x : Int32} {a : (Nat → Int32) × Nat} {σ : Sg} {Q : Int32 → Sg → Prop} (hk : KM σ s kd) (hT : TM σ a) (hl : a.2 + 5 ≤ 1000) (hQ : ∀ σ', FbM σ σ' → TM σ' (phs a (bdr kd s x).2) → Q (bdr kd s x).1 σ') : w_X12_buddDrives (nI s) x σ Q :=
  ran_m (b := 30) hT (by omega) (fun σ1 f1 t1 => pdr_m (hk.f f1) t1 (by show a.2 + 1 + 4 ≤ 1000; omega) (fun σ2 f2 t2 => hQ σ2 (f1.trans f2) t2))
theorem fw_m {s : Nat} {x : Int32} {a : (Nat → Int32) × Nat} {σ : Sg} {Q : Int32 → Sg → Prop} (hT : TM σ a) (hl : a.2 + 2 ≤ 1000) (hQ : ∀ σ', FbM σ σ' → TM σ' (phs a [40, 11]) → Q ((x ^^^ nI s) * 3) σ') : w_X12_farmWeeps (nI s) x σ Q :=
  ran_m (b := 40) hT (by omega) (fun σ1 f1 t1 => ran_m (b := 11) t1 (by show a.2 + 1 < 1000; omega) (fun σ2 f2 t2 => hQ σ2 (f1.trans f2) t2))
theorem wee_m {kd s : Nat} {x : Int32} {a : (Nat → Int32) × Nat} {σ : Sg} {Q : Int32 → Sg → Prop} (hk : KM σ s kd) (hT : TM σ a) (hl : a.2 + 8 ≤ 1000) (hQ : ∀ σ', FbM σ σ' → TM σ' (phs a (wee kd s x).2) → Q (wee kd s x).1 σ') : w_X12_weeping (nI s) x σ Q := by
  obtain ⟨k1, k2, k3⟩ := id hk
  have hv : vp_in (nI s) 50 := vp_nI k1 (by decide)
  unfold w_X12_weeping
  rw [cl_nI (by omega), k3]
  refine ⟨hv, ?_⟩
  unfold wee at hQ
  by_cases g5 : kd = 5
  · rw [if_pos g5] at hQ
    rw [if_pos (by rw [g5]; rfl)]
    refine ran_m (b := 60) hT (by omega) (fun σ1 f1 t1 => fw_m t1 (by show a.2 + 1 + 2 ≤ 1000; omega) (fun σ2 f2 t2 => fac_m (x := 2) (hk.f (f1.trans f2)) t2 (by rw [phs_2]; show a.2 + 1 + 2 + 3 ≤ 1000; omega) (fun σ3 f3 t3' => hQ σ3 (f1.trans (f2.trans f3)) ?_)))
    show TM σ3 (phs (ph a 60) ([40, 11] ++ (fac kd s 2).2))
    rw [phs_app]
    exact t3'
  · rw [if_neg g5] at hQ
    rw [if_neg (show ¬ nI kd = 5 from fun q => g5 (nI_inj (b := 5) (by omega) (by decide) q))]
    refine ⟨hv, ?_⟩
    by_cases g3 : kd = 3
    · rw [if_pos g3] at hQ
      rw [if_pos (by rw [g3]; rfl)]
      exact fw_m hT (by omega) hQ
    · rw [if_neg g3] at hQ
      rw [if_neg (show ¬ nI kd = 3 from fun q => g3 (nI_inj (b := 3) (by omega) (by decide) q))]
      exact ran_m (b := 11) hT (by omega) hQ
theorem drv_m {kd s : Nat} {x : Int32} {a : (Nat → Int32) × Nat} {σ : Sg} {Q : Int32 → Sg → Prop} (hk : KM σ s kd) (hT : TM σ a) (hl : a.2 + 20 ≤ 1000) (hQ : ∀ σ', FbM σ σ' → TM σ' (phs a (drv kd s x).2) → Q (drv kd s x).1 σ') : w_X12_driving (nI s) x σ Q := by
  obtain ⟨k1, k2, k3⟩ := id hk
  have hv : vp_in (nI s) 50 := vp_nI k1 (by decide)
  have hfl := (ru_fac (s := s) k2 x).2
  unfold w_X12_driving
  rw [cl_nI (by omega), k3]
  refine ⟨hv, ?_⟩
  rw [show (3 : Int32) = nI 3 from rfl, isu_m k2 (by decide)]
  unfold drv at hQ
  by_cases g : upF 8 kd 3 = true
  · rw [if_pos g] at hQ
    rw [if_pos g, if_neg one_ne]
    exact ran_m (b := 41) hT (by omega) (fun σ1 f1 t1 => bdr_m (hk.f f1) t1 (by show a.2 + 1 + 5 ≤ 1000; omega) (fun σ2 f2 t2 => hQ σ2 (f1.trans f2) t2))
  · rw [if_neg g] at hQ
    rw [if_neg g, if_pos rfl, k3]
    refine ⟨hv, ?_⟩
    by_cases g7 : kd = 7
    · rw [if_pos g7] at hQ
      rw [if_pos (by rw [g7]; rfl)]
      refine ran_m (b := 80) hT (by omega) (fun σ1 f1 t1 => pdr_m (hk.f f1) t1 (by show a.2 + 1 + 4 ≤ 1000; omega) (fun σ2 f2 t2 => wee_m (x := 2) (hk.f (f1.trans f2)) t2 ?_ (fun σ3 f3 t3' => hQ σ3 (f1.trans (f2.trans f3)) ?_)))
      · rw [phs_2]
        show a.2 + 1 + ((fac kd s x).2.length + 1) + 8 ≤ 1000
        omega
      · show TM σ3 (phs (ph a 80) ((pdr kd s x).2 ++ (wee kd s 2).2))
        rw [phs_app]
        exact t3'
    · rw [if_neg g7] at hQ
      rw [if_neg (show ¬ nI kd = 7 from fun q => g7 (nI_inj (b := 7) (by omega) (by decide) q))]
      refine ⟨hv, ?_⟩
      by_cases g2 : kd = 2
      · rw [if_pos g2] at hQ
        rw [if_pos (by rw [g2]; rfl)]
        exact bdr_m hk hT (by omega) hQ
      · rw [if_neg g2] at hQ
        rw [if_neg (show ¬ nI kd = 2 from fun q => g2 (nI_inj (b := 2) (by omega) (by decide) q))]
        exact pdr_m hk hT (by omega) hQ
theorem ptl_m {kd s : Nat} {x : Int32} {a : (Nat → Int32) × Nat} {σ : Sg} {Q : Int32 → Sg → Prop} (hk : KM σ s kd) (hT : TM σ a) (hl : a.2 + 40 ≤ 1000) (hQ : ∀ σ', FbM σ σ' → TM σ' (phs a (ptl kd s x).2) → Q (ptl kd s x).1 σ') : w_X12_plainTells (nI s) x σ Q := by
  have hdl := (ru_drv (s := s) hk.2.1 x).2
  refine ran_m (b := 2) hT (by omega) (fun σ1 f1 t1 => drv_m (hk.f f1) t1 (by show a.2 + 1 + 20 ≤ 1000; omega) (fun σ2 f2 t2 => wee_m (x := 1) (hk.f (f1.trans f2)) t2 ?_ (fun σ3 f3 t3' => hQ σ3 (f1.trans (f2.trans f3)) ?_)))
  · rw [phs_2]
    show a.2 + 1 + (drv kd s x).2.length + 8 ≤ 1000
    omega
  · show TM σ3 (phs (ph a 2) ((drv kd s x).2 ++ (wee kd s 1).2))
    rw [phs_app]
    exact t3'
theorem tel_m {kd s : Nat} {x : Int32} {a : (Nat → Int32) × Nat} {σ : Sg} {Q : Int32 → Sg → Prop} (hk : KM σ s kd) (hT : TM σ a) (hl : a.2 + 50 ≤ 1000) (hQ : ∀ σ', FbM σ σ' → TM σ' (phs a (tel kd s x).2) → Q (tel kd s x).1 σ') : w_X12_telling (nI s) x σ Q := by
  obtain ⟨k1, k2, k3⟩ := id hk
  have hv : vp_in (nI s) 50 := vp_nI k1 (by decide)
  unfold w_X12_telling
  rw [cl_nI (by omega), k3]
  refine ⟨hv, ?_⟩
  unfold tel at hQ
  by_cases g4 : kd = 4
  · rw [if_pos g4] at hQ
    rw [if_pos (by rw [g4]; rfl)]
    exact ran_m (b := 50) hT (by omega) (fun σ1 f1 t1 => ptl_m (hk.f f1) t1 (by show a.2 + 1 + 40 ≤ 1000; omega) (fun σ2 f2 t2 => hQ σ2 (f1.trans f2) t2))
  · rw [if_neg g4] at hQ
    rw [if_neg (show ¬ nI kd = 4 from fun q => g4 (nI_inj (b := 4) (by omega) (by decide) q))]
    refine ⟨hv, ?_⟩
    by_cases g5 : kd = 5
    · rw [if_pos g5] at hQ
      rw [if_pos (by rw [g5]; rfl)]
      exact ran_m (b := 61) hT (by omega) (fun σ1 f1 t1 => ptl_m (hk.f f1) t1 (by show a.2 + 1 + 40 ≤ 1000; omega) (fun σ2 f2 t2 => hQ σ2 (f1.trans f2) t2))
    · rw [if_neg g5] at hQ
      rw [if_neg (show ¬ nI kd = 5 from fun q => g5 (nI_inj (b := 5) (by omega) (by decide) q))]
      exact ptl_m hk hT (by omega) hQ
theorem Inv_act {N : Nat} {σ : Sg} (hI : Inv N σ) {σ' : Sg} {a : (Nat → Int32) × Nat} (e : ∀ c, c ≠ 57 → c ≠ 59 → c ≠ 60 → c ≠ 90 → σ'.1 c = σ.1 c) (e57 : σ'.1 57 1 = σ.1 57 1) (e60 : ∀ i, i ≠ 49 → σ'.1 60 i = σ.1 60 i) (e2 : σ'.2 = σ.2) (hX : σ'.1 59 = a.1 ∧ σ'.1 57 3 = nI a.2 ∧ a.2 ≤ 1000) (hM : σ'.1 90 = a.1 ∧ σ'.1 60 49 = nI a.2) : Inv (N + 1) σ' := by
  obtain ⟨hA, hT, hC, hI2, hB, hS, hK, hL⟩ := hI
  have o : ∀ c, (c ≠ 57 ∧ c ≠ 59 ∧ c ≠ 60 ∧ c ≠ 90) → σ'.1 c = σ.1 c := fun c h => e c h.1 h.2.1 h.2.2.1 h.2.2.2
  refine ⟨IA_c hA (o 1 (by omega)) ⟨o 2 (by omega), o 3 (by omega), o 4 (by omega), o 5 (by omega), o 6 (by omega), o 7 (by omega)⟩ ⟨o 61 (by omega), o 62 (by omega), o 63 (by omega), o 64 (by omega), o 65 (by omega), o 66 (by omega)⟩ (e60 1 (by decide)) (e60 6 (by decide)) (o 67 (by omega)),
    IT_c hT (by rw [o 0 (by omega)]) (e60 17 (by decide)) (o 14 (by omega)) (o 72 (by omega)),
    IC_c hC (by rw [o 1 (by omega)]) (by rw [o 1 (by omega)]) (o 36 (by omega)) (o 37 (by omega)) (e60 10 (by decide)) (e60 11 (by decide)) (o 68 (by omega)) (o 69 (by omega)) (o 70 (by omega)) (o 71 (by omega)),
    II_c hI2 (o 84 (by omega)) (o 39 (by omega)) (o 38 (by omega)) (e60 40 (by decide)) (e60 41 (by decide)) (e60 42 (by decide)) (by rw [o 1 (by omega)]) ⟨o 40 (by omega), o 41 (by omega), o 42 (by omega), o 43 (by omega)⟩ ⟨o 85 (by omega), o 86 (by omega), o 87 (by omega), o 88 (by omega)⟩, ?_,
    IS_c hS e57 (o 91 (by omega)) (o 92 (by omega)) (fun s hs => o _ (by omega)) e2, IK_c hK (fun k hk => ⟨o _ (by omega), o _ (by omega)⟩),
    IL_c hL (o 9 (by omega)) (by rw [o 8 (by omega)]) (sameLaw_of (o 73 (by omega)) (o 74 (by omega)) (o 75 (by omega)) (o 76 (by omega)) (o 77 (by omega)) (e60 29 (by decide)))⟩
  obtain ⟨t1, t2, b, r, hb, hr, b1, b2, b3, b4, b5⟩ := hB
  refine ⟨by rw [o 89 (by omega), o 58 (by omega), t1], by rw [hM.1, hX.1], b, a.2, hb, hX.2.2, by rw [e57, b1], by rw [e60 47 (by decide), b2], hX.2.1, hM.2, fun i hi => by rw [o 58 (by omega)]; exact b5 i hi⟩
def vA (kd s A : Nat) (x : Int32) : Int32 × List Nat := if A = 0 then fac kd s x else if A = 1 then drv kd s x else if A = 2 then wee kd s x else tel kd s x
theorem ru_A {s kd A : Nat} (hA : A ≤ 3) (h : kd < 8) (x : Int32) : ru s kd 12 kd A x = some (vA kd s A x) ∧ (vA kd s A x).2.length ≤ 20 := by
  have : A = 0 ∨ A = 1 ∨ A = 2 ∨ A = 3 := by omega
  rcases this with rfl | rfl | rfl | rfl
  · exact ⟨(ru_fac h x).1, Nat.le_trans (ru_fac (s := s) h x).2 (by decide)⟩
  · exact ⟨(ru_drv h x).1, Nat.le_trans (ru_drv (s := s) h x).2 (by decide)⟩
  · exact ⟨(ru_wee h x).1, Nat.le_trans (ru_wee (s := s) h x).2 (by decide)⟩
  · exact ⟨(ru_tel h x).1, Nat.le_trans (ru_tel (s := s) h x).2 (by decide)⟩
theorem vA_m {kd s A : Nat} {x : Int32} {a : (Nat → Int32) × Nat} {σ : Sg} {Q : Int32 → Sg → Prop} (hA : A ≤ 3) (hk : KM σ s kd) (hT : TM σ a) (hl : a.2 + 50 ≤ 1000) (hQ : ∀ σ', FbM σ σ' → TM σ' (phs a (vA kd s A x).2) → Q (vA kd s A x).1 σ') :
    if nI A = 0 then (w_X12_facing (nI s) x σ (fun r13 σ12 => Q r13 σ12)) else (if nI A = (1 : Int32) then (w_X12_driving (nI s) x σ (fun r11 σ10 => Q r11 σ10)) else (if nI A = (2 : Int32) then (w_X12_weeping (nI s) x σ (fun r9 σ8 => Q r9 σ8)) else (w_X12_telling (nI s) x σ (fun r7 σ6 => Q r7 σ6)))) := by
  have : A = 0 ∨ A = 1 ∨ A = 2 ∨ A = 3 := by omega
  rcases this with rfl | rfl | rfl | rfl
  · rw [if_pos (by decide)]
    exact fac_m hk hT (by omega) hQ
  · rw [if_neg (by decide), if_pos (by decide)]
    exact drv_m hk hT (by omega) hQ
  · rw [if_neg (by decide), if_neg (by decide), if_pos (by decide)]
    exact wee_m hk hT (by omega) hQ
  · rw [if_neg (by decide), if_neg (by decide), if_neg (by decide)]
    exact tel_m hk hT (by omega) hQ
theorem op_act {N : Nat} {σ : Sg} (hI : Inv N σ) (a act x : Int32) {Q : Int32 → Int32 → Sg → Prop} (hQ : ∀ r σ', Inv (N + 1) σ' → Q r r σ') : w_X11_act a act x σ (fun r σ1 => w_X12_act a act x σ1 (fun r' σ2 => Q r r' σ2)) := by
  obtain ⟨t1, t2, b, r, hb, hr, b1, b2, b3, b4, b5⟩ := id hI.2.2.2.2.1
  unfold w_X11_act w_X0_forgetTrace
  rw [bd_eq]
  have c57 : (sI σ 57 3 0).1 57 1 = nI b := by rw [rd_in, if_neg (by decide), b1]
  have k0 : (∀ c, c ≠ 57 → c ≠ 59 → (sI σ 57 3 0).1 c = σ.1 c) ∧ (sI σ 57 3 0).1 57 1 = σ.1 57 1 ∧ (sI σ 57 3 0).2 = σ.2 := ⟨fun c h _ => rd_ne h, by rw [rd_in, if_neg (by decide)], rfl⟩
  have m0 : ∀ (σ1 : Sg) (v : Int32) (L : List Nat), ((∀ c, c ≠ 57 → c ≠ 59 → σ1.1 c = σ.1 c) ∧ σ1.1 57 1 = σ.1 57 1 ∧ σ1.2 = σ.2) → TX σ1 (phs (σ.1 59, 0) L) → L.length ≤ 20 → ∀ σ2, FbM (sI σ1 60 49 0) σ2 → TM σ2 (phs (σ.1 59, 0) L) → Q v v σ2 := by
    intro σ1 v L f tx hl σ2 f2 tm
    apply hQ
    refine Inv_act hI (a := phs (σ.1 59, 0) L) (fun c h1 h2 h3 h4 => ?_) ?_ (fun i hi => ?_) ?_ ⟨?_, ?_, ?_⟩ ⟨tm.1, tm.2.1⟩
    · rw [f2.1 c h3 h4, rd_ne h3, f.1 c h1 h2]
    · rw [f2.1 57 (by decide) (by decide), rd_ne (by decide), f.2.1]
    · rw [f2.2.1 i hi, rd_in, if_neg hi, f.1 60 (by decide) (by decide)]
    · rw [f2.2.2, rd_2, f.2.2]
    · rw [f2.1 59 (by decide) (by decide), rd_ne (by decide), tx.1]
    · rw [f2.1 57 (by decide) (by decide), rd_ne (by decide), tx.2.1]
    · rw [phs_2]; show 0 + _ ≤ 1000; omega
  have m60 : ∀ σ1 : Sg, ((∀ c, c ≠ 57 → c ≠ 59 → σ1.1 c = σ.1 c) ∧ σ1.1 57 1 = σ.1 57 1 ∧ σ1.2 = σ.2) → (sI σ1 60 49 0).1 60 47 = nI b := fun σ1 f => by rw [rd_in, if_neg (by decide), f.1 60 (by decide) (by decide), b2]
  have mT : ∀ σ1 : Sg, ((∀ c, c ≠ 57 → c ≠ 59 → σ1.1 c = σ.1 c) ∧ σ1.1 57 1 = σ.1 57 1 ∧ σ1.2 = σ.2) → TM (sI σ1 60 49 0) (σ.1 59, 0) := fun σ1 f => ⟨by rw [rd_ne (by decide), f.1 90 (by decide) (by decide), t2], by rw [rd_in, if_pos rfl]; rfl, Nat.zero_le _⟩
  have mbad : ¬ (CR b a ∧ inR act 0 3) → w_X12_act a act x (sI σ 57 3 0) (fun r' σ2 => Q 0 r' σ2) := by
    intro hn
    have fin : Q 0 0 (sI (sI σ 57 3 0) 60 49 0) := m0 (sI σ 57 3 0) 0 [] k0 ⟨by rw [rd_ne (by decide)]; rfl, by rw [rd_in, if_pos rfl]; rfl, Nat.zero_le _⟩ (by decide) _ (FbM.refl _) (mT _ k0)
    unfold w_X12_act
    rw [bd_eq]
    refine body_m (n := b) (by omega) (m60 _ k0) (fun h1 => ?_) (fun _ => by rw [if_pos rfl]; exact fin)
    rw [if_neg one_ne]
    exact in_m (a := 0) (b := 3) (by decide) (by decide) (fun h2 => absurd ⟨h1, h2⟩ hn) (fun _ => by rw [if_pos rfl]; exact fin)
  refine body_x (n := b) (by omega) c57 (fun h1 => ?_) (fun h => by rw [if_pos rfl]; exact mbad (fun q => h q.1))
  rw [if_neg one_ne]
  refine within_x (a := 0) (b := 3) (by decide) (by decide) (fun h2 => ?_) (fun h => by rw [if_pos rfl]; exact mbad (fun q => h q.2))
  rw [if_neg one_ne]
  obtain ⟨s, hs, rfl⟩ := id h1
  obtain ⟨A, hA, rfl⟩ := inR_num (b := 3) h2 (by decide)
  obtain ⟨kd, kd1, kd2⟩ := inR_num (b := 7) (b5 s hs) (by decide)
  obtain ⟨ra1, ra2⟩ := ru_A (s := s) hA (show kd < 8 by omega) x
  unfold w_X0_start
  rw [bd_eq]
  have h4 : SX4 (sI (sI σ 57 3 0) 57 4 (nI s)) b s kd := ⟨by rw [rd_in, if_neg (by decide), rd_in, if_neg (by decide), b1], by rw [rd_in, if_pos rfl], hs, hb, by rw [rd_ne (by decide), rd_ne (by decide), kd2], by omega⟩
  have hT : TX (sI (sI σ 57 3 0) 57 4 (nI s)) (σ.1 59, 0) := ⟨by rw [rd_ne (by decide), rd_ne (by decide)], by rw [rd_in, if_neg (by decide), rd_in, if_pos rfl]; rfl, Nat.zero_le _⟩
  refine own_x h4 (run_ok 12 kd A 0 x _ (σ.1 59, 0) (vA kd s A x).1 (vA kd s A x).2 _ (by omega) (by omega) ra1 h4 hT (by show 0 + _ ≤ 1000; omega) (by decide) (fun σ1 f tx => ?_))
  have k1 : (∀ c, c ≠ 57 → c ≠ 59 → σ1.1 c = σ.1 c) ∧ σ1.1 57 1 = σ.1 57 1 ∧ σ1.2 = σ.2 := ⟨fun c h h' => by rw [f.1 c h h', rd_ne h, rd_ne h], by rw [f.2.1 1 (by decide), rd_in, if_neg (by decide), rd_in, if_neg (by decide)], by rw [f.2.2, rd_2, rd_2]⟩
  show w_X12_act (nI s) (nI A) x σ1 (fun r' σ2 => Q (vA kd s A x).1 r' σ2)
  unfold w_X12_act
  rw [bd_eq]
  refine body_m (n := b) (by omega) (m60 _ k1) (fun _ => ?_) (fun h => absurd h1 h)
  rw [if_neg one_ne]
  refine in_m (a := 0) (b := 3) (by decide) (by decide) (fun _ => ?_) (fun h => absurd h2 h)
  rw [if_neg one_ne]
  exact vA_m hA ⟨by omega, by omega, by rw [rd_ne (by decide), k1.1 89 (by decide) (by decide), t1, kd2]⟩ (mT _ k1) (by show 0 + 50 ≤ 1000; decide) (fun σ2 f2 tm => m0 σ1 _ _ k1 tx ra2 σ2 f2 tm)
