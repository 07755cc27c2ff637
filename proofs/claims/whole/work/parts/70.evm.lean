/-! a law at work: the reference -/
def EMz (τ τ' : Sg) : Prop := (∀ c, c ≠ 79 → τ'.1 c = τ.1 c) ∧ τ'.2 = τ.2
theorem EMz.refl (τ : Sg) : EMz τ τ := ⟨fun _ _ => rfl, rfl⟩
theorem EMz.trans {a b c : Sg} (h1 : EMz a b) (h2 : EMz b c) : EMz a c := ⟨fun x h => (h2.1 x h).trans (h1.1 x h), h2.2.trans h1.2⟩
theorem EMz.set {τ τ' : Sg} {k : Nat} {v : Int32} (h : EMz τ τ') : EMz τ (sI τ' 79 k v) := ⟨fun x q => by rw [rd_ne q]; exact h.1 x q, h.2⟩
theorem nI_m1 {t : Nat} (h : 1 ≤ t) (ht : t < 1000) : nI t + (-1 : Int32) = nI (t - 1) := by
  rw [Int32.add_neg_eq_sub]
  exact nI_sub (b := 1) h (by omega)
theorem mw_n {J : Sg → Prop} {E k top n : Nat} {τ : Sg} {v : Int32} (hk : k < E) (hE : E ≤ 130) (ht : top < 130) (ha : τ.1 73 k = 1) (hb : τ.1 74 k = v) (h : w_X12_worked_l12 (0 : Int32) (nI E) J n (nI (top + 1)) (nI (k + 1)) (sI τ 79 top v)) : w_X12_worked_l12 (0 : Int32) (nI E) J (n + 1) (nI top) (nI k) τ := by
  rw [w_X12_worked_l12, i130, if_neg (fun q => by have := (nI_leI (by omega) (by omega)).mp q; omega), cl_nI (by omega)]
  simp only [bd_eq]
  rw [ha, if_pos rfl, if_pos rfl, hb, cl_nI (by omega), nI_1, nI_1]
  exact ⟨vp_nI (by omega) (by decide), vp_nI (by omega) (by decide), vp_nI (by omega) (by decide), h⟩
theorem mw_a {J : Sg → Prop} {E k top n i : Nat} {τ : Sg} (hk : k < E) (hE : E ≤ 130) (ht : top < 130) (hi : i < 6) (ha : τ.1 73 k = 2) (hb : τ.1 74 k = nI i) (h : w_X12_worked_l12 (0 : Int32) (nI E) J n (nI (top + 1)) (nI (k + 1)) (sI τ 79 top (τ.1 78 i))) : w_X12_worked_l12 (0 : Int32) (nI E) J (n + 1) (nI top) (nI k) τ := by
  rw [w_X12_worked_l12, i130, if_neg (fun q => by have := (nI_leI (by omega) (by omega)).mp q; omega), cl_nI (by omega)]
  simp only [bd_eq]
  rw [ha, if_neg (show ¬ (2 : Int32) = 1 by decide), if_pos rfl, if_neg (show ¬ (2 : Int32) = 1 by decide), hb, cl_nI (by omega), cl_nI (by omega), nI_1, nI_1]
  exact ⟨vp_nI (by omega) (by decide), vp_nI (by omega) (by decide), vp_nI (by omega) (by decide), vp_nI (by omega) (by decide), h⟩
theorem mw_u {J : Sg → Prop} {E k top n c : Nat} {τ : Sg} (hk : k < E) (hE : E ≤ 130) (h1 : 1 ≤ top) (ht : top ≤ 130) (ha : τ.1 73 k = if c = 33 then 3 else 4) (h : w_X12_worked_l12 (0 : Int32) (nI E) J n (nI top) (nI (k + 1)) (sI τ 79 (top - 1) (unv c (τ.1 79 (top - 1))))) : w_X12_worked_l12 (0 : Int32) (nI E) J (n + 1) (nI top) (nI k) τ := by
  have e1 : nI top - (1 : Int32) = nI (top - 1) := nI_sub h1 (by omega)
  have hv : vp_in (nI (top - 1)) 130 := vp_nI (by omega) (by decide)
  rw [w_X12_worked_l12, i130, if_neg (fun q => by have := (nI_leI (by omega) (by omega)).mp q; omega), cl_nI (by omega)]
  simp only [bd_eq]
  refine ⟨vp_nI (by omega) (by decide), ?_⟩
  rw [e1, cl_nI (k := top - 1) (by omega), nI_1 k]
  unfold unv at h
  by_cases g : c = 33
  · rw [if_pos g] at ha h
    rw [ha, if_neg (show ¬ (3 : Int32) = 1 by decide), if_neg (show ¬ (3 : Int32) = 2 by decide), if_pos rfl]
    by_cases q : τ.1 79 (top - 1) = 0
    · rw [if_pos q] at h ⊢
      exact ⟨hv, hv, h⟩
    · rw [if_neg q] at h ⊢
      exact ⟨hv, hv, h⟩
  · rw [if_neg g] at ha h
    rw [ha, if_neg (show ¬ (4 : Int32) = 1 by decide), if_neg (show ¬ (4 : Int32) = 2 by decide), if_neg (show ¬ (4 : Int32) = 3 by decide), if_pos rfl]
    exact ⟨hv, hv, h⟩
theorem rk_big {c : Nat} (h : 0 < rk c) : 37 ≤ c := by
  by_cases g : 37 ≤ c
  · exact g
  · unfold rk at h
    rw [if_neg (by omega), if_neg (by omega), if_neg (by omega), if_neg (by omega), if_neg (by omega), if_neg (by omega), if_neg (by omega), if_neg (by omega), if_neg (by omega), if_neg (by omega)] at h
    omega
theorem mw_b {J : Sg → Prop} {E k top n c : Nat} {τ : Sg} (hk : k < E) (hE : E ≤ 130) (h1 : 2 ≤ top) (ht : top ≤ 130) (hc : 0 < rk c) (ha : τ.1 73 k = nI c) (h : w_X12_worked_l12 (0 : Int32) (nI E) J n (nI (top - 1)) (nI (k + 1)) (sI τ 79 (top - 2) (jnd c (τ.1 79 (top - 2)) (τ.1 79 (top - 1))))) : w_X12_worked_l12 (0 : Int32) (nI E) J (n + 1) (nI top) (nI k) τ := by
  have h128 := rk_128 hc
  have h37 := rk_big hc
  have e0 : nI top + (-1 : Int32) = nI (top - 1) := nI_m1 (by omega) (by omega)
  have e1 : nI (top - 1) - (1 : Int32) = nI (top - 2) := by
    rw [show top - 2 = top - 1 - 1 by omega]
    exact nI_sub (b := 1) (by omega) (by omega)
  have hv : vp_in (nI (top - 2)) 130 := vp_nI (by omega) (by decide)
  rw [w_X12_worked_l12, i130, if_neg (fun q => by have := (nI_leI (by omega) (by omega)).mp q; omega), cl_nI (by omega)]
  simp only [bd_eq]
  refine ⟨vp_nI (by omega) (by decide), ?_⟩
  rw [ha, if_neg (fun q => by have := (e_lit (m := 1) (k := 1) rfl (by omega) (by decide)).mp q; omega), if_neg (fun q => by have := (e_lit (m := 2) (k := 2) rfl (by omega) (by decide)).mp q; omega), if_neg (fun q => by have := (e_lit (m := 3) (k := 3) rfl (by omega) (by decide)).mp q; omega), if_neg (fun q => by have := (e_lit (m := 4) (k := 4) rfl (by omega) (by decide)).mp q; omega), e0, e1, cl_nI (by omega), cl_nI (by omega), nI_1]
  exact ⟨hv, vp_nI (by omega) (by decide), twoOf_m (by omega) ⟨hv, h⟩⟩
theorem EVm {J : Sg → Prop} {E : Nat} {f : Nat → Int32} {e : TreeZ} (he : wf e) (hE : E ≤ 120) : ∀ (k top : Nat) (τ : Sg), (∀ i, i < 6 → τ.1 78 i = f i) → sg1 (τ.1 73) k (acts e) → sg1 (τ.1 74) k (wits e) → k + szZ e ≤ E → top + szZ e ≤ 120 →
    (∀ τ', EMz τ τ' → τ'.1 79 top = e.2 f → (∀ j, j < top → τ'.1 79 j = τ.1 79 j) → ∃ n, w_X12_worked_l12 (0 : Int32) (nI E) J n (nI (top + 1)) (nI (k + szZ e)) τ') → ∃ n, w_X12_worked_l12 (0 : Int32) (nI E) J n (nI top) (nI k) τ := by
  refine (he (fun e => 1 ≤ szZ e ∧ ∀ (k top : Nat) (τ : Sg), (∀ i, i < 6 → τ.1 78 i = f i) → sg1 (τ.1 73) k (acts e) → sg1 (τ.1 74) k (wits e) → k + szZ e ≤ E → top + szZ e ≤ 120 →
    (∀ τ', EMz τ τ' → τ'.1 79 top = e.2 f → (∀ j, j < top → τ'.1 79 j = τ.1 79 j) → ∃ n, w_X12_worked_l12 (0 : Int32) (nI E) J n (nI (top + 1)) (nI (k + szZ e)) τ') → ∃ n, w_X12_worked_l12 (0 : Int32) (nI E) J n (nI top) (nI k) τ) (fun v hv => ⟨Nat.le_refl 1, ?_⟩) (fun c hc => ⟨Nat.le_refl 1, ?_⟩) (fun c e hc ih => ⟨by rw [sz_U]; omega, ?_⟩) (fun c a b hc ia ib => ⟨by rw [sz_B]; omega, ?_⟩)).2
  · intro k top τ hf hs hw h1 h2 hK
    have e1 : szZ (eNz v) = 1 := rfl
    rw [e1] at h1 h2 hK
    obtain ⟨n, hn⟩ := hK (sI τ 79 top (nI v)) (EMz.refl τ).set (by rw [rd_in, if_pos rfl]; rfl) (fun j hj => by rw [rd_in, if_neg (by omega)])
    exact ⟨n + 1, mw_n (by omega) (by omega) (by omega) hs.1 hw.1 hn⟩
  · intro k top τ hf hs hw h1 h2 hK
    have e1 : szZ (eAz c) = 1 := rfl
    rw [e1] at h1 h2 hK
    obtain ⟨n, hn⟩ := hK (sI τ 79 top (f (nmI c))) (EMz.refl τ).set (by rw [rd_in, if_pos rfl]; rfl) (fun j hj => by rw [rd_in, if_neg (by omega)])
    refine ⟨n + 1, mw_a (by omega) (by omega) (by omega) hc hs.1 hw.1 ?_⟩
    rw [hf _ hc]
    exact hn
  · intro k top τ hf hs hw h1 h2 hK
    rw [sz_U] at h1 h2 hK
    rw [acts_U] at hs
    rw [wits_U] at hw
    obtain ⟨s1, s2, -⟩ := (sg_app _ _ _).mp hs
    obtain ⟨w1, w2, -⟩ := (sg_app _ _ _).mp hw
    rw [sz_acts] at s2
    refine ih.2 k top τ hf s1 w1 (by omega) (by omega) (fun τ1 q1 q2 q3 => ?_)
    obtain ⟨n, hn⟩ := hK (sI τ1 79 top (unv c (τ1.1 79 top))) q1.set (by rw [rd_in, if_pos rfl, q2]; rfl) (fun j hj => by rw [rd_in, if_neg (by omega)]; exact q3 j hj)
    refine ⟨n + 1, mw_u (c := c) (by omega) (by omega) (by omega) (by omega) (by rw [q1.1 73 (by decide)]; exact s2) ?_⟩
    rw [Nat.add_sub_cancel]
    exact hn
  · intro k top τ hf hs hw h1 h2 hK
    rw [sz_B] at h1 h2 hK
    rw [acts_B] at hs
    rw [wits_B] at hw
    obtain ⟨s0, s3, -⟩ := (sg_app _ _ _).mp hs
    obtain ⟨s1, s2⟩ := (sg_app _ _ _).mp s0
    obtain ⟨w0, w3, -⟩ := (sg_app _ _ _).mp hw
    obtain ⟨w1, w2⟩ := (sg_app _ _ _).mp w0
    rw [List.length_append, sz_acts, sz_acts] at s3
    rw [sz_acts] at s2
    rw [sz_wits] at w2
    have ha1 := ia.1
    have hb1 := ib.1
    refine ia.2 k top τ hf s1 w1 (by omega) (by omega) (fun τ1 q1 q2 q3 => ?_)
    refine ib.2 (k + szZ a) (top + 1) τ1 (fun i hi => by rw [q1.1 78 (by decide)]; exact hf i hi) (by rw [q1.1 73 (by decide)]; exact s2) (by rw [q1.1 74 (by decide)]; exact w2) (by omega) (by omega) (fun τ2 p1 p2 p3 => ?_)
    have q12 := q1.trans p1
    have e1 : τ2.1 79 top = a.2 f := (p3 top (by omega)).trans q2
    obtain ⟨n, hn⟩ := hK (sI τ2 79 top (jnd c (τ2.1 79 top) (τ2.1 79 (top + 1)))) q12.set (by rw [rd_in, if_pos rfl, e1, p2]; rfl) (fun j hj => by rw [rd_in, if_neg (by omega)]; exact (p3 j (by omega)).trans (q3 j hj))
    refine ⟨n + 1, mw_b (by omega) (by omega) (by omega) (by omega) hc (by rw [q12.1 73 (by decide), show k + szZ a + szZ b = k + (szZ a + szZ b) by omega]; exact s3) ?_⟩
    rw [show top + 1 + 1 - 2 = top by omega, show top + 1 + 1 - 1 = top + 1 by omega, show k + szZ a + szZ b + 1 = k + (szZ a + szZ b + 1) by omega]
    exact hn
theorem worked_m {e : TreeZ} (he : wf e) {o : Nat} {f : Nat → Int32} {τ : Sg} {K : Int32 → Sg → Prop} (hf : ∀ i, i < 6 → τ.1 78 i = f i) (hs : sg1 (τ.1 73) o (acts e)) (hw : sg1 (τ.1 74) o (wits e)) (hE : o + szZ e ≤ 120) (hK : ∀ τ', EMz τ τ' → K (e.2 f) τ') : w_X12_worked (0 : Int32) (nI o) (nI (o + szZ e)) τ K := by
  unfold w_X12_worked
  simp only [bd_eq]
  rw [i130]
  refine EVm he hE o 0 τ hf hs hw (Nat.le_refl _) (by omega) (fun τ' q1 q2 _ => ⟨1, ?_⟩)
  rw [w_X12_worked_l12, i130, if_pos ((nI_leI (by omega) (by omega)).mpr (Nat.le_refl _)), show Int32.toNatClampNeg (0 : Int32) = 0 from rfl, q2]
  exact hK τ' q1
theorem LNm {m : Nat} {f : Nat → Int32} {Q : Int32 → Sg → Prop} {J47 : Int32 → Sg → Prop} (hJ : ∀ x τ, (vp_in x 122 ∧ vp_in x 122 ∧ w_X12_worked (0 : Int32) (τ.1 76 (Int32.toNatClampNeg x)) (τ.1 77 (Int32.toNatClampNeg x)) τ (fun r5 σ4 => Q r5 σ4)) → J47 x τ) (hm : m ≤ 61) : ∀ (ls : List (Option TreeZ × TreeZ)) (o i : Nat) (τ : Sg), (∀ x, x ∈ ls → okL x) → (∀ i, i < 6 → τ.1 78 i = f i) → sg1 (τ.1 73) o ((stps ls).map (fun x => x.2.1)) → sg1 (τ.1 74) o ((stps ls).map (fun x => x.2.2)) → sg1 (τ.1 76) i ((endsZ o ls).map (fun x => nI x.1)) → sg1 (τ.1 77) i ((endsZ o ls).map (fun x => nI x.2)) → τ.1 75 0 = nI m → i + ls.length = m → o + (stps ls).length ≤ 120 →
    (∀ τ', EMz τ τ' → Q (evL f ls) τ') → w_X12_gives_l7 (0 : Int32) Q J47 (ls.length + 1) (nI o) (nI i) τ
  | [], o, i, τ, hL, hf, s1, s2, s3, s4, h75, hi, ho, hQ => by
    rw [List.length_nil] at hi
    show w_X12_gives_l7 (0 : Int32) Q J47 (0 + 1) (nI o) (nI i) τ
    rw [w_X12_gives_l7, show Int32.toNatClampNeg (0 : Int32) = 0 from rfl, h75, i61, if_pos ((nI_leI (by omega) (by omega)).mpr (by omega))]
    exact ⟨vp02, hQ τ (EMz.refl τ)⟩
  | l :: ls, o, i, τ, hL, hf, s1, s2, s3, s4, h75, hi, ho, hQ => by
    have hl := hL l List.mem_cons_self
    rw [List.length_cons] at hi
    have hlen : (stps (l :: ls)).length = (lstZ l).length + (stps ls).length := List.length_append
    rw [hlen] at ho
    have e1 : (stps (l :: ls)).map (fun x => x.2.1) = (lstZ l).map (fun x => x.2.1) ++ (stps ls).map (fun x => x.2.1) := List.map_append
    have e2 : (stps (l :: ls)).map (fun x => x.2.2) = (lstZ l).map (fun x => x.2.2) ++ (stps ls).map (fun x => x.2.2) := List.map_append
    rw [e1] at s1
    rw [e2] at s2
    obtain ⟨a1, b1⟩ := (sg_app _ _ _).mp s1
    obtain ⟨a2, b2⟩ := (sg_app _ _ _).mp s2
    rw [List.length_map] at b1 b2
    have t3 : τ.1 76 i = nI (tEz o l) := s3.1
    have t4 : τ.1 77 i = nI (o + (lstZ l).length) := s4.1
    have hv : vp_in (nI i) 122 := vp_nI (by omega) (by decide)
    show w_X12_gives_l7 (0 : Int32) Q J47 ((ls.length + 1) + 1) (nI o) (nI i) τ
    rw [w_X12_gives_l7, show Int32.toNatClampNeg (0 : Int32) = 0 from rfl, h75, i61, if_neg (fun q => by have := (nI_leI (by omega) (by omega)).mp q; omega), cl_nI (by omega), t3]
    refine ⟨vp02, hv, ?_⟩
    obtain ⟨t, a⟩ := l
    cases t with
    | none =>
      have h1 : (lstZ (none, a)).length = szZ a := rfl
      rw [h1] at t4
      rw [if_pos (show nI (tEz o (none, a)) = nI o from rfl)]
      refine hJ _ τ ⟨hv, hv, ?_⟩
      rw [cl_nI (by omega), t3, t4]
      exact worked_m (o := o) hl hf a1 a2 (by omega) (fun τ' q => hQ τ' q)
    | some t =>
      have h1 : (lstZ (some t, a)).length = szZ t + szZ a := List.length_append
      have hp := sz_pos hl.1
      rw [h1] at t4 ho b1 b2
      have ev : evL f ((some t, a) :: ls) = if t.2 f = 0 then evL f ls else a.2 f := rfl
      have et : tEz o (some t, a) = o + szZ t := rfl
      have f1 : (lstZ (some t, a)).map (fun x => x.2.1) = acts t ++ acts a := List.map_append
      have f2 : (lstZ (some t, a)).map (fun x => x.2.2) = wits t ++ wits a := List.map_append
      rw [f1] at a1
      rw [f2] at a2
      obtain ⟨c1, d1⟩ := (sg_app _ _ _).mp a1
      obtain ⟨c2, d2⟩ := (sg_app _ _ _).mp a2
      rw [sz_acts] at d1
      rw [sz_wits] at d2
      rw [et] at t3 ⊢
      rw [if_neg (fun q => by have := (nI_eq (by omega) (by omega)).mp q; omega)]
      refine ⟨hv, worked_m hl.1 hf c1 c2 (by omega) (fun τ1 q => ?_)⟩
      by_cases g : t.2 f = 0
      · rw [if_pos g] at ev ⊢
        rw [bd_eq, q.1 77 (by decide), t4, nI_1]
        rw [ev] at hQ
        exact ⟨hv, LNm hJ hm ls (o + (szZ t + szZ a)) (i + 1) τ1 (fun x hx => hL x (List.mem_cons_of_mem _ hx)) (fun j hj => by rw [q.1 78 (by decide)]; exact hf j hj) (by rw [q.1 73 (by decide)]; exact b1) (by rw [q.1 74 (by decide)]; exact b2) (by rw [q.1 76 (by decide)]; have := s3.2; rw [h1] at this; exact this) (by rw [q.1 77 (by decide)]; have := s4.2; rw [h1] at this; exact this) (by rw [q.1 75 (by decide)]; exact h75) (by omega) (by omega) (fun τ' q' => hQ τ' (q.trans q'))⟩
      · rw [if_neg g] at ev ⊢
        rw [ev] at hQ
        refine hJ _ τ1 ⟨hv, hv, ?_⟩
        rw [cl_nI (by omega), q.1 76 (by decide), q.1 77 (by decide), t3, t4, show o + (szZ t + szZ a) = o + szZ t + szZ a by omega]
        exact worked_m hl.2 (fun j hj => by rw [q.1 78 (by decide)]; exact hf j hj) (by rw [q.1 73 (by decide)]; exact d1) (by rw [q.1 74 (by decide)]; exact d2) (by omega) (fun τ' q' => hQ τ' (q.trans q'))
theorem sg_lo {f g : Nat → Int32} {L : List Int32} {m : Nat} (h : sg1 f 0 L) (hm : L.length ≤ m) (e : ∀ j, j < m → g j = f j) : sg1 g 0 L := sg_c L 0 (fun j _ q => e j (by omega)) h
theorem FT.c {σ τ : Sg} {T : StZ} {Ls : List (Nat × Nat)} (h : FT σ T Ls) (hT : T.length ≤ 130) (hL : Ls.length ≤ 61) (s : sameLaw σ τ) : FT τ T Ls := by
  obtain ⟨h1, h2, h3, h4, h5⟩ := h
  exact ⟨sg_lo h1 (by rw [List.length_map]; exact hT) (fun j hj => (s.1 j hj).1), sg_lo h2 (by rw [List.length_map]; exact hT) (fun j hj => (s.1 j hj).2), s.2.1.trans h3, sg_lo h4 (by rw [List.length_map]; exact hL) (fun j hj => (s.2.2.1 j hj).1), sg_lo h5 (by rw [List.length_map]; exact hL) (fun j hj => (s.2.2.1 j hj).2)⟩
theorem clz_m {r : Int32} {σ : Sg} {Q : Int32 → Sg → Prop} (h : Q (clz r) σ) : if (-1 : Int32) ≤ r then (if r ≤ (1 : Int32) then Q r σ else Q (1 : Int32) σ) else Q (-1 : Int32) σ := by
  have e1 : (1 : Int32).toInt = 1 := by decide
  have e2 : (-1 : Int32).toInt = -1 := by decide
  unfold clz imax imin at h
  by_cases g : (-1 : Int32) ≤ r
  · rw [if_pos g]
    have g' := i32_le.mp g
    by_cases g2 : r ≤ 1
    · rw [if_pos g2]
      have g2' := i32_le.mp g2
      by_cases q : r < 1
      · rw [if_pos q] at h
        by_cases q2 : -1 < r
        · rw [if_pos q2] at h
          exact h
        · rw [if_neg q2] at h
          have : ¬ (-1 : Int32).toInt < r.toInt := fun w => q2 (i32_lt.mpr w)
          rw [show r = -1 from Int32.toInt_inj.mp (by omega)]
          exact h
      · rw [if_neg q, if_pos (by decide)] at h
        have : ¬ r.toInt < (1 : Int32).toInt := fun w => q (i32_lt.mpr w)
        rw [show r = 1 from Int32.toInt_inj.mp (by omega)]
        exact h
    · rw [if_neg g2]
      have : ¬ r.toInt ≤ (1 : Int32).toInt := fun w => g2 (i32_le.mpr w)
      rw [if_neg (show ¬ r < 1 from fun q => by have := i32_lt.mp q; omega), if_pos (show (-1 : Int32) < 1 by decide)] at h
      exact h
  · rw [if_neg g]
    have : ¬ (-1 : Int32).toInt ≤ r.toInt := fun w => g (i32_le.mpr w)
    rw [if_pos (show r < 1 from i32_lt.mpr (by omega)), if_neg (show ¬ (-1 : Int32) < r from fun q => by have := i32_lt.mp q; omega)] at h
    exact h
theorem ML_law {σ : Sg} {ls : List (Option TreeZ × TreeZ)} (hL : ∀ x, x ∈ ls → okL x) (hT : (stps ls).length ≤ 120) (hl : ls.length ≤ 61) (h : FT σ (stps ls) (endsZ 0 ls)) (h29 : σ.1 60 29 = 1) : ML σ (fun w s h d k p => clz (evL (fcs w s h d k p) ls)) := by
  intro k way shoe hour σ' Q hs hk hQ
  have hF := h.c (by omega) (by rw [ends_len]; exact hl) hs
  have e29 : σ'.1 60 29 = 1 := hs.2.2.2.trans h29
  have body : vp_in k 6 ∧ w_X12_gives (0 : Int32) (sI (sI (sI (sI (sI (sI σ' 78 (Int32.toNatClampNeg (0 : Int32)) (σ'.1 67 (Int32.toNatClampNeg (1 : Int32)))) 78 (Int32.toNatClampNeg (1 : Int32)) shoe) 78 (Int32.toNatClampNeg (2 : Int32)) hour) 78 (Int32.toNatClampNeg (3 : Int32)) way) 78 (Int32.toNatClampNeg (4 : Int32)) k) 78 (Int32.toNatClampNeg (5 : Int32)) ((sI (sI (sI (sI (sI σ' 78 (Int32.toNatClampNeg (0 : Int32)) (σ'.1 67 (Int32.toNatClampNeg (1 : Int32)))) 78 (Int32.toNatClampNeg (1 : Int32)) shoe) 78 (Int32.toNatClampNeg (2 : Int32)) hour) 78 (Int32.toNatClampNeg (3 : Int32)) way) 78 (Int32.toNatClampNeg (4 : Int32)) k).1 63 (Int32.toNatClampNeg k))) (fun r12 σ11 => if (-1 : Int32) ≤ r12 then (if r12 ≤ (1 : Int32) then (Q r12 σ11) else (Q (1 : Int32) σ11)) else (Q (-1 : Int32) σ11)) := by
    refine ⟨hk, ?_⟩
    rw [show Int32.toNatClampNeg (0 : Int32) = 0 from rfl, show Int32.toNatClampNeg (1 : Int32) = 1 from rfl, show Int32.toNatClampNeg (2 : Int32) = 2 from rfl, show Int32.toNatClampNeg (3 : Int32) = 3 from rfl, show Int32.toNatClampNeg (4 : Int32) = 4 from rfl, show Int32.toNatClampNeg (5 : Int32) = 5 from rfl]
    have e63 : (sI (sI (sI (sI (sI σ' 78 0 (σ'.1 67 1)) 78 1 shoe) 78 2 hour) 78 3 way) 78 4 k).1 63 (Int32.toNatClampNeg k) = σ'.1 63 (Int32.toNatClampNeg k) := by
      rw [rd_ne (by decide), rd_ne (by decide), rd_ne (by decide), rd_ne (by decide), rd_ne (by decide)]
    rw [e63]
    have hoff : ∀ τ, EMz (sI (sI (sI (sI (sI (sI σ' 78 0 (σ'.1 67 1)) 78 1 shoe) 78 2 hour) 78 3 way) 78 4 k) 78 5 (σ'.1 63 (Int32.toNatClampNeg k))) τ → OffM σ' τ := by
      intro τ e
      refine ⟨fun c h1 h2 => ?_, e.2⟩
      rw [e.1 c h2, rd_ne h1, rd_ne h1, rd_ne h1, rd_ne h1, rd_ne h1, rd_ne h1]
    have hne : ∀ c, c ≠ 78 → (sI (sI (sI (sI (sI (sI σ' 78 0 (σ'.1 67 1)) 78 1 shoe) 78 2 hour) 78 3 way) 78 4 k) 78 5 (σ'.1 63 (Int32.toNatClampNeg k))).1 c = σ'.1 c := by
      intro c h1
      rw [rd_ne h1, rd_ne h1, rd_ne h1, rd_ne h1, rd_ne h1, rd_ne h1]
    have hfc : ∀ i, i < 6 → (sI (sI (sI (sI (sI (sI σ' 78 0 (σ'.1 67 1)) 78 1 shoe) 78 2 hour) 78 3 way) 78 4 k) 78 5 (σ'.1 63 (Int32.toNatClampNeg k))).1 78 i = fcs (σ'.1 67 1) shoe hour way k (σ'.1 63 (Int32.toNatClampNeg k)) i := by
      intro i hi
      rcases (show i = 0 ∨ i = 1 ∨ i = 2 ∨ i = 3 ∨ i = 4 ∨ i = 5 by omega) with rfl | rfl | rfl | rfl | rfl | rfl <;> simp [rd_in, fcs]
    generalize sI (sI (sI (sI (sI (sI σ' 78 0 (σ'.1 67 1)) 78 1 shoe) 78 2 hour) 78 3 way) 78 4 k) 78 5 (σ'.1 63 (Int32.toNatClampNeg k)) = τ0 at hoff hne hfc ⊢
    obtain ⟨g1, g2, g3, g4, g5⟩ := hF
    unfold w_X12_gives
    simp only [bd_eq]
    rw [ends_len] at g3
    refine ⟨ls.length + 1, ?_⟩
    refine LNm (m := ls.length) (f := fcs (σ'.1 67 1) shoe hour way k (σ'.1 63 (Int32.toNatClampNeg k))) (fun x τ q => q) hl ls 0 0 τ0 hL hfc (by rw [hne 73 (by decide)]; exact g1) (by rw [hne 74 (by decide)]; exact g2) (by rw [hne 76 (by decide)]; exact g4) (by rw [hne 77 (by decide)]; exact g5) (by rw [hne 75 (by decide)]; exact g3) (Nat.zero_add _) (by omega) (fun τ' q => ?_)
    exact clz_m (hQ τ' (hoff τ' q))
  unfold w_X12_turnBy
  simp only [bd_eq]
  have hn : ¬ σ'.1 60 29 = 0 := by rw [e29]; decide
  by_cases g : shoe = 0
  · rw [if_pos g, if_neg hn]
    exact body
  · rw [if_neg g, if_neg hn]
    exact body
