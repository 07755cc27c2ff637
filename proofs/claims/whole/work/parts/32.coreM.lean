/-! the same on the reference's side -/
def axV (a : Int32) : Int32 := if a ≤ 0 then (if a ≤ 4 then 0 else -1) else if 4 ≤ a then (if a ≤ 4 then 0 else -1) else 1
def ayV (a : Int32) : Int32 := if a = 7 then -1 else if 2 ≤ a then (if a ≤ 2 then 0 else if 6 ≤ a then 0 else 1) else -1
def inV (a b c : Int32) : Int32 := if a < b then 0 else if c < a then 0 else 1
theorem alongX_m {a : Int32} {σ : Sg} {Q : Int32 → Sg → Prop} : w_X12_alongX a σ Q = Q (axV a) σ := by
  simp only [w_X12_alongX, bd_eq, axV]
  repeat' split
  all_goals rfl
theorem alongY_m {a : Int32} {σ : Sg} {Q : Int32 → Sg → Prop} : w_X12_alongY a σ Q = Q (ayV a) σ := by
  simp only [w_X12_alongY, ayV]
  repeat' split
  all_goals rfl
theorem inV_m {a b c : Int32} {σ : Sg} {Q : Int32 → Sg → Prop} : w_X12_in a b c σ Q = Q (inV a b c) σ := by
  simp only [w_X12_in, inV]
  repeat' split
  all_goals rfl
def lvV (a b : Int32) : Int32 := if inV ((a - a / (16 : Int32) * (16 : Int32)) + axV b) 0 15 = 0 then 1 else if inV ((a / (16 : Int32)) + ayV b) 0 15 = 0 then 1 else 0
theorem leaves_m {a b : Int32} {σ : Sg} {Q : Int32 → Sg → Prop} : w_X12_leaves a b σ Q = Q (lvV a b) σ := by
  simp only [w_X12_leaves, alongX_m, alongY_m, inV_m, lvV]
  repeat' split
  all_goals rfl
theorem mt1 : ∀ s, s < 2048 → lvV (nI (s / 8)) (nI (s % 8)) = if onl s = true then 0 else 1 := by decide +kernel
theorem mt2 : ∀ s, s < 2048 → onl s = true → nI (s / 8) + (axV (nI (s % 8)) + ((16 : Int32) * ayV (nI (s % 8)))) = nI (mv s / 8) := by decide +kernel
theorem mt3 : ∀ w, w < 8 → ((nI w + (4 : Int32)) - (nI w + (4 : Int32)) / (8 : Int32) * (8 : Int32)) = nI ((w + 4) % 8) := by decide +kernel
/-- what a step, an hour leave of a state -/
def Fs (σ σ' : Sg) : Prop := (∀ c, c ≠ 60 → σ'.1 c = σ.1 c) ∧ (∀ i, i ≠ 30 → i ≠ 31 → i ≠ 32 → σ'.1 60 i = σ.1 60 i) ∧ σ'.2 = σ.2
def Fh (σ σ' : Sg) : Prop := (∀ c, c ≠ 60 → c ≠ 78 → c ≠ 79 → σ'.1 c = σ.1 c) ∧ (∀ i, i ≠ 30 → i ≠ 31 → i ≠ 32 → σ'.1 60 i = σ.1 60 i) ∧ σ'.2 = σ.2
theorem Fs.refl (σ : Sg) : Fs σ σ := ⟨fun _ _ => rfl, fun _ _ _ _ => rfl, rfl⟩
theorem Fs.trans {a b c : Sg} (h1 : Fs a b) (h2 : Fs b c) : Fs a c := ⟨fun x h => (h2.1 x h).trans (h1.1 x h), fun x h h' h'' => (h2.2.1 x h h' h'').trans (h1.2.1 x h h' h''), h2.2.2.trans h1.2.2⟩
theorem Fh.refl (σ : Sg) : Fh σ σ := ⟨fun _ _ _ _ => rfl, fun _ _ _ _ => rfl, rfl⟩
theorem Fh.trans {a b c : Sg} (h1 : Fh a b) (h2 : Fh b c) : Fh a c := ⟨fun x h h' h'' => (h2.1 x h h' h'').trans (h1.1 x h h' h''), fun x h h' h'' => (h2.2.1 x h h' h'').trans (h1.2.1 x h h' h''), h2.2.2.trans h1.2.2⟩
theorem Fs.h {a b : Sg} (h : Fs a b) : Fh a b := ⟨fun c h1 _ _ => h.1 c h1, h.2.1, h.2.2⟩
theorem Fs.set {σ : Sg} {i : Nat} {v : Int32} (h : i = 30 ∨ i = 31 ∨ i = 32) : Fs σ (sI σ 60 i v) := ⟨fun _ h' => rd_ne h', fun j h1 h2 h3 => by rw [rd_in, if_neg (by omega)], rfl⟩
/-- where it stands -/
def At (σ : Sg) (s : Nat) : Prop := σ.1 60 30 = nI (s / 8) ∧ σ.1 60 31 = nI (s % 8)
theorem stepM {s : Nat} {v : Int32} {σ : Sg} {Q : Sg → Prop} (hs : s < 2048) (h : At σ s) (h32 : σ.1 60 32 = v) (hQ : ∀ σ', Fs σ σ' → At σ' (stp s).1 → σ'.1 60 32 = v + nI (stp s).2 → Q σ') : w_X12_goStep σ Q := by
  obtain ⟨h30, h31⟩ := h
  unfold w_X12_goStep
  simp only [leaves_m, alongX_m, alongY_m, bd_eq, h30, h31, mt1 s hs]
  by_cases ho : onl s = true
  · have es : stp s = (mv s, 1) := by unfold stp; rw [if_pos ho]
    rw [es] at hQ
    simp only [ho, if_true, h30, h31, mt1 s hs, mt2 s hs ho, h32]
    refine hQ _ ((Fs.set (Or.inl rfl)).trans (Fs.set (Or.inr (Or.inr rfl)))) ⟨?_, ?_⟩ ?_
    · rw [rd_in, if_neg (by decide), rd_in, if_pos rfl]
    · rw [rd_in, if_neg (by decide), rd_in, if_neg (by decide), h31]
      congr 1
      exact ((st2 s hs ho).2.2.1).symm
    · rw [rd_in, if_pos rfl, rd_in, if_neg (by decide), h32]
      rfl
  · obtain ⟨f1, f2⟩ := fl_8 s
    simp only [ho, one_ne, if_false, mt3 (s % 8) (Nat.mod_lt _ (by decide))]
    rw [← f1]
    have q30 : (sI σ 60 31 (nI (fl s % 8))).1 60 30 = nI (fl s / 8) := by rw [rd_in, if_neg (by decide), h30, f2]
    have q31 : (sI σ 60 31 (nI (fl s % 8))).1 60 31 = nI (fl s % 8) := by rw [rd_in, if_pos rfl]
    have q32 : (sI σ 60 31 (nI (fl s % 8))).1 60 32 = v := by rw [rd_in, if_neg (by decide), h32]
    simp only [q30, q31, q32, mt1 _ (fl_lt hs)]
    by_cases ho2 : onl (fl s) = true
    · have es : stp s = (mv (fl s), 1) := by unfold stp; rw [if_neg ho, if_pos ho2]
      rw [es] at hQ
      simp only [ho2, if_true, mt2 _ (fl_lt hs) ho2]
      refine hQ _ ((Fs.set (Or.inr (Or.inl rfl))).trans ((Fs.set (Or.inl rfl)).trans (Fs.set (Or.inr (Or.inr rfl))))) ⟨?_, ?_⟩ ?_
      · rw [rd_in, if_neg (by decide), rd_in, if_pos rfl]
      · rw [rd_in, if_neg (by decide), rd_in, if_neg (by decide), q31]
        congr 1
        exact ((st2 _ (fl_lt hs) ho2).2.2.1).symm
      · rw [rd_in, if_pos rfl, rd_in, if_neg (by decide), q32]
        rfl
    · have es : stp s = (fl s, 0) := by unfold stp; rw [if_neg ho, if_neg ho2]
      rw [es] at hQ
      simp only [ho2, one_ne, if_false]
      refine hQ _ (Fs.set (Or.inr (Or.inl rfl))) ⟨q30, q31⟩ ?_
      rw [q32]
      simp [nI_0]
theorem add_nI (v : Int32) (a b : Nat) : v + nI a + nI b = v + nI (a + b) := by rw [Int32.add_assoc, nI_add]
theorem stepsM {k p : Nat} {v : Int32} {Q : Sg → Prop} (hk : k < 6) (hp : p < 1000) : ∀ (d i s a : Nat) (σ : Sg), i + d = p → s < 2048 → σ.1 63 k = nI p → At σ s → σ.1 60 32 = v + nI a →
    (∀ σ', Fs σ σ' → At σ' (gos d (s, a)).1 → σ'.1 60 32 = v + nI (gos d (s, a)).2 → Q σ') → w_X12_goHour_l44 (nI k) Q (d + 1) (nI i) σ
  | 0, i, s, a, σ, h, hs, h63, hA, h32, hQ => by
    unfold w_X12_goHour_l44
    rw [cl_nI (by omega), h63, if_pos (nI_le (by omega) (by omega))]
    exact ⟨vp_nI hk (by decide), hQ σ (Fs.refl _) hA h32⟩
  | d + 1, i, s, a, σ, h, hs, h63, hA, h32, hQ => by
    unfold w_X12_goHour_l44
    rw [cl_nI (by omega), h63, if_neg (nI_ge (by omega) (by omega)), nI_1]
    refine ⟨vp_nI hk (by decide), stepM hs hA h32 (fun σ1 hf hA1 hg => ?_)⟩
    rw [add_nI] at hg
    refine stepsM hk hp d (i + 1) _ _ σ1 (by omega) (stp_lt hs).1 (by rw [hf.1 63 (by decide)]; exact h63) hA1 hg (fun σ' hf' hA' hg' => hQ σ' (hf.trans hf') hA' hg')
def GM (σ : Sg) (k p : Nat) (l : Nat → Nat → Int32) : Prop := (∀ t w, t3 (l t w)) ∧ ∃ (g : Int32 → Int32 → Int32 → Int32 → Int32 → Int32 → Int32) (sh ho : Nat), ML σ g ∧ σ.1 63 k = nI p ∧ σ.1 64 k = nI sh ∧ sh ≤ 9 ∧ σ.1 67 2 = nI ho ∧ ho ≤ 99 ∧ l = lw g (σ.1 67 1) sh ho k p
theorem GM_c {σ σ' : Sg} {k p : Nat} {l : Nat → Nat → Int32} (h : GM σ k p l) (e : sameLaw σ σ') (e1 : σ'.1 63 k = σ.1 63 k) (e2 : σ'.1 64 k = σ.1 64 k) (e3 : σ'.1 67 = σ.1 67) : GM σ' k p l := by
  obtain ⟨h0, g, sh, ho, h1, h2, h3, h4, h5, h6, h7⟩ := h
  exact ⟨h0, g, sh, ho, ML_c h1 e, e1.trans h2, e2.trans h3, h4, by rw [e3]; exact h5, h6, by rw [e3]; exact h7⟩
theorem Fh.law {σ σ' : Sg} (h : Fh σ σ') : sameLaw σ σ' := sameLaw_of (h.1 73 (by decide) (by decide) (by decide)) (h.1 74 (by decide) (by decide) (by decide)) (h.1 75 (by decide) (by decide) (by decide)) (h.1 76 (by decide) (by decide) (by decide)) (h.1 77 (by decide) (by decide) (by decide)) (h.2.1 29 (by decide) (by decide) (by decide))
theorem GM_h {σ σ' : Sg} {k p : Nat} {l : Nat → Nat → Int32} (h : GM σ k p l) (f : Fh σ σ') : GM σ' k p l := GM_c h f.law (by rw [f.1 63 (by decide) (by decide) (by decide)]) (by rw [f.1 64 (by decide) (by decide) (by decide)]) (f.1 67 (by decide) (by decide) (by decide))
theorem hour_m {k p s t : Nat} {l : Nat → Nat → Int32} {b v : Int32} {σ : Sg} {Q : Sg → Prop} (hk : k < 6) (hG : GM σ k p l) (hs : s < 2048) (ht : t < 1000) (hp : p < 1000) (hb : t3 b) (hA : At σ s) (h32 : σ.1 60 32 = v)
    (hQ : ∀ σ', Fh σ σ' → GM σ' k p l → At σ' (nx l p s t b) → σ'.1 60 32 = v + nI (ng l p s t b) → Q σ') : w_X12_goHour (nI k) (nI t) b σ Q := by
  obtain ⟨h0, g, sh, ho, h1, h2, h3, h4, h5, h6, h7⟩ := id hG
  unfold w_X12_goHour
  refine ⟨vp_nI hk (by decide), ?_⟩
  rw [cl_nI (by omega), h3, hA.2]
  have key : w_X12_hourAt (nI t) σ (fun r4 σ3 => w_X12_turnBy (nI k) (nI (s % 8)) (nI (sh - t)) r4 σ3 (fun r6 σ5 => bd (sI σ5 60 31 ((((nI (s % 8) + r6) + b) + (8 : Int32)) - (((nI (s % 8) + r6) + b) + (8 : Int32)) / (8 : Int32) * (8 : Int32))) fun σ7 => ∃ n, w_X12_goHour_l44 (nI k) Q n (0 : Int32) σ7)) := by
    have key2 : w_X12_turnBy (nI k) (nI (s % 8)) (nI (sh - t)) (nI (min 99 (ho + t))) σ (fun r6 σ5 => bd (sI σ5 60 31 ((((nI (s % 8) + r6) + b) + (8 : Int32)) - (((nI (s % 8) + r6) + b) + (8 : Int32)) / (8 : Int32) * (8 : Int32))) fun σ7 => ∃ n, w_X12_goHour_l44 (nI k) Q n (0 : Int32) σ7) := by
      refine h1 _ _ _ _ _ _ ⟨fun _ _ => ⟨rfl, rfl⟩, rfl, fun _ _ => ⟨rfl, rfl⟩, rfl⟩ (vp_nI hk (by decide)) (fun σ1 hf => ?_)
      obtain ⟨f1, f2⟩ := hf
      rw [cl_nI (show k < 1000000 by omega), h2]
      have el : g (σ.1 67 1) (nI (sh - t)) (nI (min 99 (ho + t))) (nI (s % 8)) (nI k) (nI p) = l t (s % 8) := by rw [h7]; rfl
      rw [el, twM (Nat.mod_lt _ (by decide)) (h0 _ _) hb, bd_eq]
      have hw := @tw_lt (s % 8) (l t (s % 8)) b
      have fh : Fh σ (sI σ1 60 31 (nI (tw (s % 8) (l t (s % 8)) b))) := ⟨fun c a1 a2 a3 => by rw [rd_ne a1, f1 c a2 a3], fun i a1 a2 a3 => by rw [rd_in, if_neg a2, f1 60 (by decide) (by decide)], by rw [rd_2, f2]⟩
      have d1 : (s / 8 * 8 + tw (s % 8) (l t (s % 8)) b) / 8 = s / 8 := by omega
      have d2 : (s / 8 * 8 + tw (s % 8) (l t (s % 8)) b) % 8 = tw (s % 8) (l t (s % 8)) b := by omega
      refine ⟨p + 1, stepsM (v := v) hk hp p 0 (s / 8 * 8 + tw (s % 8) (l t (s % 8)) b) 0 _ (by omega) (by omega) ?_ ⟨?_, ?_⟩ ?_ (fun σ' hf' hA' h32' => hQ σ' (fh.trans hf'.h) (GM_h hG (fh.trans hf'.h)) hA' h32')⟩
      · rw [rd_ne (by decide), f1 63 (by decide) (by decide), h2]
      · rw [rd_in, if_neg (by decide), f1 60 (by decide) (by decide), hA.1, d1]
      · rw [rd_in, if_pos rfl, d2]
      · rw [rd_in, if_neg (by decide), f1 60 (by decide) (by decide), h32]
        simp [nI_0]
    unfold w_X12_hourAt
    have e2 : (Int32.toNatClampNeg 2) = 2 := rfl
    rw [e2, h5, nI_add]
    by_cases hh : ho + t ≤ 99
    · rw [if_pos (show nI (ho + t) ≤ 99 from nI_le hh (by decide))]
      rw [Nat.min_eq_right hh] at key2
      exact key2
    · rw [if_neg (show ¬ nI (ho + t) ≤ 99 from nI_ge (b := ho + t) (a := 99) (by omega) (by omega))]
      rw [Nat.min_eq_left (by omega)] at key2
      exact key2
  unfold w_X12_shoeAt
  by_cases hh : sh ≤ t
  · rw [if_pos (nI_le hh (by omega))]
    rw [show sh - t = 0 by omega] at key
    exact key
  · rw [if_neg (nI_ge (by omega) (by omega)), pk_sub (by omega)]
    exact key
