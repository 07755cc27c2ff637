/-! the class's reader, over its cells -/
theorem l_lit {x k : Nat} {m : Int32} (hm : m = nI k) (hx : x < 1000000) (hk : k < 1000000) : nI x < m ↔ x < k := by
  rw [hm]; exact nI_ltI (by omega) (by omega)
theorem g_lit {x k : Nat} {m : Int32} (hm : m = nI k) (hx : x < 1000000) (hk : k < 1000000) : m < nI x ↔ k < x := by
  rw [hm]; exact nI_ltI (by omega) (by omega)
theorem e_lit {x k : Nat} {m : Int32} (hm : m = nI k) (hx : x < 1000000) (hk : k < 1000000) : nI x = m ↔ x = k := by
  rw [hm]; exact nI_eq (by omega) (by omega)
theorem le_lit {x k : Nat} {m : Int32} (hm : m = nI k) (hx : x < 1000000) (hk : k < 1000000) : nI x ≤ m ↔ x ≤ k := by
  rw [hm]; exact nI_leI (by omega) (by omega)
theorem ge_lit {x k : Nat} {m : Int32} (hm : m = nI k) (hx : x < 1000000) (hk : k < 1000000) : m ≤ nI x ↔ k ≤ x := by
  rw [hm]; exact nI_leI (by omega) (by omega)
def XF (σ τ : Sg) : Prop := (∀ c, c ≠ 11 → c ≠ 12 → c ≠ 13 → τ.1 c = σ.1 c) ∧ τ.2 = σ.2
theorem XF.refl (σ : Sg) : XF σ σ := ⟨fun _ _ _ _ => rfl, rfl⟩
theorem XF.set {σ τ : Sg} {c k : Nat} {v : Int32} (h : XF σ τ) (hc : c = 11 ∨ c = 12 ∨ c = 13) : XF σ (sI τ c k v) :=
  ⟨fun x h1 h2 h3 => by rw [rd_ne (by omega)]; exact h.1 x h1 h2 h3, h.2⟩
def bI (b : Bool) : Int32 := if b = true then 1 else 0
def XQ (σ0 τ : Sg) (S : List Nat) (C : List Int32) (d b : Nat) (w a : Int32) : Prop :=
  XF σ0 τ ∧ (τ.1 11 1 = nI C.length ∧ sg1 (τ.1 12) 0 C) ∧ (τ.1 11 3 = nI S.length ∧ stk (τ.1 13) S ∧ ∀ x, x ∈ S → x < 256) ∧ τ.1 11 4 = nI d ∧ τ.1 11 5 = nI b ∧ τ.1 11 6 = w ∧ τ.1 11 7 = a

theorem XQ.s4 {σ0 τ : Sg} {S : List Nat} {C : List Int32} {d b : Nat} {w a : Int32} (h : XQ σ0 τ S C d b w a) (d' : Nat) : XQ σ0 (sI τ 11 4 (nI d')) S C d' b w a := by
  obtain ⟨hF, ⟨h1, h2⟩, ⟨h3, h4, h5⟩, h6, h7, h8, h9⟩ := h
  exact ⟨hF.set (by omega), ⟨by rw [rd_in, if_neg (by decide)]; exact h1, by rw [rd_ne (by decide)]; exact h2⟩, ⟨by rw [rd_in, if_neg (by decide)]; exact h3, by rw [rd_ne (by decide)]; exact h4, h5⟩, by rw [rd_in, if_pos rfl], by rw [rd_in, if_neg (by decide)]; exact h7, by rw [rd_in, if_neg (by decide)]; exact h8, by rw [rd_in, if_neg (by decide)]; exact h9⟩
theorem XQ.s5 {σ0 τ : Sg} {S : List Nat} {C : List Int32} {d b : Nat} {w a : Int32} (h : XQ σ0 τ S C d b w a) (b' : Nat) : XQ σ0 (sI τ 11 5 (nI b')) S C d b' w a := by
  obtain ⟨hF, ⟨h1, h2⟩, ⟨h3, h4, h5⟩, h6, h7, h8, h9⟩ := h
  exact ⟨hF.set (by omega), ⟨by rw [rd_in, if_neg (by decide)]; exact h1, by rw [rd_ne (by decide)]; exact h2⟩, ⟨by rw [rd_in, if_neg (by decide)]; exact h3, by rw [rd_ne (by decide)]; exact h4, h5⟩, by rw [rd_in, if_neg (by decide)]; exact h6, by rw [rd_in, if_pos rfl], by rw [rd_in, if_neg (by decide)]; exact h8, by rw [rd_in, if_neg (by decide)]; exact h9⟩
theorem XQ.s6 {σ0 τ : Sg} {S : List Nat} {C : List Int32} {d b : Nat} {w a : Int32} (h : XQ σ0 τ S C d b w a) (w' : Int32) : XQ σ0 (sI τ 11 6 w') S C d b w' a := by
  obtain ⟨hF, ⟨h1, h2⟩, ⟨h3, h4, h5⟩, h6, h7, h8, h9⟩ := h
  exact ⟨hF.set (by omega), ⟨by rw [rd_in, if_neg (by decide)]; exact h1, by rw [rd_ne (by decide)]; exact h2⟩, ⟨by rw [rd_in, if_neg (by decide)]; exact h3, by rw [rd_ne (by decide)]; exact h4, h5⟩, by rw [rd_in, if_neg (by decide)]; exact h6, by rw [rd_in, if_neg (by decide)]; exact h7, by rw [rd_in, if_pos rfl], by rw [rd_in, if_neg (by decide)]; exact h9⟩
theorem XQ.s7 {σ0 τ : Sg} {S : List Nat} {C : List Int32} {d b : Nat} {w a : Int32} (h : XQ σ0 τ S C d b w a) (a' : Int32) : XQ σ0 (sI τ 11 7 a') S C d b w a' := by
  obtain ⟨hF, ⟨h1, h2⟩, ⟨h3, h4, h5⟩, h6, h7, h8, h9⟩ := h
  exact ⟨hF.set (by omega), ⟨by rw [rd_in, if_neg (by decide)]; exact h1, by rw [rd_ne (by decide)]; exact h2⟩, ⟨by rw [rd_in, if_neg (by decide)]; exact h3, by rw [rd_ne (by decide)]; exact h4, h5⟩, by rw [rd_in, if_neg (by decide)]; exact h6, by rw [rd_in, if_neg (by decide)]; exact h7, by rw [rd_in, if_neg (by decide)]; exact h8, by rw [rd_in, if_pos rfl]⟩
theorem XQ.pop {x : Nat} {σ0 τ : Sg} {S : List Nat} {C : List Int32} {d b : Nat} {w a : Int32} (h : XQ σ0 τ (x :: S) C d b w a) : XQ σ0 (sI τ 11 3 (nI S.length)) S C d b w a := by
  obtain ⟨hF, ⟨h1, h2⟩, ⟨h3, h4, h5⟩, h6, h7, h8, h9⟩ := h
  exact ⟨hF.set (by omega), ⟨by rw [rd_in, if_neg (by decide)]; exact h1, by rw [rd_ne (by decide)]; exact h2⟩, ⟨by rw [rd_in, if_pos rfl], by rw [rd_ne (by decide)]; exact h4.2, fun y hy => h5 y (List.mem_cons_of_mem _ hy)⟩, by rw [rd_in, if_neg (by decide)]; exact h6, by rw [rd_in, if_neg (by decide)]; exact h7, by rw [rd_in, if_neg (by decide)]; exact h8, by rw [rd_in, if_neg (by decide)]; exact h9⟩
theorem wr_x {σ0 τ : Sg} {S : List Nat} {C : List Int32} {d b : Nat} {w a : Int32} {v : Int32} {K : Sg → Prop} (h : XQ σ0 τ S C d b w a) (hC : C.length < 120) (hK : ∀ τ', XQ σ0 τ' S (C ++ [v]) d b w a → K τ') : w_X9_write v τ K := by
  obtain ⟨hF, ⟨h1, h2⟩, ⟨h3, h4, h5⟩, h6, h7, h8, h9⟩ := h
  unfold w_X9_write
  rw [h1, if_neg (fun q => by have := (ge_lit (m := 120) (k := 120) rfl (by omega) (by decide)).mp q; omega)]
  refine ⟨vp_nI hC (by decide), ?_⟩
  rw [bd_eq, bd_eq, cl_nI (by omega), rd_ne (by decide), h1]
  refine hK _ ⟨(hF.set (by omega)).set (by omega), ⟨?_, ?_⟩, ⟨?_, ?_, h5⟩, ?_, ?_, ?_, ?_⟩
  · rw [rd_in, if_pos rfl, nI_1, List.length_append]; rfl
  · rw [rd_ne (by decide)]
    refine (sg_app _ _ _).mpr ⟨sg_c C 0 (fun j _ hj => by rw [rd_in, if_neg (by omega)]) h2, by rw [rd_in, if_pos (by omega)], trivial⟩
  · rw [rd_in, if_neg (by decide), rd_ne (by decide)]; exact h3
  · rw [rd_ne (by decide), rd_ne (by decide)]; exact h4
  · rw [rd_in, if_neg (by decide), rd_ne (by decide)]; exact h6
  · rw [rd_in, if_neg (by decide), rd_ne (by decide)]; exact h7
  · rw [rd_in, if_neg (by decide), rd_ne (by decide)]; exact h8
  · rw [rd_in, if_neg (by decide), rd_ne (by decide)]; exact h9
theorem aw_x {σ0 τ : Sg} {S : List Nat} {C : List Int32} {d b : Nat} {w a : Int32} {x : Nat} {K : Sg → Prop} (h : XQ σ0 τ S C d b w a) (hS : S.length < 120) (hx : x < 256) (hK : ∀ τ', XQ σ0 τ' (x :: S) C d b w a → K τ') : w_X9_await (nI x) τ K := by
  obtain ⟨hF, ⟨h1, h2⟩, ⟨h3, h4, h5⟩, h6, h7, h8, h9⟩ := h
  unfold w_X9_await
  rw [h3, if_neg (fun q => by have := (ge_lit (m := 120) (k := 120) rfl (by omega) (by decide)).mp q; omega)]
  refine ⟨vp_nI hS (by decide), ?_⟩
  rw [bd_eq, bd_eq, cl_nI (by omega), rd_ne (by decide), h3]
  refine hK _ ⟨(hF.set (by omega)).set (by omega), ⟨?_, ?_⟩, ⟨?_, ⟨?_, ?_⟩, ?_⟩, ?_, ?_, ?_, ?_⟩
  · rw [rd_in, if_neg (by decide), rd_ne (by decide)]; exact h1
  · rw [rd_ne (by decide), rd_ne (by decide)]; exact h2
  · rw [rd_in, if_pos rfl, nI_1, List.length_cons]
  · rw [rd_ne (by decide), rd_in, if_pos rfl]
  · rw [rd_ne (by decide)]
    exact stk_c S (fun j hj => by rw [rd_in, if_neg (by omega)]) h4
  · intro y hy
    rcases List.mem_cons.mp hy with rfl | q
    · exact hx
    · exact h5 y q
  · rw [rd_in, if_neg (by decide), rd_ne (by decide)]; exact h6
  · rw [rd_in, if_neg (by decide), rd_ne (by decide)]; exact h7
  · rw [rd_in, if_neg (by decide), rd_ne (by decide)]; exact h8
  · rw [rd_in, if_neg (by decide), rd_ne (by decide)]; exact h9
theorem lw_x {σ0 τ : Sg} {S : List Nat} {C : List Int32} {d b : Nat} {w a : Int32} {x : Nat} {K : Int32 → Sg → Prop} (h : XQ σ0 τ (x :: S) C d b w a) (hl : S.length < 120) (hK : K (nI x) τ) : w_X9_lastWaiting τ K := by
  obtain ⟨hF, ⟨h1, h2⟩, ⟨h3, h4, h5⟩, h6, h7, h8, h9⟩ := h
  rw [List.length_cons] at h3
  unfold w_X9_lastWaiting
  rw [h3]
  refine within_x (a := 1) (b := 120) (by decide) (by decide) (fun _ => ?_) (fun q => absurd ?_ q)
  · rw [if_neg one_ne, h3, nI_pred, cl_nI (by omega), h4.1]
    exact ⟨vp_nI hl (by decide), hK⟩
  · unfold inR
    rw [nI_toInt (by omega)]
    omega
theorem lw0_x {σ0 τ : Sg} {S : List Nat} {C : List Int32} {d b : Nat} {w a : Int32} {K : Int32 → Sg → Prop} (h : XQ σ0 τ [] C d b w a) (hK : K 0 τ) : w_X9_lastWaiting τ K := by
  obtain ⟨hF, ⟨h1, h2⟩, ⟨h3, h4, h5⟩, h6, h7, h8, h9⟩ := h
  unfold w_X9_lastWaiting
  rw [h3]
  refine within_x (a := 1) (b := 120) (by decide) (by decide) (fun q => absurd q.1 (by decide)) (fun _ => ?_)
  rw [if_pos rfl]
  exact hK
theorem rank_x {x : Nat} (hx : x < 256) {σ : Sg} {K : Int32 → Sg → Prop} (hK : K (nI (rk x)) σ) : w_X9_rankOf (nI x) σ K := by
  unfold w_X9_rankOf
  unfold rk at hK
  by_cases g37 : x = 37
  · rw [if_pos ((e_lit (m := 37) (k := 37) rfl (by omega) (by decide)).mpr g37)]; rw [if_pos g37] at hK; exact hK
  rw [if_neg (fun q => g37 ((e_lit (m := 37) (k := 37) rfl (by omega) (by decide)).mp q))]; rw [if_neg g37] at hK
  by_cases g38 : x = 38
  · rw [if_pos ((e_lit (m := 38) (k := 38) rfl (by omega) (by decide)).mpr g38)]; rw [if_pos g38] at hK; exact hK
  rw [if_neg (fun q => g38 ((e_lit (m := 38) (k := 38) rfl (by omega) (by decide)).mp q))]; rw [if_neg g38] at hK
  by_cases g42 : x = 42
  · rw [if_pos ((e_lit (m := 42) (k := 42) rfl (by omega) (by decide)).mpr g42)]; rw [if_pos g42] at hK; exact hK
  rw [if_neg (fun q => g42 ((e_lit (m := 42) (k := 42) rfl (by omega) (by decide)).mp q))]; rw [if_neg g42] at hK
  by_cases g43 : x = 43
  · rw [if_pos ((e_lit (m := 43) (k := 43) rfl (by omega) (by decide)).mpr g43)]; rw [if_pos g43] at hK; exact hK
  rw [if_neg (fun q => g43 ((e_lit (m := 43) (k := 43) rfl (by omega) (by decide)).mp q))]; rw [if_neg g43] at hK
  by_cases g45 : x = 45
  · rw [if_pos ((e_lit (m := 45) (k := 45) rfl (by omega) (by decide)).mpr g45)]; rw [if_pos g45] at hK; exact hK
  rw [if_neg (fun q => g45 ((e_lit (m := 45) (k := 45) rfl (by omega) (by decide)).mp q))]; rw [if_neg g45] at hK
  by_cases g47 : x = 47
  · rw [if_pos ((e_lit (m := 47) (k := 47) rfl (by omega) (by decide)).mpr g47)]; rw [if_pos g47] at hK; exact hK
  rw [if_neg (fun q => g47 ((e_lit (m := 47) (k := 47) rfl (by omega) (by decide)).mp q))]; rw [if_neg g47] at hK
  by_cases g60 : x = 60
  · rw [if_pos ((e_lit (m := 60) (k := 60) rfl (by omega) (by decide)).mpr g60)]; rw [if_pos g60] at hK; exact hK
  rw [if_neg (fun q => g60 ((e_lit (m := 60) (k := 60) rfl (by omega) (by decide)).mp q))]; rw [if_neg g60] at hK
  by_cases g61 : x = 61
  · rw [if_pos ((e_lit (m := 61) (k := 61) rfl (by omega) (by decide)).mpr g61)]; rw [if_pos g61] at hK; exact hK
  rw [if_neg (fun q => g61 ((e_lit (m := 61) (k := 61) rfl (by omega) (by decide)).mp q))]; rw [if_neg g61] at hK
  by_cases g62 : x = 62
  · rw [if_pos ((e_lit (m := 62) (k := 62) rfl (by omega) (by decide)).mpr g62)]; rw [if_pos g62] at hK; exact hK
  rw [if_neg (fun q => g62 ((e_lit (m := 62) (k := 62) rfl (by omega) (by decide)).mp q))]; rw [if_neg g62] at hK
  by_cases g124 : x = 124
  · rw [if_pos ((e_lit (m := 124) (k := 124) rfl (by omega) (by decide)).mpr g124)]; rw [if_pos g124] at hK; exact hK
  rw [if_neg (fun q => g124 ((e_lit (m := 124) (k := 124) rfl (by omega) (by decide)).mp q))]; rw [if_neg g124] at hK
  exact hK
theorem isName_x {x : Nat} (hx : x < 256) {σ : Sg} {K : Int32 → Sg → Prop} (h1 : nmI x < 6 → K 1 σ) (h0 : ¬ nmI x < 6 → K 0 σ) : w_X8_isName (nI x) σ K := by
  unfold w_X8_isName
  by_cases g119 : x = 119
  · rw [if_pos ((e_lit (m := 119) (k := 119) rfl (by omega) (by decide)).mpr g119)]; exact h1 (by rw [g119]; decide)
  rw [if_neg (fun q => g119 ((e_lit (m := 119) (k := 119) rfl (by omega) (by decide)).mp q))]
  by_cases g115 : x = 115
  · rw [if_pos ((e_lit (m := 115) (k := 115) rfl (by omega) (by decide)).mpr g115)]; exact h1 (by rw [g115]; decide)
  rw [if_neg (fun q => g115 ((e_lit (m := 115) (k := 115) rfl (by omega) (by decide)).mp q))]
  by_cases g104 : x = 104
  · rw [if_pos ((e_lit (m := 104) (k := 104) rfl (by omega) (by decide)).mpr g104)]; exact h1 (by rw [g104]; decide)
  rw [if_neg (fun q => g104 ((e_lit (m := 104) (k := 104) rfl (by omega) (by decide)).mp q))]
  by_cases g100 : x = 100
  · rw [if_pos ((e_lit (m := 100) (k := 100) rfl (by omega) (by decide)).mpr g100)]; exact h1 (by rw [g100]; decide)
  rw [if_neg (fun q => g100 ((e_lit (m := 100) (k := 100) rfl (by omega) (by decide)).mp q))]
  by_cases g107 : x = 107
  · rw [if_pos ((e_lit (m := 107) (k := 107) rfl (by omega) (by decide)).mpr g107)]; exact h1 (by rw [g107]; decide)
  rw [if_neg (fun q => g107 ((e_lit (m := 107) (k := 107) rfl (by omega) (by decide)).mp q))]
  by_cases g112 : x = 112
  · rw [if_pos ((e_lit (m := 112) (k := 112) rfl (by omega) (by decide)).mpr g112)]; exact h1 (by rw [g112]; decide)
  rw [if_neg (fun q => g112 ((e_lit (m := 112) (k := 112) rfl (by omega) (by decide)).mp q))]
  refine h0 (fun q => ?_)
  unfold nmI at q
  rw [if_neg g100, if_neg g104, if_neg g107, if_neg g112, if_neg g115, if_neg g119] at q
  omega
theorem isDigit_x {x : Nat} (hx : x < 256) {σ : Sg} {K : Int32 → Sg → Prop} (h1 : dgt x = true → K 1 σ) (h0 : ¬ dgt x = true → K 0 σ) : w_X9_isDigit (nI x) σ K := by
  unfold w_X9_isDigit
  by_cases g : x < 48
  · rw [if_pos ((l_lit (m := 48) (k := 48) rfl (by omega) (by decide)).mpr g)]
    exact h0 (fun q => by have := dgt_iff.mp q; omega)
  rw [if_neg (fun q => g ((l_lit (m := 48) (k := 48) rfl (by omega) (by decide)).mp q))]
  by_cases g2 : 57 < x
  · rw [if_pos ((g_lit (m := 57) (k := 57) rfl (by omega) (by decide)).mpr g2)]
    exact h0 (fun q => by have := dgt_iff.mp q; omega)
  rw [if_neg (fun q => g2 ((g_lit (m := 57) (k := 57) rfl (by omega) (by decide)).mp q))]
  exact h1 (dgt_iff.mpr (by omega))
theorem fl_len {k : Nat} : ∀ (S : List Nat) (C : List Int32), (flZ k S C).1.length + (flZ k S C).2.length = S.length + C.length
  | [], C => rfl
  | x :: S, C => by
    rw [flZ]
    by_cases g : k ≤ rk x
    · rw [if_pos g, fl_len S, List.length_append, List.length_cons, List.length_cons, List.length_nil]; omega
    · rw [if_neg g]
theorem eo_len : ∀ (S : List Nat) (C : List Int32), (eo S C).1.length + (eo S C).2.length = S.length + C.length
  | [], C => rfl
  | x :: S, C => by
    rw [eo]
    by_cases g : x = 33 ∨ x = 95
    · rw [if_pos g, eo_len S, List.length_append, List.length_cons, List.length_cons, List.length_nil]; omega
    · rw [if_neg g]
theorem fl_opn {k : Nat} (hk : 1 ≤ k) : ∀ (S : List Nat) (C : List Int32), opn (flZ k S C).1 = opn S
  | [], C => rfl
  | x :: S, C => by
    rw [flZ]
    by_cases g : k ≤ rk x
    · rw [if_pos g, fl_opn hk S, opn_cons (by omega)]
    · rw [if_neg g]
theorem fl_brk {k : Nat} (hk : 1 ≤ k) : ∀ (S : List Nat) (C : List Int32), brk (flZ k S C).1 = brk S
  | [], C => rfl
  | x :: S, C => by
    rw [flZ]
    by_cases g : k ≤ rk x
    · rw [if_pos g, fl_brk hk S, brk_cons (rk_ne (by omega)).2.2.1]
    · rw [if_neg g]
theorem eo_brk : ∀ (S : List Nat) (C : List Int32), brk (eo S C).1 = brk S
  | [], C => rfl
  | x :: S, C => by
    rw [eo]
    by_cases g : x = 33 ∨ x = 95
    · rw [if_pos g, eo_brk S, brk_cons (by omega)]
    · rw [if_neg g]
theorem brk_le : ∀ (S : List Nat), brk S ≤ S.length
  | [] => Nat.le_refl _
  | x :: S => by
    have := brk_le S
    rw [brk, List.length_cons]
    split <;> omega
theorem opn_le : ∀ (S : List Nat), opn S ≤ S.length
  | [] => Nat.le_refl _
  | x :: S => by
    have := opn_le S
    rw [opn, List.length_cons]
    split <;> omega
theorem ww_x {k : Nat} (hk : 1 ≤ k) (hk5 : k ≤ 5) {σ0 : Sg} {d b : Nat} {w a : Int32} {K : Sg → Prop} : ∀ (S : List Nat) (C : List Int32) (τ : Sg), XQ σ0 τ S C d b w a → C.length + S.length ≤ 120 → (∀ τ', XQ σ0 τ' (flZ k S C).1 (flZ k S C).2 d b w a → K τ') → w_X9_writeWaiting_l0 (nI k) K (S.length + 1) τ
  | [], C, τ, h, hl, hK => by
    rw [w_X9_writeWaiting_l0, if_pos (by rw [h.2.2.1.1]; decide)]
    exact hK τ h
  | x :: S, C, τ, h, hl, hK => by
    rw [List.length_cons] at hl
    have hx : x < 256 := h.2.2.1.2.2 x List.mem_cons_self
    have hr := rk_lt x
    rw [w_X9_writeWaiting_l0, if_neg (by rw [h.2.2.1.1, List.length_cons]; exact nI_nle (by omega) (by omega))]
    refine lw_x h (by omega) (rank_x hx ?_)
    by_cases g : k ≤ rk x
    · rw [if_neg (fun q => by have := (nI_ltI (by omega) (by omega)).mp q; omega)]
      refine lw_x h (by omega) ?_
      show w_X9_write (ngI x) _ _
      refine wr_x h (by omega) (fun τ1 h' => ?_)
      rw [bd_eq, h'.2.2.1.1, List.length_cons, nI_pred]
      refine ww_x hk hk5 S (C ++ [ngI x]) _ h'.pop (by rw [List.length_append, List.length_cons, List.length_nil]; omega) (fun τ' hq => hK τ' ?_)
      rw [fl_cons g]
      exact hq
    · rw [if_pos ((nI_ltI (by omega) (by omega)).mpr (by omega))]
      refine hK τ ?_
      rw [flZ, if_neg g]
      exact h
theorem wW_x {k : Nat} (hk : 1 ≤ k) (hk5 : k ≤ 5) {σ0 τ : Sg} {S : List Nat} {C : List Int32} {d b : Nat} {w a : Int32} {K : Sg → Prop} (h : XQ σ0 τ S C d b w a) (hl : C.length + S.length ≤ 120) (hK : ∀ τ', XQ σ0 τ' (flZ k S C).1 (flZ k S C).2 d b w a → K τ') : w_X9_writeWaiting (nI k) τ K :=
  ⟨S.length + 1, ww_x hk hk5 S C τ h hl hK⟩
theorem eo_l {σ0 : Sg} {b : Nat} {w a : Int32} {J : Sg → Prop} : ∀ (S : List Nat) (C : List Int32) (τ : Sg), XQ σ0 τ S C (opn S) b w a → C.length + S.length ≤ 120 → (∀ τ', XQ σ0 τ' (eo S C).1 (eo S C).2 (opn (eo S C).1) b w a → J τ') → w_X9_endOperand_l0 J (S.length + 1) τ
  | [], C, τ, h, hl, hK => by
    rw [w_X9_endOperand_l0, if_pos (by rw [h.2.2.1.1]; decide)]
    exact hK τ h
  | x :: S, C, τ, h, hl, hK => by
    rw [List.length_cons] at hl
    have hx : x < 256 := h.2.2.1.2.2 x List.mem_cons_self
    rw [w_X9_endOperand_l0, if_neg (by rw [h.2.2.1.1, List.length_cons]; exact nI_nle (by omega) (by omega))]
    refine lw_x h (by omega) ?_
    simp only [bd_eq]
    have body : (x = 33 ∨ x = 95) → w_X9_lastWaiting τ (fun r8 σ7 => w_X9_write (-r8) σ7 (fun σ9 => w_X9_endOperand_l0 J (S.length + 1) (sI (sI σ9 11 3 ((σ9.1 11 3) - (1 : Int32))) 11 4 (((sI σ9 11 3 ((σ9.1 11 3) - (1 : Int32))).1 11 4) - (1 : Int32))))) := by
      intro g
      refine lw_x h (by omega) ?_
      show w_X9_write (ngI x) _ _
      refine wr_x h (by omega) (fun τ1 h' => ?_)
      rw [h'.2.2.1.1, List.length_cons, nI_pred, rd_in, if_neg (by decide), h'.2.2.2.1, opn_1 (by omega), nI_pred]
      refine eo_l S (C ++ [ngI x]) _ (h'.pop.s4 _) (by rw [List.length_append, List.length_cons, List.length_nil]; omega) (fun τ' hq => hK τ' ?_)
      rw [eo, if_pos g]
      exact hq
    by_cases g1 : x = 33
    · rw [if_pos ((e_lit (m := 33) (k := 33) rfl (by omega) (by decide)).mpr g1)]
      exact body (Or.inl g1)
    · rw [if_neg (fun q => g1 ((e_lit (m := 33) (k := 33) rfl (by omega) (by decide)).mp q))]
      refine lw_x h (by omega) ?_
      by_cases g2 : x = 95
      · rw [if_pos ((e_lit (m := 95) (k := 95) rfl (by omega) (by decide)).mpr g2)]
        exact body (Or.inr g2)
      · rw [if_neg (fun q => g2 ((e_lit (m := 95) (k := 95) rfl (by omega) (by decide)).mp q))]
        refine hK τ ?_
        rw [eo, if_neg (by omega)]
        exact h
theorem eo_x {σ0 τ : Sg} {S : List Nat} {C : List Int32} {b : Nat} {w a : Int32} {K : Sg → Prop} (h : XQ σ0 τ S C (opn S) b w a) (hl : C.length + S.length ≤ 120) (hK : ∀ τ', XQ σ0 τ' (eo S C).1 (eo S C).2 (opn (eo S C).1) b 0 a → K τ') : w_X9_endOperand τ K := by
  unfold w_X9_endOperand
  rw [bd_eq]
  refine ⟨S.length + 1, eo_l S C τ h hl (fun τ' h' => ?_)⟩
  rw [bd_eq]
  exact hK _ (h'.s6 0)
theorem dig_v {v c : Nat} (hv : v < 10000) (h : 48 ≤ c ∧ c ≤ 57) : (((10 : Int32) * nI v) + nI c) - (48 : Int32) = nI (10 * v + c - 48) := by
  rw [show (10 : Int32) = nI 10 from rfl, pk_mul, nI_add, show (48 : Int32) = nI 48 from rfl, nI_sub (by omega) (by omega)]
theorem num_x {n i : Nat} {c : Nat → Nat} {τ : Sg} {J : Int32 → Int32 → Sg → Prop} (ht : txtZ n c) (hc : ∀ j, c j < 256) (htape : ∀ j, j < n → τ.1 14 j = nI (c j)) : ∀ (k x v : Nat), x + k = 4 → i + x ≤ n → v < 10 ^ x → J (nI (nums c i k x v).1) (nI (nums c i k x v).2) τ → w_X9_number_l6 (nI i) (nI n) J (k + 1) (nI x) (nI v) τ
  | 0, x, v, h1, h2, h3, hJ => by
    have hn := ht.1
    rw [w_X9_number_l6, if_pos ((ge_lit (m := 4) (k := 4) rfl (by omega) (by decide)).mpr (by omega))]
    exact hJ
  | k + 1, x, v, h1, h2, h3, hJ => by
    have hn := ht.1
    have hv : v < 10000 := Nat.lt_of_lt_of_le h3 (Nat.pow_le_pow_right (n := 10) (by decide) (show x ≤ 4 by omega))
    rw [nums] at hJ
    rw [w_X9_number_l6, if_neg (fun q => by have := (ge_lit (m := 4) (k := 4) rfl (by omega) (by decide)).mp q; omega), nI_add]
    by_cases g : n ≤ i + x
    · rw [if_pos ((nI_leI (by omega) (by omega)).mpr g)]
      rw [if_neg (by rw [ht.2 _ g]; decide)] at hJ
      exact hJ
    · rw [if_neg (fun q => g ((nI_leI (by omega) (by omega)).mp q)), cl_nI (by omega), htape _ (by omega)]
      refine ⟨vp_nI (by omega) (by decide), isDigit_x (hc _) (fun g2 => ?_) (fun g2 => ?_)⟩
      · rw [if_pos g2] at hJ
        rw [if_neg one_ne, bd_eq, htape _ (by omega), dig_v hv (dgt_iff.mp g2), nI_1]
        have e : 10 ^ (x + 1) = 10 ^ x * 10 := Nat.pow_succ _ _
        exact ⟨vp_nI (by omega) (by decide), num_x ht hc htape k (x + 1) _ (by omega) (by have := in_n ht (dgt_pos g2); omega) (by have := dgt_iff.mp g2; omega) hJ⟩
      · rw [if_neg g2] at hJ
        rw [if_pos rfl]
        exact hJ
theorem if3 {A B : Prop} {x : Nat} (hx : x < 256) (h1 : (x = 40 ∨ x = 33 ∨ x = 45) → A) (h0 : ¬ (x = 40 ∨ x = 33 ∨ x = 45) → B) : if nI x = (40 : Int32) then A else if nI x = (33 : Int32) then A else if nI x = (45 : Int32) then A else B := by
  by_cases g1 : x = 40
  · rw [if_pos ((e_lit (m := 40) (k := 40) rfl (by omega) (by decide)).mpr g1)]; exact h1 (by omega)
  rw [if_neg (fun q => g1 ((e_lit (m := 40) (k := 40) rfl (by omega) (by decide)).mp q))]
  by_cases g2 : x = 33
  · rw [if_pos ((e_lit (m := 33) (k := 33) rfl (by omega) (by decide)).mpr g2)]; exact h1 (by omega)
  rw [if_neg (fun q => g2 ((e_lit (m := 33) (k := 33) rfl (by omega) (by decide)).mp q))]
  by_cases g3 : x = 45
  · rw [if_pos ((e_lit (m := 45) (k := 45) rfl (by omega) (by decide)).mpr g3)]; exact h1 (by omega)
  rw [if_neg (fun q => g3 ((e_lit (m := 45) (k := 45) rfl (by omega) (by decide)).mp q))]
  exact h0 (by omega)
theorem run_x {σ0 : Sg} {n : Nat} {c : Nat → Nat} (ht : txtZ n c) (hc : ∀ j, c j < 256) (htape : ∀ j, j < n → σ0.1 14 j = nI (c j)) {Q : Int32 → Sg → Prop} {J84 : Sg → Prop} {res : RzZ}
    (hJ : ∀ τ' : Sg, (if (τ'.1 11 6) = 0 then (if (τ'.1 11 5) ≤ 0 then w_X9_writeWaiting (1 : Int32) τ' (fun σ8 => Q (-1 : Int32) σ8) else Q (nI n) τ') else Q (nI n) τ') → J84 τ')
    (hL : ∀ x, res = .inl x → ∀ τ', XF σ0 τ' → Q (nI x) τ') (hR : ∀ L, res = .inr L → ∀ τ' : Sg, XF σ0 τ' → τ'.1 11 1 = nI L.length → sg1 (τ'.1 12) 0 L → L.length ≤ 120 → Q (-1) τ') :
    ∀ (f i : Nat) (S : List Nat) (C : List Int32) (w a : Bool) (τ : Sg), runZ n c f i S C w a = some res → XQ σ0 τ S C (opn S) (brk S) (bI w) (bI a) → C.length + S.length ≤ i → i ≤ n → w_X9_faultOf_l32 (nI n) Q J84 f (nI i) τ
  | 0, i, S, C, w, a, τ, h, _, _, _ => by cases h
  | f + 1, i, S, C, w, a, τ, h, hX, hl, hi => by
    have hn := ht.1
    obtain ⟨hF, ⟨h1, h2⟩, ⟨h3, h4, h5⟩, h6, h7, h8, h9⟩ := id hX
    rw [runZ] at h
    rw [w_X9_faultOf_l32]
    by_cases g : n ≤ i
    · rw [if_pos g] at h
      rw [if_pos ((nI_leI (by omega) (by omega)).mpr g)]
      refine hJ τ ?_
      cases w with
      | true =>
        rw [if_pos (Or.inl rfl)] at h
        rw [if_neg (by rw [h8]; decide)]
        exact hL n (Option.some.inj h).symm τ hF
      | false =>
        rw [if_pos (by rw [h8]; rfl)]
        by_cases gb : 0 < brk S
        · rw [if_pos (Or.inr gb)] at h
          rw [if_neg (by rw [h7]; exact nI_nle gb (by have := brk_le S; omega))]
          exact hL n (Option.some.inj h).symm τ hF
        · rw [if_neg (by intro q; rcases q with q | q; exact absurd q (by decide); exact gb q)] at h
          rw [if_pos (by rw [h7, show brk S = 0 by omega]; decide)]
          refine wW_x (k := 1) (by omega) (by omega) hX (by omega) (fun τ' h' => ?_)
          have := fl_len (k := 1) S C
          exact hR _ (Option.some.inj h).symm τ' h'.1 h'.2.1.1 h'.2.1.2 (by omega)
    · rw [if_neg g] at h
      have e0 : τ.1 14 i = nI (c i) := by rw [hF.1 14 (by decide) (by decide) (by decide)]; exact htape i (by omega)
      have hci := hc i
      have htτ : ∀ j, j < n → τ.1 14 j = nI (c j) := fun j hj => by rw [hF.1 14 (by decide) (by decide) (by decide)]; exact htape j hj
      rw [if_neg (fun q => g ((nI_leI (by omega) (by omega)).mp q)), if_neg (fun q => by have := (ge_lit (m := 120) (k := 120) rfl (by omega) (by decide)).mp q; omega)]
      simp only [bd_eq]
      have hgo : ∀ (k : Nat) (S' : List Nat) (C' : List Int32) (w' a' : Bool) (τ' : Sg), 0 < k → runZ n c f (i + k) S' C' w' a' = some res → XQ σ0 τ' S' C' (opn S') (brk S') (bI w') (bI a') → C'.length + S'.length ≤ i + k → i + k ≤ n → (if 0 < nI k then w_X9_faultOf_l32 (nI n) Q J84 f (nI i + nI k) τ' else Q (nI i) τ') := by
        intro k S' C' w' a' τ' q1 q2 q3 q4 q5
        rw [if_pos ((g_lit (m := 0) (k := 0) rfl (by omega) (by decide)).mpr q1), nI_add]
        exact run_x ht hc htape hJ hL hR f (i + k) S' C' w' a' τ' q2 q3 q4 q5
      have hst : ∀ (τ' : Sg), XF σ0 τ' → some (.inl i) = some res → (if 0 < (0 : Int32) then w_X9_faultOf_l32 (nI n) Q J84 f (nI i + (0 : Int32)) τ' else Q (nI i) τ') := by
        intro τ' q1 q2
        rw [if_neg (by decide)]
        exact hL i (Option.some.inj q2).symm τ' q1
      cases w with
      | true =>
        rw [if_pos rfl] at h
        rw [if_neg (by rw [h8]; decide)]
        unfold w_X9_operand
        rw [cl_nI (by omega), e0]
        refine ⟨vp_nI (by omega) (by decide), ?_⟩
        simp only [bd_eq]
        refine isDigit_x hci (fun g1 => ?_) (fun g1 => ?_)
        · rw [if_pos g1] at h
          rw [if_neg one_ne]
          obtain ⟨b1, b2, b3, b4⟩ := nums_gd (i := i) ht 4 0 0 (by omega) (by decide)
          have b0 := nums_1 ht g1
          unfold w_X9_number
          rw [bd_eq]
          refine ⟨5, num_x ht hc htτ 4 0 0 (by omega) (by omega) (by decide) ?_⟩
          refine wr_x hX (by omega) (fun τ1 h' => ?_)
          refine eo_x h' (by rw [List.length_append, List.length_cons, List.length_nil]; omega) (fun τ2 h2' => ?_)
          have := eo_len S (C ++ [nI (nums c i 4 0 0).2])
          rw [List.length_append, List.length_cons, List.length_nil] at this
          rw [← eo_brk S (C ++ [nI (nums c i 4 0 0).2])] at h2'
          exact hgo _ _ _ false a τ2 b0 h h2' (by omega) (by omega)
        · rw [if_neg g1] at h
          rw [if_pos rfl]
          refine isName_x hci (fun g2 => ?_) (fun g2 => ?_)
          · rw [if_pos g2] at h
            rw [if_neg one_ne]
            show w_X9_write (ngI (c i)) _ _
            refine wr_x hX (by omega) (fun τ1 h' => ?_)
            refine eo_x h' (by rw [List.length_append, List.length_cons, List.length_nil]; omega) (fun τ2 h2' => ?_)
            have := eo_len S (C ++ [ngI (c i)])
            rw [List.length_append, List.length_cons, List.length_nil] at this
            rw [← eo_brk S (C ++ [ngI (c i)])] at h2'
            exact hgo 1 _ _ false a τ2 (by omega) h h2' (by omega) (by omega)
          · rw [if_neg g2] at h
            rw [if_pos rfl]
            refine if3 hci (fun g3 => ?_) (fun g3 => ?_)
            · rw [if_pos g3] at h
              rw [h6]
              by_cases g4 : opn S < 6
              · rw [if_pos g4] at h
                rw [if_pos ((l_lit (m := 6) (k := 6) rfl (by omega) (by decide)).mpr g4), nI_1]
                have hX4 := hX.s4 (opn S + 1)
                have fin : ∀ (x b' : Nat) (τ' : Sg), x < 256 → (if c i = 45 then 95 else c i) = x → brk (x :: S) = b' → XQ σ0 τ' S C (opn S + 1) b' (bI true) (bI a) → w_X9_await (nI x) τ' (fun σ11 => if 0 < (1 : Int32) then w_X9_faultOf_l32 (nI n) Q J84 f (nI i + (1 : Int32)) σ11 else Q (nI i) σ11) := by
                  intro x b' τ' r1 r2 r3 r4
                  refine aw_x r4 (by omega) r1 (fun τ2 h2' => ?_)
                  rw [r2] at h
                  refine hgo 1 (x :: S) C true a τ2 (by omega) h ?_ (by rw [List.length_cons]; omega) (by omega)
                  rw [r3, opn_1 (by rw [← r2]; split <;> omega)]
                  exact h2'
                by_cases g40 : c i = 40
                · rw [if_pos ((e_lit (m := 40) (k := 40) rfl (by omega) (by decide)).mpr g40), hX4.2.2.2.2.1, nI_1, if_neg (fun q => by have := (e_lit (m := 45) (k := 45) rfl (by omega) (by decide)).mp q; omega)]
                  exact fin (c i) _ _ hci (by rw [if_neg (by omega)]) (by rw [g40, brk_1]) (hX4.s5 (brk S + 1))
                · rw [if_neg (fun q => g40 ((e_lit (m := 40) (k := 40) rfl (by omega) (by decide)).mp q))]
                  by_cases g45 : c i = 45
                  · rw [if_pos ((e_lit (m := 45) (k := 45) rfl (by omega) (by decide)).mpr g45)]
                    exact fin 95 _ _ (by decide) (by rw [if_pos g45]) (brk_cons (by decide)) hX4
                  · rw [if_neg (fun q => g45 ((e_lit (m := 45) (k := 45) rfl (by omega) (by decide)).mp q))]
                    exact fin (c i) _ _ hci (by rw [if_neg g45]) (brk_cons g40) hX4
              · rw [if_neg g4] at h
                rw [if_neg (fun q => g4 ((l_lit (m := 6) (k := 6) rfl (by have := opn_le S; omega) (by decide)).mp q))]
                exact hst τ hF h
            · rw [if_neg g3] at h
              exact hst τ hF h
      | false =>
        rw [if_neg (by decide)] at h
        rw [if_pos (by rw [h8]; rfl), cl_nI (by omega), e0]
        refine ⟨vp_nI (by omega) (by decide), ?_⟩
        unfold w_X9_sign
        simp only [bd_eq]
        by_cases g1 : c i = 41
        · rw [if_pos g1] at h
          rw [if_pos ((e_lit (m := 41) (k := 41) rfl (by omega) (by decide)).mpr g1)]
          unfold w_X9_closeBracket
          simp only [bd_eq]
          rw [h7]
          have hb := brk_le S
          by_cases gb : brk S = 0
          · rw [if_pos gb] at h
            rw [if_pos ((e_lit (m := 0) (k := 0) rfl (by omega) (by decide)).mpr gb)]
            exact hst τ hF h
          · rw [if_neg gb] at h
            rw [if_neg (fun q => gb ((e_lit (m := 0) (k := 0) rfl (by omega) (by decide)).mp q))]
            refine wW_x (k := 1) (by omega) (by omega) hX (by omega) (fun τ1 h' => ?_)
            have f1 := fl_len (k := 1) S C
            have f2 := fl_opn (k := 1) (by omega) S C
            have f3 := fl_brk (k := 1) (by omega) S C
            rw [← f2, ← f3] at h'
            generalize (flZ 1 S C).2 = C1 at h h' f1
            generalize (flZ 1 S C).1 = S1 at h h' f1
            by_cases gh : hd40 S1 = true
            · rw [if_pos gh] at h
              cases S1 with
              | nil => exact absurd gh (by decide)
              | cons x S2 =>
                have gx : x = 40 := of_decide_eq_true gh
                subst gx
                rw [opn_1 (by omega), brk_1] at h'
                rw [List.length_cons] at f1
                have p1 := h'.pop
                rw [h'.2.2.1.1, List.length_cons, nI_pred, p1.2.2.2.1, nI_pred, (p1.s4 (opn S2)).2.2.2.2.1, nI_pred]
                refine eo_x ((p1.s4 (opn S2)).s5 (brk S2)) (by omega) (fun τ2 h2' => ?_)
                have f4 := eo_len S2 C1
                simp only [List.tail_cons] at h
                rw [← eo_brk S2 C1] at h2'
                exact hgo 1 _ _ false a τ2 (by omega) h h2' (by omega) (by omega)
            · rw [if_neg gh] at h
              cases h
        · rw [if_neg g1] at h
          rw [if_neg (fun q => g1 ((e_lit (m := 41) (k := 41) rfl (by omega) (by decide)).mp q))]
          by_cases g2 : c i = 63 ∨ c i = 59
          · rw [if_pos g2] at h
            have hend : w_X9_endPart (nI (c i)) τ (fun r3 σ2 => if 0 < r3 then w_X9_faultOf_l32 (nI n) Q J84 f (nI i + r3) σ2 else Q (nI i) σ2) := by
              have hb := brk_le S
              unfold w_X9_endPart
              simp only [bd_eq]
              rw [h7]
              by_cases gb : 0 < brk S
              · rw [if_pos (Or.inl gb)] at h
                rw [if_pos ((g_lit (m := 0) (k := 0) rfl (by omega) (by decide)).mpr gb)]
                exact hst τ hF h
              · rw [if_neg (fun q => gb ((g_lit (m := 0) (k := 0) rfl (by omega) (by decide)).mp q))]
                have fin : ∀ (x4 : Int32), (x4 = 0 ∨ x4 = 1) → x4 = bI (decide (c i = 63)) → ¬ (0 < brk S ∨ (c i = 63 ∧ a = true)) → ∀ τ3, XQ σ0 τ3 (flZ 1 S C).1 ((flZ 1 S C).2 ++ [ngI (c i)]) (opn S) (brk S) (bI false) (bI a) → (if 0 < (1 : Int32) then w_X9_faultOf_l32 (nI n) Q J84 f (nI i + (1 : Int32)) (sI (sI τ3 11 7 x4) 11 6 (1 : Int32)) else Q (nI i) (sI (sI τ3 11 7 x4) 11 6 (1 : Int32))) := by
                  intro x4 r1 r2 r3 τ3 r4
                  rw [if_neg r3] at h
                  refine hgo 1 _ _ true (decide (c i = 63)) _ (by omega) h ?_ ?_ (by omega)
                  · rw [fl_opn (by omega), fl_brk (by omega), ← r2]
                    exact (r4.s7 x4).s6 1
                  · have := fl_len (k := 1) S C
                    rw [List.length_append, List.length_cons, List.length_nil]
                    omega
                have mid : ∀ {K : Sg → Prop}, (∀ τ3, XQ σ0 τ3 (flZ 1 S C).1 ((flZ 1 S C).2 ++ [ngI (c i)]) (opn S) (brk S) (bI false) (bI a) → K τ3) → w_X9_writeWaiting (1 : Int32) τ (fun σ2 => w_X9_write (-nI (c i)) σ2 (fun σ3 => K σ3)) := by
                  intro K hK
                  refine wW_x (k := 1) (by omega) (by omega) hX (by omega) (fun τ1 h' => ?_)
                  have f1 := fl_len (k := 1) S C
                  exact wr_x h' (by omega) hK
                by_cases g63 : c i = 63
                · have e63 := (e_lit (x := c i) (m := 63) (k := 63) rfl (by omega) (by decide)).mpr g63
                  simp only [if_pos e63]
                  rw [h9]
                  cases a with
                  | true =>
                    rw [if_pos (Or.inr ⟨g63, rfl⟩)] at h
                    rw [if_neg (by decide)]
                    exact hst τ hF h
                  | false =>
                    rw [if_pos (show bI false = 0 from rfl)]
                    exact mid (fun τ3 h' => ⟨Or.inr trivial, fin 1 (Or.inr rfl) (by rw [decide_eq_true g63]; rfl) (by intro q; rcases q with q | q; exact gb q; exact absurd q.2 (by decide)) τ3 h'⟩)
                · have e63 : ¬ nI (c i) = (63 : Int32) := fun q => g63 ((e_lit (m := 63) (k := 63) rfl (by omega) (by decide)).mp q)
                  simp only [if_neg e63]
                  exact mid (fun τ3 h' => ⟨Or.inl trivial, fin 0 (Or.inl rfl) (by rw [decide_eq_false g63]; rfl) (by intro q; rcases q with q | q; exact gb q; exact g63 q.1) τ3 h'⟩)
            by_cases g63 : c i = 63
            · rw [if_pos ((e_lit (m := 63) (k := 63) rfl (by omega) (by decide)).mpr g63)]
              exact hend
            · rw [if_neg (fun q => g63 ((e_lit (m := 63) (k := 63) rfl (by omega) (by decide)).mp q)), if_pos ((e_lit (m := 59) (k := 59) rfl (by omega) (by decide)).mpr (by omega))]
              exact hend
          · rw [if_neg g2] at h
            rw [if_neg (fun q => by have := (e_lit (m := 63) (k := 63) rfl (by omega) (by decide)).mp q; omega), if_neg (fun q => by have := (e_lit (m := 59) (k := 59) rfl (by omega) (by decide)).mp q; omega)]
            have hr := rk_lt (c i)
            refine rank_x hci ?_
            by_cases g3 : rk (c i) = 0
            · rw [if_pos g3] at h
              rw [if_pos ((e_lit (m := 0) (k := 0) rfl (by omega) (by decide)).mpr g3)]
              exact hst τ hF h
            · rw [if_neg g3] at h
              rw [if_neg (fun q => g3 ((e_lit (m := 0) (k := 0) rfl (by omega) (by decide)).mp q))]
              have f1 := fl_len (k := flv (c i)) S C
              have hfv : 1 ≤ flv (c i) ∧ flv (c i) ≤ 5 := by unfold flv; split <;> omega
              have f2 := fl_opn hfv.1 S C
              have f3 := fl_brk hfv.1 S C
              have fin : ∀ τ3, ¬ (rk (c i) = 3 ∧ rkH (flZ (flv (c i)) S C).1 = 3) → XQ σ0 τ3 (flZ (flv (c i)) S C).1 (flZ (flv (c i)) S C).2 (opn S) (brk S) (bI false) (bI a) → w_X9_await (nI (c i)) τ3 (fun σ10 => if 0 < (1 : Int32) then w_X9_faultOf_l32 (nI n) Q J84 f (nI i + (1 : Int32)) (sI σ10 11 6 (1 : Int32)) else Q (nI i) (sI σ10 11 6 (1 : Int32))) := by
                intro τ3 r1 r2
                rw [if_neg r1] at h
                refine aw_x r2 (by omega) hci (fun τ4 h' => ?_)
                refine hgo 1 _ _ true a _ (by omega) h ?_ (by rw [List.length_cons]; omega) (by omega)
                rw [opn_cons (by omega), brk_cons (rk_ne (by omega)).2.2.1, f2, f3]
                exact h'.s6 1
              by_cases g4 : rk (c i) = 3
              · have e3 : nI (rk (c i)) = (3 : Int32) := by rw [g4]; rfl
                simp only [if_pos e3]
                have efl : flv (c i) = 4 := by unfold flv; rw [if_pos g4]
                rw [e3, show (3 : Int32) + 1 = nI 4 from rfl, ← efl]
                refine wW_x hfv.1 hfv.2 hX (by omega) (fun τ1 h' => ?_)
                cases eS : (flZ (flv (c i)) S C).1 with
                | nil =>
                  rw [eS] at h' f1
                  have h'' := h'
                  refine lw0_x (S := []) h' ?_
                  refine rank_x (x := 0) (by decide) ?_
                  rw [if_neg (by decide)]
                  exact fin τ1 (by rw [eS]; intro q; exact absurd q.2 (by decide)) (by rw [eS]; exact h'')
                | cons x S2 =>
                  rw [eS] at h' f1
                  rw [List.length_cons] at f1
                  refine lw_x h' (by omega) ?_
                  have hx := h'.2.2.1.2.2 x List.mem_cons_self
                  refine rank_x hx ?_
                  have hrx := rk_lt x
                  by_cases g5 : rk x = 3
                  · rw [if_pos (by rw [g5]; rfl)]
                    rw [if_pos ⟨g4, by rw [eS]; exact g5⟩] at h
                    exact hst τ1 h'.1 h
                  · rw [if_neg (fun q => g5 ((e_lit (m := 3) (k := 3) rfl (by omega) (by decide)).mp q))]
                    exact fin τ1 (by rw [eS]; intro q; exact g5 q.2) (by rw [eS]; exact h')
              · have e3 : ¬ nI (rk (c i)) = (3 : Int32) := fun q => g4 ((e_lit (m := 3) (k := 3) rfl (by omega) (by decide)).mp q)
                simp only [if_neg e3]
                have efl : flv (c i) = rk (c i) := by unfold flv; rw [if_neg g4]
                rw [← efl]
                exact wW_x hfv.1 hfv.2 hX (by omega) (fun τ1 h' => fin τ1 (fun q => g4 q.1) h')
theorem fault_x {σ : Sg} {n : Nat} {c : Nat → Nat} (ht : txtZ n c) (hc : ∀ j, c j < 256) (htape : ∀ j, j < n → σ.1 14 j = nI (c j)) {Q : Int32 → Sg → Prop} {res : RzZ} (h : RUN n c 0 [] [] true false res)
    (hL : ∀ x, res = .inl x → ∀ τ', XF σ τ' → Q (nI x) τ') (hR : ∀ L, res = .inr L → ∀ τ' : Sg, XF σ τ' → τ'.1 11 1 = nI L.length → sg1 (τ'.1 12) 0 L → L.length ≤ 120 → Q (-1) τ') : w_X9_faultOf (nI n) σ Q := by
  obtain ⟨f, hf⟩ := h
  unfold w_X9_faultOf
  simp only [bd_eq]
  refine ⟨f, run_x (σ0 := σ) ht hc htape (fun τ' q => q) hL hR f 0 [] [] true false _ hf ⟨?_, ⟨?_, trivial⟩, ⟨?_, trivial, fun x hx => by cases hx⟩, ?_, ?_, ?_, ?_⟩ (Nat.le_refl _) (Nat.zero_le _)⟩
  · exact ((((((XF.refl σ).set (by omega)).set (by omega)).set (by omega)).set (by omega)).set (by omega)).set (by omega)
  all_goals simp [rd_in, opn, brk, bI]
  all_goals rfl
