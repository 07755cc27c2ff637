def w_L_law_l18 (Q : Int32 → Sg → Prop) (sx : Nat × (Nat → Int32)) : Nat → Int32 → Sg → Prop
  | 0, _, _ => False
  | n18 + 1, x1, σ2 => if ((Int32.ofNat sx.1) - (6 : Int32)) < x1 then (Q (1 : Int32) σ2) else (vp_in x1 sx.1 ∧ bd (fun (σ3 : Sg) => w_L_law_l18 Q sx n18 (x1 + 6) σ3) fun J1615 => if ((sx.2 (Int32.toNatClampNeg x1)) &&& (63 : Int32)) = (0 : Int32) then (vp_in (x1 + (1 : Int32)) sx.1 ∧ vp_in (x1 + (2 : Int32)) sx.1 ∧ w_X11_carriage (sx.2 (Int32.toNatClampNeg (x1 + (1 : Int32)))) (sx.2 (Int32.toNatClampNeg (x1 + (2 : Int32)))) σ2 (fun r5 σ4 => vp_in (x1 + (1 : Int32)) sx.1 ∧ vp_in (x1 + (2 : Int32)) sx.1 ∧ w_X12_carriage (sx.2 (Int32.toNatClampNeg (x1 + (1 : Int32)))) (sx.2 (Int32.toNatClampNeg (x1 + (2 : Int32)))) σ4 (fun r7 σ6 => if r5 = r7 then (J1615 σ6) else (Q (0 : Int32) σ6)))) else (if ((sx.2 (Int32.toNatClampNeg x1)) &&& (63 : Int32)) = (1 : Int32) then (vp_in (x1 + (1 : Int32)) sx.1 ∧ vp_in (x1 + (2 : Int32)) sx.1 ∧ vp_in (x1 + (3 : Int32)) sx.1 ∧ w_X11_carriages (sx.2 (Int32.toNatClampNeg (x1 + (1 : Int32)))) (sx.2 (Int32.toNatClampNeg (x1 + (2 : Int32)))) (sx.2 (Int32.toNatClampNeg (x1 + (3 : Int32)))) σ2 (fun r9 σ8 => vp_in (x1 + (1 : Int32)) sx.1 ∧ vp_in (x1 + (2 : Int32)) sx.1 ∧ vp_in (x1 + (3 : Int32)) sx.1 ∧ w_X12_carriages (sx.2 (Int32.toNatClampNeg (x1 + (1 : Int32)))) (sx.2 (Int32.toNatClampNeg (x1 + (2 : Int32)))) (sx.2 (Int32.toNatClampNeg (x1 + (3 : Int32)))) σ8 (fun r11 σ10 => if r9 = r11 then (J1615 σ10) else (Q (0 : Int32) σ10)))) else (if ((sx.2 (Int32.toNatClampNeg x1)) &&& (63 : Int32)) = (2 : Int32) then (vp_in (x1 + (1 : Int32)) sx.1 ∧ w_X11_place (sx.2 (Int32.toNatClampNeg (x1 + (1 : Int32)))) σ2 (fun r13 σ12 => vp_in (x1 + (1 : Int32)) sx.1 ∧ w_X12_place (sx.2 (Int32.toNatClampNeg (x1 + (1 : Int32)))) σ12 (fun r15 σ14 => if r13 = r15 then (J1615 σ14) else (Q (0 : Int32) σ14)))) else (if ((sx.2 (Int32.toNatClampNeg x1)) &&& (63 : Int32)) = (3 : Int32) then (vp_in (x1 + (1 : Int32)) sx.1 ∧ vp_in (x1 + (2 : Int32)) sx.1 ∧ vp_in (x1 + (3 : Int32)) sx.1 ∧ w_X11_mend (sx.2 (Int32.toNatClampNeg (x1 + (1 : Int32)))) (sx.2 (Int32.toNatClampNeg (x1 + (2 : Int32)))) (sx.2 (Int32.toNatClampNeg (x1 + (3 : Int32)))) σ2 (fun r17 σ16 => vp_in (x1 + (1 : Int32)) sx.1 ∧ vp_in (x1 + (2 : Int32)) sx.1 ∧ vp_in (x1 + (3 : Int32)) sx.1 ∧ w_X12_mend (sx.2 (Int32.toNatClampNeg (x1 + (1 : Int32)))) (sx.2 (Int32.toNatClampNeg (x1 + (2 : Int32)))) (sx.2 (Int32.toNatClampNeg (x1 + (3 : Int32)))) σ16 (fun r19 σ18 => if r17 = r19 then (J1615 σ18) else (Q (0 : Int32) σ18)))) else (if ((sx.2 (Int32.toNatClampNeg x1)) &&& (63 : Int32)) = (4 : Int32) then (vp_in (x1 + (1 : Int32)) sx.1 ∧ vp_in (x1 + (2 : Int32)) sx.1 ∧ w_X11_of (sx.2 (Int32.toNatClampNeg (x1 + (1 : Int32)))) (sx.2 (Int32.toNatClampNeg (x1 + (2 : Int32)))) σ2 (fun r21 σ20 => vp_in (x1 + (1 : Int32)) sx.1 ∧ vp_in (x1 + (2 : Int32)) sx.1 ∧ w_X12_of (sx.2 (Int32.toNatClampNeg (x1 + (1 : Int32)))) (sx.2 (Int32.toNatClampNeg (x1 + (2 : Int32)))) σ20 (fun r23 σ22 => if r21 = r23 then (J1615 σ22) else (Q (0 : Int32) σ22)))) else (if ((sx.2 (Int32.toNatClampNeg x1)) &&& (63 : Int32)) = (5 : Int32) then (vp_in (x1 + (1 : Int32)) sx.1 ∧ w_X11_feed (sx.2 (Int32.toNatClampNeg (x1 + (1 : Int32)))) σ2 (fun r25 σ24 => vp_in (x1 + (1 : Int32)) sx.1 ∧ w_X12_feed (sx.2 (Int32.toNatClampNeg (x1 + (1 : Int32)))) σ24 (fun r27 σ26 => if r25 = r27 then (J1615 σ26) else (Q (0 : Int32) σ26)))) else (if ((sx.2 (Int32.toNatClampNeg x1)) &&& (63 : Int32)) = (6 : Int32) then (w_X11_law  σ2 (fun r29 σ28 => w_X12_law  σ28 (fun r31 σ30 => if r29 = r31 then (J1615 σ30) else (Q (0 : Int32) σ30)))) else (if ((sx.2 (Int32.toNatClampNeg x1)) &&& (63 : Int32)) = (7 : Int32) then (vp_in (x1 + (1 : Int32)) sx.1 ∧ w_X11_turn (sx.2 (Int32.toNatClampNeg (x1 + (1 : Int32)))) σ2 (fun r33 σ32 => vp_in (x1 + (1 : Int32)) sx.1 ∧ w_X12_turn (sx.2 (Int32.toNatClampNeg (x1 + (1 : Int32)))) σ32 (fun r35 σ34 => if r33 = r35 then (J1615 σ34) else (Q (0 : Int32) σ34)))) else (if ((sx.2 (Int32.toNatClampNeg x1)) &&& (63 : Int32)) = (8 : Int32) then (vp_in (x1 + (1 : Int32)) sx.1 ∧ vp_in (x1 + (2 : Int32)) sx.1 ∧ vp_in (x1 + (3 : Int32)) sx.1 ∧ w_X11_later (sx.2 (Int32.toNatClampNeg (x1 + (1 : Int32)))) (sx.2 (Int32.toNatClampNeg (x1 + (2 : Int32)))) (sx.2 (Int32.toNatClampNeg (x1 + (3 : Int32)))) σ2 (fun r37 σ36 => vp_in (x1 + (1 : Int32)) sx.1 ∧ vp_in (x1 + (2 : Int32)) sx.1 ∧ vp_in (x1 + (3 : Int32)) sx.1 ∧ w_X12_later (sx.2 (Int32.toNatClampNeg (x1 + (1 : Int32)))) (sx.2 (Int32.toNatClampNeg (x1 + (2 : Int32)))) (sx.2 (Int32.toNatClampNeg (x1 + (3 : Int32)))) σ36 (fun r39 σ38 => if r37 = r39 then (J1615 σ38) else (Q (0 : Int32) σ38)))) else (if ((sx.2 (Int32.toNatClampNeg x1)) &&& (63 : Int32)) = (9 : Int32) then (vp_in (x1 + (1 : Int32)) sx.1 ∧ vp_in (x1 + (2 : Int32)) sx.1 ∧ vp_in (x1 + (3 : Int32)) sx.1 ∧ w_X11_nears (sx.2 (Int32.toNatClampNeg (x1 + (1 : Int32)))) (sx.2 (Int32.toNatClampNeg (x1 + (2 : Int32)))) (sx.2 (Int32.toNatClampNeg (x1 + (3 : Int32)))) σ2 (fun r41 σ40 => vp_in (x1 + (1 : Int32)) sx.1 ∧ vp_in (x1 + (2 : Int32)) sx.1 ∧ vp_in (x1 + (3 : Int32)) sx.1 ∧ w_X12_nears (sx.2 (Int32.toNatClampNeg (x1 + (1 : Int32)))) (sx.2 (Int32.toNatClampNeg (x1 + (2 : Int32)))) (sx.2 (Int32.toNatClampNeg (x1 + (3 : Int32)))) σ40 (fun r43 σ42 => if r41 = r43 then (J1615 σ42) else (Q (0 : Int32) σ42)))) else (if ((sx.2 (Int32.toNatClampNeg x1)) &&& (63 : Int32)) = (10 : Int32) then (vp_in (x1 + (1 : Int32)) sx.1 ∧ vp_in (x1 + (2 : Int32)) sx.1 ∧ vp_in (x1 + (3 : Int32)) sx.1 ∧ w_X11_passes (sx.2 (Int32.toNatClampNeg (x1 + (1 : Int32)))) (sx.2 (Int32.toNatClampNeg (x1 + (2 : Int32)))) (sx.2 (Int32.toNatClampNeg (x1 + (3 : Int32)))) σ2 (fun r45 σ44 => vp_in (x1 + (1 : Int32)) sx.1 ∧ vp_in (x1 + (2 : Int32)) sx.1 ∧ vp_in (x1 + (3 : Int32)) sx.1 ∧ w_X12_passes (sx.2 (Int32.toNatClampNeg (x1 + (1 : Int32)))) (sx.2 (Int32.toNatClampNeg (x1 + (2 : Int32)))) (sx.2 (Int32.toNatClampNeg (x1 + (3 : Int32)))) σ44 (fun r47 σ46 => if r45 = r47 then (J1615 σ46) else (Q (0 : Int32) σ46)))) else (if ((sx.2 (Int32.toNatClampNeg x1)) &&& (63 : Int32)) = (11 : Int32) then (vp_in (x1 + (1 : Int32)) sx.1 ∧ w_X11_meet (sx.2 (Int32.toNatClampNeg (x1 + (1 : Int32)))) σ2 (fun r49 σ48 => vp_in (x1 + (1 : Int32)) sx.1 ∧ w_X12_meet (sx.2 (Int32.toNatClampNeg (x1 + (1 : Int32)))) σ48 (fun r51 σ50 => if r49 = r51 then (J1615 σ50) else (Q (0 : Int32) σ50)))) else (if ((sx.2 (Int32.toNatClampNeg x1)) &&& (63 : Int32)) = (12 : Int32) then (vp_in (x1 + (1 : Int32)) sx.1 ∧ vp_in (x1 + (2 : Int32)) sx.1 ∧ w_X11_often (sx.2 (Int32.toNatClampNeg (x1 + (1 : Int32)))) (sx.2 (Int32.toNatClampNeg (x1 + (2 : Int32)))) σ2 (fun r53 σ52 => vp_in (x1 + (1 : Int32)) sx.1 ∧ vp_in (x1 + (2 : Int32)) sx.1 ∧ w_X12_often (sx.2 (Int32.toNatClampNeg (x1 + (1 : Int32)))) (sx.2 (Int32.toNatClampNeg (x1 + (2 : Int32)))) σ52 (fun r55 σ54 => if r53 = r55 then (J1615 σ54) else (Q (0 : Int32) σ54)))) else (if ((sx.2 (Int32.toNatClampNeg x1)) &&& (63 : Int32)) = (13 : Int32) then (vp_in (x1 + (1 : Int32)) sx.1 ∧ vp_in (x1 + (2 : Int32)) sx.1 ∧ w_X11_who (sx.2 (Int32.toNatClampNeg (x1 + (1 : Int32)))) (sx.2 (Int32.toNatClampNeg (x1 + (2 : Int32)))) σ2 (fun r57 σ56 => vp_in (x1 + (1 : Int32)) sx.1 ∧ vp_in (x1 + (2 : Int32)) sx.1 ∧ w_X12_who (sx.2 (Int32.toNatClampNeg (x1 + (1 : Int32)))) (sx.2 (Int32.toNatClampNeg (x1 + (2 : Int32)))) σ56 (fun r59 σ58 => if r57 = r59 then (J1615 σ58) else (Q (0 : Int32) σ58)))) else (if ((sx.2 (Int32.toNatClampNeg x1)) &&& (63 : Int32)) = (14 : Int32) then (vp_in (x1 + (1 : Int32)) sx.1 ∧ vp_in (x1 + (2 : Int32)) sx.1 ∧ w_X11_soonest (sx.2 (Int32.toNatClampNeg (x1 + (1 : Int32)))) (sx.2 (Int32.toNatClampNeg (x1 + (2 : Int32)))) σ2 (fun r61 σ60 => vp_in (x1 + (1 : Int32)) sx.1 ∧ vp_in (x1 + (2 : Int32)) sx.1 ∧ w_X12_soonest (sx.2 (Int32.toNatClampNeg (x1 + (1 : Int32)))) (sx.2 (Int32.toNatClampNeg (x1 + (2 : Int32)))) σ60 (fun r63 σ62 => if r61 = r63 then (J1615 σ62) else (Q (0 : Int32) σ62)))) else (if ((sx.2 (Int32.toNatClampNeg x1)) &&& (63 : Int32)) = (15 : Int32) then (vp_in (x1 + (1 : Int32)) sx.1 ∧ vp_in (x1 + (2 : Int32)) sx.1 ∧ vp_in (x1 + (3 : Int32)) sx.1 ∧ w_X11_buy (sx.2 (Int32.toNatClampNeg (x1 + (1 : Int32)))) (sx.2 (Int32.toNatClampNeg (x1 + (2 : Int32)))) (sx.2 (Int32.toNatClampNeg (x1 + (3 : Int32)))) σ2 (fun r65 σ64 => vp_in (x1 + (1 : Int32)) sx.1 ∧ vp_in (x1 + (2 : Int32)) sx.1 ∧ vp_in (x1 + (3 : Int32)) sx.1 ∧ w_X12_buy (sx.2 (Int32.toNatClampNeg (x1 + (1 : Int32)))) (sx.2 (Int32.toNatClampNeg (x1 + (2 : Int32)))) (sx.2 (Int32.toNatClampNeg (x1 + (3 : Int32)))) σ64 (fun r67 σ66 => if r65 = r67 then (J1615 σ66) else (Q (0 : Int32) σ66)))) else (if ((sx.2 (Int32.toNatClampNeg x1)) &&& (63 : Int32)) = (16 : Int32) then (vp_in (x1 + (1 : Int32)) sx.1 ∧ vp_in (x1 + (2 : Int32)) sx.1 ∧ w_X11_judge (sx.2 (Int32.toNatClampNeg (x1 + (1 : Int32)))) (sx.2 (Int32.toNatClampNeg (x1 + (2 : Int32)))) σ2 (fun r69 σ68 => vp_in (x1 + (1 : Int32)) sx.1 ∧ vp_in (x1 + (2 : Int32)) sx.1 ∧ w_X12_judge (sx.2 (Int32.toNatClampNeg (x1 + (1 : Int32)))) (sx.2 (Int32.toNatClampNeg (x1 + (2 : Int32)))) σ68 (fun r71 σ70 => if r69 = r71 then (J1615 σ70) else (Q (0 : Int32) σ70)))) else (if ((sx.2 (Int32.toNatClampNeg x1)) &&& (63 : Int32)) = (17 : Int32) then (vp_in (x1 + (1 : Int32)) sx.1 ∧ vp_in (x1 + (2 : Int32)) sx.1 ∧ vp_in (x1 + (3 : Int32)) sx.1 ∧ w_X11_dined (sx.2 (Int32.toNatClampNeg (x1 + (1 : Int32)))) (sx.2 (Int32.toNatClampNeg (x1 + (2 : Int32)))) (sx.2 (Int32.toNatClampNeg (x1 + (3 : Int32)))) σ2 (fun r73 σ72 => vp_in (x1 + (1 : Int32)) sx.1 ∧ vp_in (x1 + (2 : Int32)) sx.1 ∧ vp_in (x1 + (3 : Int32)) sx.1 ∧ w_X12_dined (sx.2 (Int32.toNatClampNeg (x1 + (1 : Int32)))) (sx.2 (Int32.toNatClampNeg (x1 + (2 : Int32)))) (sx.2 (Int32.toNatClampNeg (x1 + (3 : Int32)))) σ72 (fun r75 σ74 => if r73 = r75 then (J1615 σ74) else (Q (0 : Int32) σ74)))) else (if ((sx.2 (Int32.toNatClampNeg x1)) &&& (63 : Int32)) = (18 : Int32) then (vp_in (x1 + (1 : Int32)) sx.1 ∧ vp_in (x1 + (2 : Int32)) sx.1 ∧ vp_in (x1 + (3 : Int32)) sx.1 ∧ w_X11_reins (sx.2 (Int32.toNatClampNeg (x1 + (1 : Int32)))) (sx.2 (Int32.toNatClampNeg (x1 + (2 : Int32)))) (sx.2 (Int32.toNatClampNeg (x1 + (3 : Int32)))) σ2 (fun r77 σ76 => vp_in (x1 + (1 : Int32)) sx.1 ∧ vp_in (x1 + (2 : Int32)) sx.1 ∧ vp_in (x1 + (3 : Int32)) sx.1 ∧ w_X12_reins (sx.2 (Int32.toNatClampNeg (x1 + (1 : Int32)))) (sx.2 (Int32.toNatClampNeg (x1 + (2 : Int32)))) (sx.2 (Int32.toNatClampNeg (x1 + (3 : Int32)))) σ76 (fun r79 σ78 => if r77 = r79 then (J1615 σ78) else (Q (0 : Int32) σ78)))) else (if ((sx.2 (Int32.toNatClampNeg x1)) &&& (63 : Int32)) = (19 : Int32) then (vp_in (x1 + (1 : Int32)) sx.1 ∧ vp_in (x1 + (2 : Int32)) sx.1 ∧ vp_in (x1 + (3 : Int32)) sx.1 ∧ vp_in (x1 + (4 : Int32)) sx.1 ∧ w_X11_chance (sx.2 (Int32.toNatClampNeg (x1 + (1 : Int32)))) (sx.2 (Int32.toNatClampNeg (x1 + (2 : Int32)))) (sx.2 (Int32.toNatClampNeg (x1 + (3 : Int32)))) (sx.2 (Int32.toNatClampNeg (x1 + (4 : Int32)))) σ2 (fun r81 σ80 => vp_in (x1 + (1 : Int32)) sx.1 ∧ vp_in (x1 + (2 : Int32)) sx.1 ∧ vp_in (x1 + (3 : Int32)) sx.1 ∧ vp_in (x1 + (4 : Int32)) sx.1 ∧ w_X12_chance (sx.2 (Int32.toNatClampNeg (x1 + (1 : Int32)))) (sx.2 (Int32.toNatClampNeg (x1 + (2 : Int32)))) (sx.2 (Int32.toNatClampNeg (x1 + (3 : Int32)))) (sx.2 (Int32.toNatClampNeg (x1 + (4 : Int32)))) σ80 (fun r83 σ82 => if (lg_cmp r81 r83) = 0 then (J1615 σ82) else (Q (0 : Int32) σ82)))) else (if ((sx.2 (Int32.toNatClampNeg x1)) &&& (63 : Int32)) = (20 : Int32) then (vp_in (x1 + (1 : Int32)) sx.1 ∧ vp_in (x1 + (2 : Int32)) sx.1 ∧ vp_in (x1 + (3 : Int32)) sx.1 ∧ vp_in (x1 + (4 : Int32)) sx.1 ∧ w_X11_mean (sx.2 (Int32.toNatClampNeg (x1 + (1 : Int32)))) (sx.2 (Int32.toNatClampNeg (x1 + (2 : Int32)))) (sx.2 (Int32.toNatClampNeg (x1 + (3 : Int32)))) (sx.2 (Int32.toNatClampNeg (x1 + (4 : Int32)))) σ2 (fun r85 σ84 => vp_in (x1 + (1 : Int32)) sx.1 ∧ vp_in (x1 + (2 : Int32)) sx.1 ∧ vp_in (x1 + (3 : Int32)) sx.1 ∧ vp_in (x1 + (4 : Int32)) sx.1 ∧ w_X12_mean (sx.2 (Int32.toNatClampNeg (x1 + (1 : Int32)))) (sx.2 (Int32.toNatClampNeg (x1 + (2 : Int32)))) (sx.2 (Int32.toNatClampNeg (x1 + (3 : Int32)))) (sx.2 (Int32.toNatClampNeg (x1 + (4 : Int32)))) σ84 (fun r87 σ86 => if (lg_cmp r85 r87) = 0 then (J1615 σ86) else (Q (0 : Int32) σ86)))) else (if ((sx.2 (Int32.toNatClampNeg x1)) &&& (63 : Int32)) = (21 : Int32) then (vp_in (x1 + (1 : Int32)) sx.1 ∧ vp_in (x1 + (2 : Int32)) sx.1 ∧ vp_in (x1 + (3 : Int32)) sx.1 ∧ w_X11_byTurns (sx.2 (Int32.toNatClampNeg (x1 + (1 : Int32)))) (sx.2 (Int32.toNatClampNeg (x1 + (2 : Int32)))) (sx.2 (Int32.toNatClampNeg (x1 + (3 : Int32)))) σ2 (fun r89 σ88 => vp_in (x1 + (1 : Int32)) sx.1 ∧ vp_in (x1 + (2 : Int32)) sx.1 ∧ vp_in (x1 + (3 : Int32)) sx.1 ∧ w_X12_byTurns (sx.2 (Int32.toNatClampNeg (x1 + (1 : Int32)))) (sx.2 (Int32.toNatClampNeg (x1 + (2 : Int32)))) (sx.2 (Int32.toNatClampNeg (x1 + (3 : Int32)))) σ88 (fun r91 σ90 => if r89 = r91 then (J1615 σ90) else (Q (0 : Int32) σ90)))) else (if ((sx.2 (Int32.toNatClampNeg x1)) &&& (63 : Int32)) = (22 : Int32) then (vp_in (x1 + (1 : Int32)) sx.1 ∧ vp_in (x1 + (2 : Int32)) sx.1 ∧ vp_in (x1 + (3 : Int32)) sx.1 ∧ w_X11_drawn (sx.2 (Int32.toNatClampNeg (x1 + (1 : Int32)))) (sx.2 (Int32.toNatClampNeg (x1 + (2 : Int32)))) (sx.2 (Int32.toNatClampNeg (x1 + (3 : Int32)))) σ2 (fun r93 σ92 => vp_in (x1 + (1 : Int32)) sx.1 ∧ vp_in (x1 + (2 : Int32)) sx.1 ∧ vp_in (x1 + (3 : Int32)) sx.1 ∧ w_X12_drawn (sx.2 (Int32.toNatClampNeg (x1 + (1 : Int32)))) (sx.2 (Int32.toNatClampNeg (x1 + (2 : Int32)))) (sx.2 (Int32.toNatClampNeg (x1 + (3 : Int32)))) σ92 (fun r95 σ94 => if r93 = r95 then (J1615 σ94) else (Q (0 : Int32) σ94)))) else (if ((sx.2 (Int32.toNatClampNeg x1)) &&& (63 : Int32)) = (23 : Int32) then (w_X11_hour  σ2 (fun r97 σ96 => w_X12_hour  σ96 (fun r99 σ98 => if r97 = r99 then (J1615 σ98) else (Q (0 : Int32) σ98)))) else (if ((sx.2 (Int32.toNatClampNeg x1)) &&& (63 : Int32)) = (24 : Int32) then (vp_in (x1 + (1 : Int32)) sx.1 ∧ vp_in (x1 + (2 : Int32)) sx.1 ∧ w_X11_rein (sx.2 (Int32.toNatClampNeg (x1 + (1 : Int32)))) (sx.2 (Int32.toNatClampNeg (x1 + (2 : Int32)))) σ2 (fun r101 σ100 => vp_in (x1 + (1 : Int32)) sx.1 ∧ vp_in (x1 + (2 : Int32)) sx.1 ∧ w_X12_rein (sx.2 (Int32.toNatClampNeg (x1 + (1 : Int32)))) (sx.2 (Int32.toNatClampNeg (x1 + (2 : Int32)))) σ100 (fun r103 σ102 => if r101 = r103 then (J1615 σ102) else (Q (0 : Int32) σ102)))) else (if ((sx.2 (Int32.toNatClampNeg x1)) &&& (63 : Int32)) = (25 : Int32) then (vp_in (x1 + (1 : Int32)) sx.1 ∧ w_X11_shoe (sx.2 (Int32.toNatClampNeg (x1 + (1 : Int32)))) σ2 (fun r105 σ104 => vp_in (x1 + (1 : Int32)) sx.1 ∧ w_X12_shoe (sx.2 (Int32.toNatClampNeg (x1 + (1 : Int32)))) σ104 (fun r107 σ106 => if r105 = r107 then (J1615 σ106) else (Q (0 : Int32) σ106)))) else (if ((sx.2 (Int32.toNatClampNeg x1)) &&& (63 : Int32)) = (26 : Int32) then (vp_in (x1 + (1 : Int32)) sx.1 ∧ w_X11_buys (sx.2 (Int32.toNatClampNeg (x1 + (1 : Int32)))) σ2 (fun r109 σ108 => vp_in (x1 + (1 : Int32)) sx.1 ∧ w_X12_buys (sx.2 (Int32.toNatClampNeg (x1 + (1 : Int32)))) σ108 (fun r111 σ110 => if r109 = r111 then (J1615 σ110) else (Q (0 : Int32) σ110)))) else (if ((sx.2 (Int32.toNatClampNeg x1)) &&& (63 : Int32)) = (27 : Int32) then (vp_in (x1 + (1 : Int32)) sx.1 ∧ w_X11_led (sx.2 (Int32.toNatClampNeg (x1 + (1 : Int32)))) σ2 (fun r113 σ112 => vp_in (x1 + (1 : Int32)) sx.1 ∧ w_X12_led (sx.2 (Int32.toNatClampNeg (x1 + (1 : Int32)))) σ112 (fun r115 σ114 => if r113 = r115 then (J1615 σ114) else (Q (0 : Int32) σ114)))) else (if ((sx.2 (Int32.toNatClampNeg x1)) &&& (63 : Int32)) = (28 : Int32) then (w_X11_image  σ2 (fun r117 σ116 => w_X12_image  σ116 (fun r119 σ118 => if r117 = r119 then (J1615 σ118) else (Q (0 : Int32) σ118)))) else (if ((sx.2 (Int32.toNatClampNeg x1)) &&& (63 : Int32)) = (29 : Int32) then (w_X11_back  σ2 (fun r121 σ120 => w_X12_back  σ120 (fun r123 σ122 => if r121 = r123 then (J1615 σ122) else (Q (0 : Int32) σ122)))) else (if ((sx.2 (Int32.toNatClampNeg x1)) &&& (63 : Int32)) = (30 : Int32) then (w_X11_undo  σ2 (fun r125 σ124 => w_X12_undo  σ124 (fun r127 σ126 => if r125 = r127 then (J1615 σ126) else (Q (0 : Int32) σ126)))) else (if ((sx.2 (Int32.toNatClampNeg x1)) &&& (63 : Int32)) = (31 : Int32) then (w_X11_redo  σ2 (fun r129 σ128 => w_X12_redo  σ128 (fun r131 σ130 => if r129 = r131 then (J1615 σ130) else (Q (0 : Int32) σ130)))) else (if ((sx.2 (Int32.toNatClampNeg x1)) &&& (63 : Int32)) = (32 : Int32) then (vp_in (x1 + (1 : Int32)) sx.1 ∧ w_X11_body (sx.2 (Int32.toNatClampNeg (x1 + (1 : Int32)))) σ2 (fun r133 σ132 => vp_in (x1 + (1 : Int32)) sx.1 ∧ w_X12_body (sx.2 (Int32.toNatClampNeg (x1 + (1 : Int32)))) σ132 (fun r135 σ134 => if r133 = r135 then (J1615 σ134) else (Q (0 : Int32) σ134)))) else (if ((sx.2 (Int32.toNatClampNeg x1)) &&& (63 : Int32)) = (33 : Int32) then (vp_in (x1 + (1 : Int32)) sx.1 ∧ vp_in (x1 + (2 : Int32)) sx.1 ∧ vp_in (x1 + (3 : Int32)) sx.1 ∧ w_X11_act (sx.2 (Int32.toNatClampNeg (x1 + (1 : Int32)))) (sx.2 (Int32.toNatClampNeg (x1 + (2 : Int32)))) (sx.2 (Int32.toNatClampNeg (x1 + (3 : Int32)))) σ2 (fun r137 σ136 => vp_in (x1 + (1 : Int32)) sx.1 ∧ vp_in (x1 + (2 : Int32)) sx.1 ∧ vp_in (x1 + (3 : Int32)) sx.1 ∧ w_X12_act (sx.2 (Int32.toNatClampNeg (x1 + (1 : Int32)))) (sx.2 (Int32.toNatClampNeg (x1 + (2 : Int32)))) (sx.2 (Int32.toNatClampNeg (x1 + (3 : Int32)))) σ136 (fun r139 σ138 => if r137 = r139 then (J1615 σ138) else (Q (0 : Int32) σ138)))) else (if ((sx.2 (Int32.toNatClampNeg x1)) &&& (63 : Int32)) = (34 : Int32) then (vp_in (x1 + (1 : Int32)) sx.1 ∧ w_X11_trace (sx.2 (Int32.toNatClampNeg (x1 + (1 : Int32)))) σ2 (fun r141 σ140 => vp_in (x1 + (1 : Int32)) sx.1 ∧ w_X12_trace (sx.2 (Int32.toNatClampNeg (x1 + (1 : Int32)))) σ140 (fun r143 σ142 => if r141 = r143 then (J1615 σ142) else (Q (0 : Int32) σ142)))) else (if ((sx.2 (Int32.toNatClampNeg x1)) &&& (63 : Int32)) = (35 : Int32) then (vp_in (x1 + (1 : Int32)) sx.1 ∧ vp_in (x1 + (2 : Int32)) sx.1 ∧ w_X11_keep (sx.2 (Int32.toNatClampNeg (x1 + (1 : Int32)))) (sx.2 (Int32.toNatClampNeg (x1 + (2 : Int32)))) σ2 (fun r145 σ144 => vp_in (x1 + (1 : Int32)) sx.1 ∧ vp_in (x1 + (2 : Int32)) sx.1 ∧ w_X12_keep (sx.2 (Int32.toNatClampNeg (x1 + (1 : Int32)))) (sx.2 (Int32.toNatClampNeg (x1 + (2 : Int32)))) σ144 (fun r147 σ146 => if r145 = r147 then (J1615 σ146) else (Q (0 : Int32) σ146)))) else (if ((sx.2 (Int32.toNatClampNeg x1)) &&& (63 : Int32)) = (36 : Int32) then (vp_in (x1 + (1 : Int32)) sx.1 ∧ vp_in (x1 + (2 : Int32)) sx.1 ∧ vp_in (x1 + (3 : Int32)) sx.1 ∧ w_X11_row (sx.2 (Int32.toNatClampNeg (x1 + (1 : Int32)))) (sx.2 (Int32.toNatClampNeg (x1 + (2 : Int32)))) (sx.2 (Int32.toNatClampNeg (x1 + (3 : Int32)))) σ2 (fun r149 σ148 => vp_in (x1 + (1 : Int32)) sx.1 ∧ vp_in (x1 + (2 : Int32)) sx.1 ∧ vp_in (x1 + (3 : Int32)) sx.1 ∧ w_X12_row (sx.2 (Int32.toNatClampNeg (x1 + (1 : Int32)))) (sx.2 (Int32.toNatClampNeg (x1 + (2 : Int32)))) (sx.2 (Int32.toNatClampNeg (x1 + (3 : Int32)))) σ148 (fun r151 σ150 => if r149 = r151 then (J1615 σ150) else (Q (0 : Int32) σ150)))) else (if ((sx.2 (Int32.toNatClampNeg x1)) &&& (63 : Int32)) = (37 : Int32) then (vp_in (x1 + (1 : Int32)) sx.1 ∧ vp_in (x1 + (2 : Int32)) sx.1 ∧ vp_in (x1 + (3 : Int32)) sx.1 ∧ vp_in (x1 + (4 : Int32)) sx.1 ∧ w_X11_put (sx.2 (Int32.toNatClampNeg (x1 + (1 : Int32)))) (sx.2 (Int32.toNatClampNeg (x1 + (2 : Int32)))) (((Int32.toInt64 (sx.2 (Int32.toNatClampNeg (x1 + (3 : Int32))))) <<< (Int32.toInt64 (32 : Int32) &&& 63)) ||| ((Int32.toInt64 (sx.2 (Int32.toNatClampNeg (x1 + (4 : Int32))))) &&& (4294967295 : Int64))) σ2 (fun r153 σ152 => vp_in (x1 + (1 : Int32)) sx.1 ∧ vp_in (x1 + (2 : Int32)) sx.1 ∧ vp_in (x1 + (3 : Int32)) sx.1 ∧ vp_in (x1 + (4 : Int32)) sx.1 ∧ w_X12_put (sx.2 (Int32.toNatClampNeg (x1 + (1 : Int32)))) (sx.2 (Int32.toNatClampNeg (x1 + (2 : Int32)))) (((Int32.toInt64 (sx.2 (Int32.toNatClampNeg (x1 + (3 : Int32))))) <<< (Int32.toInt64 (32 : Int32) &&& 63)) ||| ((Int32.toInt64 (sx.2 (Int32.toNatClampNeg (x1 + (4 : Int32))))) &&& (4294967295 : Int64))) σ152 (fun r155 σ154 => if r153 = r155 then (J1615 σ154) else (Q (0 : Int32) σ154)))) else (if ((sx.2 (Int32.toNatClampNeg x1)) &&& (63 : Int32)) = (38 : Int32) then (vp_in (x1 + (1 : Int32)) sx.1 ∧ vp_in (x1 + (2 : Int32)) sx.1 ∧ w_X11_element (sx.2 (Int32.toNatClampNeg (x1 + (1 : Int32)))) (sx.2 (Int32.toNatClampNeg (x1 + (2 : Int32)))) σ2 (fun r157 σ156 => vp_in (x1 + (1 : Int32)) sx.1 ∧ vp_in (x1 + (2 : Int32)) sx.1 ∧ w_X12_element (sx.2 (Int32.toNatClampNeg (x1 + (1 : Int32)))) (sx.2 (Int32.toNatClampNeg (x1 + (2 : Int32)))) σ156 (fun r159 σ158 => if (lg_cmp r157 r159) = 0 then (J1615 σ158) else (Q (0 : Int32) σ158)))) else (if ((sx.2 (Int32.toNatClampNeg x1)) &&& (63 : Int32)) = (39 : Int32) then (vp_in (x1 + (1 : Int32)) sx.1 ∧ vp_in (x1 + (2 : Int32)) sx.1 ∧ vp_in (x1 + (3 : Int32)) sx.1 ∧ vp_in (x1 + (4 : Int32)) sx.1 ∧ vp_in (x1 + (5 : Int32)) sx.1 ∧ w_X11_shift (sx.2 (Int32.toNatClampNeg (x1 + (1 : Int32)))) (sx.2 (Int32.toNatClampNeg (x1 + (2 : Int32)))) (sx.2 (Int32.toNatClampNeg (x1 + (3 : Int32)))) (sx.2 (Int32.toNatClampNeg (x1 + (4 : Int32)))) (sx.2 (Int32.toNatClampNeg (x1 + (5 : Int32)))) σ2 (fun r161 σ160 => vp_in (x1 + (1 : Int32)) sx.1 ∧ vp_in (x1 + (2 : Int32)) sx.1 ∧ vp_in (x1 + (3 : Int32)) sx.1 ∧ vp_in (x1 + (4 : Int32)) sx.1 ∧ vp_in (x1 + (5 : Int32)) sx.1 ∧ w_X12_shift (sx.2 (Int32.toNatClampNeg (x1 + (1 : Int32)))) (sx.2 (Int32.toNatClampNeg (x1 + (2 : Int32)))) (sx.2 (Int32.toNatClampNeg (x1 + (3 : Int32)))) (sx.2 (Int32.toNatClampNeg (x1 + (4 : Int32)))) (sx.2 (Int32.toNatClampNeg (x1 + (5 : Int32)))) σ160 (fun r163 σ162 => if r161 = r163 then (J1615 σ162) else (Q (0 : Int32) σ162)))) else (if ((sx.2 (Int32.toNatClampNeg x1)) &&& (63 : Int32)) = (40 : Int32) then (vp_in (x1 + (1 : Int32)) sx.1 ∧ vp_in (x1 + (2 : Int32)) sx.1 ∧ w_X11_taken (sx.2 (Int32.toNatClampNeg (x1 + (1 : Int32)))) (sx.2 (Int32.toNatClampNeg (x1 + (2 : Int32)))) σ2 (fun r165 σ164 => vp_in (x1 + (1 : Int32)) sx.1 ∧ vp_in (x1 + (2 : Int32)) sx.1 ∧ w_X12_taken (sx.2 (Int32.toNatClampNeg (x1 + (1 : Int32)))) (sx.2 (Int32.toNatClampNeg (x1 + (2 : Int32)))) σ164 (fun r167 σ166 => if r165 = r167 then (J1615 σ166) else (Q (0 : Int32) σ166)))) else (if ((sx.2 (Int32.toNatClampNeg x1)) &&& (63 : Int32)) = (41 : Int32) then (vp_in (x1 + (1 : Int32)) sx.1 ∧ w_X11_count (sx.2 (Int32.toNatClampNeg (x1 + (1 : Int32)))) σ2 (fun r169 σ168 => vp_in (x1 + (1 : Int32)) sx.1 ∧ w_X12_count (sx.2 (Int32.toNatClampNeg (x1 + (1 : Int32)))) σ168 (fun r171 σ170 => if r169 = r171 then (J1615 σ170) else (Q (0 : Int32) σ170)))) else (J1615 σ2)))))))))))))))))))))))))))))))))))))))))))
def w_L_law (sx : Nat × (Nat → Int32)) (σ : Sg) (Q : Int32 → Sg → Prop) : Prop := ∃ n, w_L_law_l18 Q sx n (0 : Int32) σ
set_option maxRecDepth 100000 in
set_option maxHeartbeats 40000000 in
theorem s_L_law (sx : Nat × (Nat → Int32)) (σ : Sg) (Q : Int32 → Sg → Prop) (h : w_L_law sx σ Q) : Ex mL_law 1000 true (0, 0) sx G0 16 [some (.float 0), some (.ref 0), some (.ref 60), none] [] σ (qI Q) := by
  unfold w_L_law at h
  refine X_iconst (v := 0) dL_law_16 iconst_0 ?_
  refine X_istore_n (L' := [some (.float 0), some (.ref 0), some (.ref 60), some (.int (0 : Int32))]) dL_law_17 rfl (by decide) rfl ?_
  obtain ⟨n18, h⟩ := h
  have key18 : ∀ (n : Nat) (x1 : Int32) (σ2 : Sg) , w_L_law_l18 Q sx n x1 σ2 → Ex mL_law 1000 true (0, 0) sx G0 18 [some (.float 0), some (.ref 0), some (.ref 60), some (.int x1)] [] σ2 (qI Q) := by
    intro n18
    induction n18 with
    | zero => intro _ _  h; exact h.elim
    | succ n18 ih18 =>
      intro x1 σ2  h
      unfold w_L_law_l18 at h
      refine X_iload_n dL_law_18 rfl rfl ?_
      refine X_aload_nX dL_law_19 rfl rfl ?_
      refine X_alenX (v := 0) (n := Int32.ofNat sx.1) (by decide) rfl dL_law_20 ?_
      refine X_bipush (v := 6) dL_law_21 bipush_6 ?_
      refine X_isub dL_law_23 ?_
      refine X_icmp_gt (tgt := 1621) dL_law_24 (by decide) h (fun h => ?_) (fun h => ?_)
      · refine X_iconst (v := 1) dL_law_1621 iconst_1 ?_
        exact X_retz rfl rfl dL_law_1622 h
      · refine X_aload_nX dL_law_27 rfl rfl ?_
        refine X_iload_n dL_law_28 rfl rfl ?_
        refine X_ialdX (v := 0) (f := sx.2) (n := sx.1) (by decide) rfl rfl dL_law_29 h (fun h => ?_)
        refine X_bipush (v := 63) dL_law_30 bipush_63 ?_
        refine X_iand dL_law_32 ?_
        refine bd_j h (fun J1615 e1615 h => ?_)
        have j1615 : ∀ (σ3 : Sg) , J1615  σ3 → Ex mL_law 1000 true (0, 0) sx G0 1615 [some (.float 0), some (.ref 0), some (.ref 60), some (.int x1)] [] σ3 (qI Q) := by
          intro  σ3  h
          subst e1615
          replace h := h
          refine X_iinc (v := (x1 + 6)) (L' := [some (.float 0), some (.ref 0), some (.ref 60), some (.int (x1 + 6))]) dL_law_1615 rfl rfl (by decide) rfl ?_
          refine X_goto (tgt := 18) dL_law_1618 (by decide) ?_
          exact ih18 _ _  h
        by_cases hc33_0 : ((sx.2 (Int32.toNatClampNeg x1)) &&& (63 : Int32)) = (0 : Int32)
        · replace h := if_t h hc33_0
          refine X_tableIn (tgt := 216) dL_law_33 (by rw [hc33_0] <;> decide) (by rw [hc33_0] <;> decide) (by rw [hc33_0] <;> rfl) (by decide) ?_
          refine X_aload_n dL_law_216 rfl rfl ?_
          refine X_aload_nX dL_law_217 rfl rfl ?_
          refine X_iload_n dL_law_218 rfl rfl ?_
          refine X_iconst (v := 1) dL_law_219 iconst_1 ?_
          refine X_iadd dL_law_220 ?_
          refine X_ialdX (v := 0) (f := sx.2) (n := sx.1) (by decide) rfl rfl dL_law_221 h (fun h => ?_)
          refine X_aload_nX dL_law_222 rfl rfl ?_
          refine X_iload_n dL_law_223 rfl rfl ?_
          refine X_iconst (v := 2) dL_law_224 iconst_2 ?_
          refine X_iadd dL_law_225 ?_
          refine X_ialdX (v := 0) (f := sx.2) (n := sx.1) (by decide) rfl rfl dL_law_226 h (fun h => ?_)
          refine X_callVit [.int (sx.2 (Int32.toNatClampNeg (x1 + (1 : Int32)))), .int (sx.2 (Int32.toNatClampNeg (x1 + (2 : Int32))))] [] c_X11_carriage v_X11_carriage lk_L_13 dL_law_227 g_0 rfl rfl rfl (by decide) (Nat.le_of_ble_eq_true rfl) rfl (s_X11_carriage sx (sx.2 (Int32.toNatClampNeg (x1 + (1 : Int32)))) (sx.2 (Int32.toNatClampNeg (x1 + (2 : Int32))))  σ2 _ h) (fun r5 σ4 h => ?_)
          refine X_aload_n dL_law_230 rfl rfl ?_
          refine X_aload_nX dL_law_231 rfl rfl ?_
          refine X_iload_n dL_law_232 rfl rfl ?_
          refine X_iconst (v := 1) dL_law_233 iconst_1 ?_
          refine X_iadd dL_law_234 ?_
          refine X_ialdX (v := 0) (f := sx.2) (n := sx.1) (by decide) rfl rfl dL_law_235 h (fun h => ?_)
          refine X_aload_nX dL_law_236 rfl rfl ?_
          refine X_iload_n dL_law_237 rfl rfl ?_
          refine X_iconst (v := 2) dL_law_238 iconst_2 ?_
          refine X_iadd dL_law_239 ?_
          refine X_ialdX (v := 0) (f := sx.2) (n := sx.1) (by decide) rfl rfl dL_law_240 h (fun h => ?_)
          refine X_callVit [.int (sx.2 (Int32.toNatClampNeg (x1 + (1 : Int32)))), .int (sx.2 (Int32.toNatClampNeg (x1 + (2 : Int32))))] [.int r5] c_X12_carriage v_X12_carriage lk_L_17 dL_law_241 g_60 rfl rfl rfl (by decide) (Nat.le_of_ble_eq_true rfl) rfl (s_X12_carriage sx (sx.2 (Int32.toNatClampNeg (x1 + (1 : Int32)))) (sx.2 (Int32.toNatClampNeg (x1 + (2 : Int32))))  σ4 _ h) (fun r7 σ6 h => ?_)
          refine X_icmp_eq (tgt := 1615) dL_law_244 (by decide) h (fun h => ?_) (fun h => ?_)
          · exact j1615 _  h
          · refine X_iconst (v := 0) dL_law_247 iconst_0 ?_
            exact X_retz rfl rfl dL_law_248 h
        replace h := if_f h hc33_0
        by_cases hc33_1 : ((sx.2 (Int32.toNatClampNeg x1)) &&& (63 : Int32)) = (1 : Int32)
        · replace h := if_t h hc33_1
          refine X_tableIn (tgt := 249) dL_law_33 (by rw [hc33_1] <;> decide) (by rw [hc33_1] <;> decide) (by rw [hc33_1] <;> rfl) (by decide) ?_
          refine X_aload_n dL_law_249 rfl rfl ?_
          refine X_aload_nX dL_law_250 rfl rfl ?_
          refine X_iload_n dL_law_251 rfl rfl ?_
          refine X_iconst (v := 1) dL_law_252 iconst_1 ?_
          refine X_iadd dL_law_253 ?_
          refine X_ialdX (v := 0) (f := sx.2) (n := sx.1) (by decide) rfl rfl dL_law_254 h (fun h => ?_)
          refine X_aload_nX dL_law_255 rfl rfl ?_
          refine X_iload_n dL_law_256 rfl rfl ?_
          refine X_iconst (v := 2) dL_law_257 iconst_2 ?_
          refine X_iadd dL_law_258 ?_
          refine X_ialdX (v := 0) (f := sx.2) (n := sx.1) (by decide) rfl rfl dL_law_259 h (fun h => ?_)
          refine X_aload_nX dL_law_260 rfl rfl ?_
          refine X_iload_n dL_law_261 rfl rfl ?_
          refine X_iconst (v := 3) dL_law_262 iconst_3 ?_
          refine X_iadd dL_law_263 ?_
          refine X_ialdX (v := 0) (f := sx.2) (n := sx.1) (by decide) rfl rfl dL_law_264 h (fun h => ?_)
          refine X_callVit [.int (sx.2 (Int32.toNatClampNeg (x1 + (1 : Int32)))), .int (sx.2 (Int32.toNatClampNeg (x1 + (2 : Int32)))), .int (sx.2 (Int32.toNatClampNeg (x1 + (3 : Int32))))] [] c_X11_carriages v_X11_carriages lk_L_18 dL_law_265 g_0 rfl rfl rfl (by decide) (Nat.le_of_ble_eq_true rfl) rfl (s_X11_carriages sx (sx.2 (Int32.toNatClampNeg (x1 + (1 : Int32)))) (sx.2 (Int32.toNatClampNeg (x1 + (2 : Int32)))) (sx.2 (Int32.toNatClampNeg (x1 + (3 : Int32))))  σ2 _ h) (fun r9 σ8 h => ?_)
          refine X_aload_n dL_law_268 rfl rfl ?_
          refine X_aload_nX dL_law_269 rfl rfl ?_
          refine X_iload_n dL_law_270 rfl rfl ?_
          refine X_iconst (v := 1) dL_law_271 iconst_1 ?_
          refine X_iadd dL_law_272 ?_
          refine X_ialdX (v := 0) (f := sx.2) (n := sx.1) (by decide) rfl rfl dL_law_273 h (fun h => ?_)
          refine X_aload_nX dL_law_274 rfl rfl ?_
          refine X_iload_n dL_law_275 rfl rfl ?_
          refine X_iconst (v := 2) dL_law_276 iconst_2 ?_
          refine X_iadd dL_law_277 ?_
          refine X_ialdX (v := 0) (f := sx.2) (n := sx.1) (by decide) rfl rfl dL_law_278 h (fun h => ?_)
          refine X_aload_nX dL_law_279 rfl rfl ?_
          refine X_iload_n dL_law_280 rfl rfl ?_
          refine X_iconst (v := 3) dL_law_281 iconst_3 ?_
          refine X_iadd dL_law_282 ?_
          refine X_ialdX (v := 0) (f := sx.2) (n := sx.1) (by decide) rfl rfl dL_law_283 h (fun h => ?_)
          refine X_callVit [.int (sx.2 (Int32.toNatClampNeg (x1 + (1 : Int32)))), .int (sx.2 (Int32.toNatClampNeg (x1 + (2 : Int32)))), .int (sx.2 (Int32.toNatClampNeg (x1 + (3 : Int32))))] [.int r9] c_X12_carriages v_X12_carriages lk_L_22 dL_law_284 g_60 rfl rfl rfl (by decide) (Nat.le_of_ble_eq_true rfl) rfl (s_X12_carriages sx (sx.2 (Int32.toNatClampNeg (x1 + (1 : Int32)))) (sx.2 (Int32.toNatClampNeg (x1 + (2 : Int32)))) (sx.2 (Int32.toNatClampNeg (x1 + (3 : Int32))))  σ8 _ h) (fun r11 σ10 h => ?_)
          refine X_icmp_eq (tgt := 1615) dL_law_287 (by decide) h (fun h => ?_) (fun h => ?_)
          · exact j1615 _  h
          · refine X_iconst (v := 0) dL_law_290 iconst_0 ?_
            exact X_retz rfl rfl dL_law_291 h
        replace h := if_f h hc33_1
        by_cases hc33_2 : ((sx.2 (Int32.toNatClampNeg x1)) &&& (63 : Int32)) = (2 : Int32)
        · replace h := if_t h hc33_2
          refine X_tableIn (tgt := 292) dL_law_33 (by rw [hc33_2] <;> decide) (by rw [hc33_2] <;> decide) (by rw [hc33_2] <;> rfl) (by decide) ?_
          refine X_aload_n dL_law_292 rfl rfl ?_
          refine X_aload_nX dL_law_293 rfl rfl ?_
          refine X_iload_n dL_law_294 rfl rfl ?_
          refine X_iconst (v := 1) dL_law_295 iconst_1 ?_
          refine X_iadd dL_law_296 ?_
          refine X_ialdX (v := 0) (f := sx.2) (n := sx.1) (by decide) rfl rfl dL_law_297 h (fun h => ?_)
          refine X_callVit [.int (sx.2 (Int32.toNatClampNeg (x1 + (1 : Int32))))] [] c_X11_place v_X11_place lk_L_23 dL_law_298 g_0 rfl rfl rfl (by decide) (Nat.le_of_ble_eq_true rfl) rfl (s_X11_place sx (sx.2 (Int32.toNatClampNeg (x1 + (1 : Int32))))  σ2 _ h) (fun r13 σ12 h => ?_)
          refine X_aload_n dL_law_301 rfl rfl ?_
          refine X_aload_nX dL_law_302 rfl rfl ?_
          refine X_iload_n dL_law_303 rfl rfl ?_
          refine X_iconst (v := 1) dL_law_304 iconst_1 ?_
          refine X_iadd dL_law_305 ?_
          refine X_ialdX (v := 0) (f := sx.2) (n := sx.1) (by decide) rfl rfl dL_law_306 h (fun h => ?_)
          refine X_callVit [.int (sx.2 (Int32.toNatClampNeg (x1 + (1 : Int32))))] [.int r13] c_X12_place v_X12_place lk_L_27 dL_law_307 g_60 rfl rfl rfl (by decide) (Nat.le_of_ble_eq_true rfl) rfl (s_X12_place sx (sx.2 (Int32.toNatClampNeg (x1 + (1 : Int32))))  σ12 _ h) (fun r15 σ14 h => ?_)
          refine X_icmp_eq (tgt := 1615) dL_law_310 (by decide) h (fun h => ?_) (fun h => ?_)
          · exact j1615 _  h
          · refine X_iconst (v := 0) dL_law_313 iconst_0 ?_
            exact X_retz rfl rfl dL_law_314 h
        replace h := if_f h hc33_2
        by_cases hc33_3 : ((sx.2 (Int32.toNatClampNeg x1)) &&& (63 : Int32)) = (3 : Int32)
        · replace h := if_t h hc33_3
          refine X_tableIn (tgt := 315) dL_law_33 (by rw [hc33_3] <;> decide) (by rw [hc33_3] <;> decide) (by rw [hc33_3] <;> rfl) (by decide) ?_
          refine X_aload_n dL_law_315 rfl rfl ?_
          refine X_aload_nX dL_law_316 rfl rfl ?_
          refine X_iload_n dL_law_317 rfl rfl ?_
          refine X_iconst (v := 1) dL_law_318 iconst_1 ?_
          refine X_iadd dL_law_319 ?_
          refine X_ialdX (v := 0) (f := sx.2) (n := sx.1) (by decide) rfl rfl dL_law_320 h (fun h => ?_)
          refine X_aload_nX dL_law_321 rfl rfl ?_
          refine X_iload_n dL_law_322 rfl rfl ?_
          refine X_iconst (v := 2) dL_law_323 iconst_2 ?_
          refine X_iadd dL_law_324 ?_
          refine X_ialdX (v := 0) (f := sx.2) (n := sx.1) (by decide) rfl rfl dL_law_325 h (fun h => ?_)
          refine X_aload_nX dL_law_326 rfl rfl ?_
          refine X_iload_n dL_law_327 rfl rfl ?_
          refine X_iconst (v := 3) dL_law_328 iconst_3 ?_
          refine X_iadd dL_law_329 ?_
          refine X_ialdX (v := 0) (f := sx.2) (n := sx.1) (by decide) rfl rfl dL_law_330 h (fun h => ?_)
          refine X_callVit [.int (sx.2 (Int32.toNatClampNeg (x1 + (1 : Int32)))), .int (sx.2 (Int32.toNatClampNeg (x1 + (2 : Int32)))), .int (sx.2 (Int32.toNatClampNeg (x1 + (3 : Int32))))] [] c_X11_mend v_X11_mend lk_L_28 dL_law_331 g_0 rfl rfl rfl (by decide) (Nat.le_of_ble_eq_true rfl) rfl (s_X11_mend sx (sx.2 (Int32.toNatClampNeg (x1 + (1 : Int32)))) (sx.2 (Int32.toNatClampNeg (x1 + (2 : Int32)))) (sx.2 (Int32.toNatClampNeg (x1 + (3 : Int32))))  σ2 _ h) (fun r17 σ16 h => ?_)
          refine X_aload_n dL_law_334 rfl rfl ?_
          refine X_aload_nX dL_law_335 rfl rfl ?_
          refine X_iload_n dL_law_336 rfl rfl ?_
          refine X_iconst (v := 1) dL_law_337 iconst_1 ?_
          refine X_iadd dL_law_338 ?_
          refine X_ialdX (v := 0) (f := sx.2) (n := sx.1) (by decide) rfl rfl dL_law_339 h (fun h => ?_)
          refine X_aload_nX dL_law_340 rfl rfl ?_
          refine X_iload_n dL_law_341 rfl rfl ?_
          refine X_iconst (v := 2) dL_law_342 iconst_2 ?_
          refine X_iadd dL_law_343 ?_
          refine X_ialdX (v := 0) (f := sx.2) (n := sx.1) (by decide) rfl rfl dL_law_344 h (fun h => ?_)
          refine X_aload_nX dL_law_345 rfl rfl ?_
          refine X_iload_n dL_law_346 rfl rfl ?_
          refine X_iconst (v := 3) dL_law_347 iconst_3 ?_
          refine X_iadd dL_law_348 ?_
          refine X_ialdX (v := 0) (f := sx.2) (n := sx.1) (by decide) rfl rfl dL_law_349 h (fun h => ?_)
          refine X_callVit [.int (sx.2 (Int32.toNatClampNeg (x1 + (1 : Int32)))), .int (sx.2 (Int32.toNatClampNeg (x1 + (2 : Int32)))), .int (sx.2 (Int32.toNatClampNeg (x1 + (3 : Int32))))] [.int r17] c_X12_mend v_X12_mend lk_L_31 dL_law_350 g_60 rfl rfl rfl (by decide) (Nat.le_of_ble_eq_true rfl) rfl (s_X12_mend sx (sx.2 (Int32.toNatClampNeg (x1 + (1 : Int32)))) (sx.2 (Int32.toNatClampNeg (x1 + (2 : Int32)))) (sx.2 (Int32.toNatClampNeg (x1 + (3 : Int32))))  σ16 _ h) (fun r19 σ18 h => ?_)
          refine X_icmp_eq (tgt := 1615) dL_law_353 (by decide) h (fun h => ?_) (fun h => ?_)
          · exact j1615 _  h
          · refine X_iconst (v := 0) dL_law_356 iconst_0 ?_
            exact X_retz rfl rfl dL_law_357 h
        replace h := if_f h hc33_3
        by_cases hc33_4 : ((sx.2 (Int32.toNatClampNeg x1)) &&& (63 : Int32)) = (4 : Int32)
        · replace h := if_t h hc33_4
          refine X_tableIn (tgt := 358) dL_law_33 (by rw [hc33_4] <;> decide) (by rw [hc33_4] <;> decide) (by rw [hc33_4] <;> rfl) (by decide) ?_
          refine X_aload_n dL_law_358 rfl rfl ?_
          refine X_aload_nX dL_law_359 rfl rfl ?_
          refine X_iload_n dL_law_360 rfl rfl ?_
          refine X_iconst (v := 1) dL_law_361 iconst_1 ?_
          refine X_iadd dL_law_362 ?_
          refine X_ialdX (v := 0) (f := sx.2) (n := sx.1) (by decide) rfl rfl dL_law_363 h (fun h => ?_)
          refine X_aload_nX dL_law_364 rfl rfl ?_
          refine X_iload_n dL_law_365 rfl rfl ?_
          refine X_iconst (v := 2) dL_law_366 iconst_2 ?_
          refine X_iadd dL_law_367 ?_
          refine X_ialdX (v := 0) (f := sx.2) (n := sx.1) (by decide) rfl rfl dL_law_368 h (fun h => ?_)
          refine X_callVit [.int (sx.2 (Int32.toNatClampNeg (x1 + (1 : Int32)))), .int (sx.2 (Int32.toNatClampNeg (x1 + (2 : Int32))))] [] c_X11_of v_X11_of lk_L_32 dL_law_369 g_0 rfl rfl rfl (by decide) (Nat.le_of_ble_eq_true rfl) rfl (s_X11_of sx (sx.2 (Int32.toNatClampNeg (x1 + (1 : Int32)))) (sx.2 (Int32.toNatClampNeg (x1 + (2 : Int32))))  σ2 _ h) (fun r21 σ20 h => ?_)
          refine X_aload_n dL_law_372 rfl rfl ?_
          refine X_aload_nX dL_law_373 rfl rfl ?_
          refine X_iload_n dL_law_374 rfl rfl ?_
          refine X_iconst (v := 1) dL_law_375 iconst_1 ?_
          refine X_iadd dL_law_376 ?_
          refine X_ialdX (v := 0) (f := sx.2) (n := sx.1) (by decide) rfl rfl dL_law_377 h (fun h => ?_)
          refine X_aload_nX dL_law_378 rfl rfl ?_
          refine X_iload_n dL_law_379 rfl rfl ?_
          refine X_iconst (v := 2) dL_law_380 iconst_2 ?_
          refine X_iadd dL_law_381 ?_
          refine X_ialdX (v := 0) (f := sx.2) (n := sx.1) (by decide) rfl rfl dL_law_382 h (fun h => ?_)
          refine X_callVit [.int (sx.2 (Int32.toNatClampNeg (x1 + (1 : Int32)))), .int (sx.2 (Int32.toNatClampNeg (x1 + (2 : Int32))))] [.int r21] c_X12_of v_X12_of lk_L_35 dL_law_383 g_60 rfl rfl rfl (by decide) (Nat.le_of_ble_eq_true rfl) rfl (s_X12_of sx (sx.2 (Int32.toNatClampNeg (x1 + (1 : Int32)))) (sx.2 (Int32.toNatClampNeg (x1 + (2 : Int32))))  σ20 _ h) (fun r23 σ22 h => ?_)
          refine X_icmp_eq (tgt := 1615) dL_law_386 (by decide) h (fun h => ?_) (fun h => ?_)
          · exact j1615 _  h
          · refine X_iconst (v := 0) dL_law_389 iconst_0 ?_
            exact X_retz rfl rfl dL_law_390 h
        replace h := if_f h hc33_4
        by_cases hc33_5 : ((sx.2 (Int32.toNatClampNeg x1)) &&& (63 : Int32)) = (5 : Int32)
        · replace h := if_t h hc33_5
          refine X_tableIn (tgt := 391) dL_law_33 (by rw [hc33_5] <;> decide) (by rw [hc33_5] <;> decide) (by rw [hc33_5] <;> rfl) (by decide) ?_
          refine X_aload_n dL_law_391 rfl rfl ?_
          refine X_aload_nX dL_law_392 rfl rfl ?_
          refine X_iload_n dL_law_393 rfl rfl ?_
          refine X_iconst (v := 1) dL_law_394 iconst_1 ?_
          refine X_iadd dL_law_395 ?_
          refine X_ialdX (v := 0) (f := sx.2) (n := sx.1) (by decide) rfl rfl dL_law_396 h (fun h => ?_)
          refine X_callVit [.int (sx.2 (Int32.toNatClampNeg (x1 + (1 : Int32))))] [] c_X11_feed v_X11_feed lk_L_36 dL_law_397 g_0 rfl rfl rfl (by decide) (Nat.le_of_ble_eq_true rfl) rfl (s_X11_feed sx (sx.2 (Int32.toNatClampNeg (x1 + (1 : Int32))))  σ2 _ h) (fun r25 σ24 h => ?_)
          refine X_aload_n dL_law_400 rfl rfl ?_
          refine X_aload_nX dL_law_401 rfl rfl ?_
          refine X_iload_n dL_law_402 rfl rfl ?_
          refine X_iconst (v := 1) dL_law_403 iconst_1 ?_
          refine X_iadd dL_law_404 ?_
          refine X_ialdX (v := 0) (f := sx.2) (n := sx.1) (by decide) rfl rfl dL_law_405 h (fun h => ?_)
          refine X_callVit [.int (sx.2 (Int32.toNatClampNeg (x1 + (1 : Int32))))] [.int r25] c_X12_feed v_X12_feed lk_L_39 dL_law_406 g_60 rfl rfl rfl (by decide) (Nat.le_of_ble_eq_true rfl) rfl (s_X12_feed sx (sx.2 (Int32.toNatClampNeg (x1 + (1 : Int32))))  σ24 _ h) (fun r27 σ26 h => ?_)
          refine X_icmp_eq (tgt := 1615) dL_law_409 (by decide) h (fun h => ?_) (fun h => ?_)
          · exact j1615 _  h
          · refine X_iconst (v := 0) dL_law_412 iconst_0 ?_
            exact X_retz rfl rfl dL_law_413 h
        replace h := if_f h hc33_5
        by_cases hc33_6 : ((sx.2 (Int32.toNatClampNeg x1)) &&& (63 : Int32)) = (6 : Int32)
        · replace h := if_t h hc33_6
          refine X_tableIn (tgt := 414) dL_law_33 (by rw [hc33_6] <;> decide) (by rw [hc33_6] <;> decide) (by rw [hc33_6] <;> rfl) (by decide) ?_
          refine X_aload_n dL_law_414 rfl rfl ?_
          refine X_callVit [] [] c_X11_law v_X11_law lk_L_40 dL_law_415 g_0 rfl rfl rfl (by decide) (Nat.le_of_ble_eq_true rfl) rfl (s_X11_law sx   σ2 _ h) (fun r29 σ28 h => ?_)
          refine X_aload_n dL_law_418 rfl rfl ?_
          refine X_callVit [] [.int r29] c_X12_law v_X12_law lk_L_44 dL_law_419 g_60 rfl rfl rfl (by decide) (Nat.le_of_ble_eq_true rfl) rfl (s_X12_law sx   σ28 _ h) (fun r31 σ30 h => ?_)
          refine X_icmp_eq (tgt := 1615) dL_law_422 (by decide) h (fun h => ?_) (fun h => ?_)
          · exact j1615 _  h
          · refine X_iconst (v := 0) dL_law_425 iconst_0 ?_
            exact X_retz rfl rfl dL_law_426 h
        replace h := if_f h hc33_6
        by_cases hc33_7 : ((sx.2 (Int32.toNatClampNeg x1)) &&& (63 : Int32)) = (7 : Int32)
        · replace h := if_t h hc33_7
          refine X_tableIn (tgt := 427) dL_law_33 (by rw [hc33_7] <;> decide) (by rw [hc33_7] <;> decide) (by rw [hc33_7] <;> rfl) (by decide) ?_
          refine X_aload_n dL_law_427 rfl rfl ?_
          refine X_aload_nX dL_law_428 rfl rfl ?_
          refine X_iload_n dL_law_429 rfl rfl ?_
          refine X_iconst (v := 1) dL_law_430 iconst_1 ?_
          refine X_iadd dL_law_431 ?_
          refine X_ialdX (v := 0) (f := sx.2) (n := sx.1) (by decide) rfl rfl dL_law_432 h (fun h => ?_)
          refine X_callVit [.int (sx.2 (Int32.toNatClampNeg (x1 + (1 : Int32))))] [] c_X11_turn v_X11_turn lk_L_45 dL_law_433 g_0 rfl rfl rfl (by decide) (Nat.le_of_ble_eq_true rfl) rfl (s_X11_turn sx (sx.2 (Int32.toNatClampNeg (x1 + (1 : Int32))))  σ2 _ h) (fun r33 σ32 h => ?_)
          refine X_aload_n dL_law_436 rfl rfl ?_
          refine X_aload_nX dL_law_437 rfl rfl ?_
          refine X_iload_n dL_law_438 rfl rfl ?_
          refine X_iconst (v := 1) dL_law_439 iconst_1 ?_
          refine X_iadd dL_law_440 ?_
          refine X_ialdX (v := 0) (f := sx.2) (n := sx.1) (by decide) rfl rfl dL_law_441 h (fun h => ?_)
          refine X_callVit [.int (sx.2 (Int32.toNatClampNeg (x1 + (1 : Int32))))] [.int r33] c_X12_turn v_X12_turn lk_L_48 dL_law_442 g_60 rfl rfl rfl (by decide) (Nat.le_of_ble_eq_true rfl) rfl (s_X12_turn sx (sx.2 (Int32.toNatClampNeg (x1 + (1 : Int32))))  σ32 _ h) (fun r35 σ34 h => ?_)
          refine X_icmp_eq (tgt := 1615) dL_law_445 (by decide) h (fun h => ?_) (fun h => ?_)
          · exact j1615 _  h
          · refine X_iconst (v := 0) dL_law_448 iconst_0 ?_
            exact X_retz rfl rfl dL_law_449 h
        replace h := if_f h hc33_7
        by_cases hc33_8 : ((sx.2 (Int32.toNatClampNeg x1)) &&& (63 : Int32)) = (8 : Int32)
        · replace h := if_t h hc33_8
          refine X_tableIn (tgt := 450) dL_law_33 (by rw [hc33_8] <;> decide) (by rw [hc33_8] <;> decide) (by rw [hc33_8] <;> rfl) (by decide) ?_
          refine X_aload_n dL_law_450 rfl rfl ?_
          refine X_aload_nX dL_law_451 rfl rfl ?_
          refine X_iload_n dL_law_452 rfl rfl ?_
          refine X_iconst (v := 1) dL_law_453 iconst_1 ?_
          refine X_iadd dL_law_454 ?_
          refine X_ialdX (v := 0) (f := sx.2) (n := sx.1) (by decide) rfl rfl dL_law_455 h (fun h => ?_)
          refine X_aload_nX dL_law_456 rfl rfl ?_
          refine X_iload_n dL_law_457 rfl rfl ?_
          refine X_iconst (v := 2) dL_law_458 iconst_2 ?_
          refine X_iadd dL_law_459 ?_
          refine X_ialdX (v := 0) (f := sx.2) (n := sx.1) (by decide) rfl rfl dL_law_460 h (fun h => ?_)
          refine X_aload_nX dL_law_461 rfl rfl ?_
          refine X_iload_n dL_law_462 rfl rfl ?_
          refine X_iconst (v := 3) dL_law_463 iconst_3 ?_
          refine X_iadd dL_law_464 ?_
          refine X_ialdX (v := 0) (f := sx.2) (n := sx.1) (by decide) rfl rfl dL_law_465 h (fun h => ?_)
          refine X_callVit [.int (sx.2 (Int32.toNatClampNeg (x1 + (1 : Int32)))), .int (sx.2 (Int32.toNatClampNeg (x1 + (2 : Int32)))), .int (sx.2 (Int32.toNatClampNeg (x1 + (3 : Int32))))] [] c_X11_later v_X11_later lk_L_49 dL_law_466 g_0 rfl rfl rfl (by decide) (Nat.le_of_ble_eq_true rfl) rfl (s_X11_later sx (sx.2 (Int32.toNatClampNeg (x1 + (1 : Int32)))) (sx.2 (Int32.toNatClampNeg (x1 + (2 : Int32)))) (sx.2 (Int32.toNatClampNeg (x1 + (3 : Int32))))  σ2 _ h) (fun r37 σ36 h => ?_)
          refine X_aload_n dL_law_469 rfl rfl ?_
          refine X_aload_nX dL_law_470 rfl rfl ?_
          refine X_iload_n dL_law_471 rfl rfl ?_
          refine X_iconst (v := 1) dL_law_472 iconst_1 ?_
          refine X_iadd dL_law_473 ?_
          refine X_ialdX (v := 0) (f := sx.2) (n := sx.1) (by decide) rfl rfl dL_law_474 h (fun h => ?_)
          refine X_aload_nX dL_law_475 rfl rfl ?_
          refine X_iload_n dL_law_476 rfl rfl ?_
          refine X_iconst (v := 2) dL_law_477 iconst_2 ?_
          refine X_iadd dL_law_478 ?_
          refine X_ialdX (v := 0) (f := sx.2) (n := sx.1) (by decide) rfl rfl dL_law_479 h (fun h => ?_)
          refine X_aload_nX dL_law_480 rfl rfl ?_
          refine X_iload_n dL_law_481 rfl rfl ?_
          refine X_iconst (v := 3) dL_law_482 iconst_3 ?_
          refine X_iadd dL_law_483 ?_
          refine X_ialdX (v := 0) (f := sx.2) (n := sx.1) (by decide) rfl rfl dL_law_484 h (fun h => ?_)
          refine X_callVit [.int (sx.2 (Int32.toNatClampNeg (x1 + (1 : Int32)))), .int (sx.2 (Int32.toNatClampNeg (x1 + (2 : Int32)))), .int (sx.2 (Int32.toNatClampNeg (x1 + (3 : Int32))))] [.int r37] c_X12_later v_X12_later lk_L_52 dL_law_485 g_60 rfl rfl rfl (by decide) (Nat.le_of_ble_eq_true rfl) rfl (s_X12_later sx (sx.2 (Int32.toNatClampNeg (x1 + (1 : Int32)))) (sx.2 (Int32.toNatClampNeg (x1 + (2 : Int32)))) (sx.2 (Int32.toNatClampNeg (x1 + (3 : Int32))))  σ36 _ h) (fun r39 σ38 h => ?_)
          refine X_icmp_eq (tgt := 1615) dL_law_488 (by decide) h (fun h => ?_) (fun h => ?_)
          · exact j1615 _  h
          · refine X_iconst (v := 0) dL_law_491 iconst_0 ?_
            exact X_retz rfl rfl dL_law_492 h
        replace h := if_f h hc33_8
        by_cases hc33_9 : ((sx.2 (Int32.toNatClampNeg x1)) &&& (63 : Int32)) = (9 : Int32)
        · replace h := if_t h hc33_9
          refine X_tableIn (tgt := 493) dL_law_33 (by rw [hc33_9] <;> decide) (by rw [hc33_9] <;> decide) (by rw [hc33_9] <;> rfl) (by decide) ?_
          refine X_aload_n dL_law_493 rfl rfl ?_
          refine X_aload_nX dL_law_494 rfl rfl ?_
          refine X_iload_n dL_law_495 rfl rfl ?_
          refine X_iconst (v := 1) dL_law_496 iconst_1 ?_
          refine X_iadd dL_law_497 ?_
          refine X_ialdX (v := 0) (f := sx.2) (n := sx.1) (by decide) rfl rfl dL_law_498 h (fun h => ?_)
          refine X_aload_nX dL_law_499 rfl rfl ?_
          refine X_iload_n dL_law_500 rfl rfl ?_
          refine X_iconst (v := 2) dL_law_501 iconst_2 ?_
          refine X_iadd dL_law_502 ?_
          refine X_ialdX (v := 0) (f := sx.2) (n := sx.1) (by decide) rfl rfl dL_law_503 h (fun h => ?_)
          refine X_aload_nX dL_law_504 rfl rfl ?_
          refine X_iload_n dL_law_505 rfl rfl ?_
          refine X_iconst (v := 3) dL_law_506 iconst_3 ?_
          refine X_iadd dL_law_507 ?_
          refine X_ialdX (v := 0) (f := sx.2) (n := sx.1) (by decide) rfl rfl dL_law_508 h (fun h => ?_)
          refine X_callVit [.int (sx.2 (Int32.toNatClampNeg (x1 + (1 : Int32)))), .int (sx.2 (Int32.toNatClampNeg (x1 + (2 : Int32)))), .int (sx.2 (Int32.toNatClampNeg (x1 + (3 : Int32))))] [] c_X11_nears v_X11_nears lk_L_53 dL_law_509 g_0 rfl rfl rfl (by decide) (Nat.le_of_ble_eq_true rfl) rfl (s_X11_nears sx (sx.2 (Int32.toNatClampNeg (x1 + (1 : Int32)))) (sx.2 (Int32.toNatClampNeg (x1 + (2 : Int32)))) (sx.2 (Int32.toNatClampNeg (x1 + (3 : Int32))))  σ2 _ h) (fun r41 σ40 h => ?_)
          refine X_aload_n dL_law_512 rfl rfl ?_
          refine X_aload_nX dL_law_513 rfl rfl ?_
          refine X_iload_n dL_law_514 rfl rfl ?_
          refine X_iconst (v := 1) dL_law_515 iconst_1 ?_
          refine X_iadd dL_law_516 ?_
          refine X_ialdX (v := 0) (f := sx.2) (n := sx.1) (by decide) rfl rfl dL_law_517 h (fun h => ?_)
          refine X_aload_nX dL_law_518 rfl rfl ?_
          refine X_iload_n dL_law_519 rfl rfl ?_
          refine X_iconst (v := 2) dL_law_520 iconst_2 ?_
          refine X_iadd dL_law_521 ?_
          refine X_ialdX (v := 0) (f := sx.2) (n := sx.1) (by decide) rfl rfl dL_law_522 h (fun h => ?_)
          refine X_aload_nX dL_law_523 rfl rfl ?_
          refine X_iload_n dL_law_524 rfl rfl ?_
          refine X_iconst (v := 3) dL_law_525 iconst_3 ?_
          refine X_iadd dL_law_526 ?_
          refine X_ialdX (v := 0) (f := sx.2) (n := sx.1) (by decide) rfl rfl dL_law_527 h (fun h => ?_)
          refine X_callVit [.int (sx.2 (Int32.toNatClampNeg (x1 + (1 : Int32)))), .int (sx.2 (Int32.toNatClampNeg (x1 + (2 : Int32)))), .int (sx.2 (Int32.toNatClampNeg (x1 + (3 : Int32))))] [.int r41] c_X12_nears v_X12_nears lk_L_56 dL_law_528 g_60 rfl rfl rfl (by decide) (Nat.le_of_ble_eq_true rfl) rfl (s_X12_nears sx (sx.2 (Int32.toNatClampNeg (x1 + (1 : Int32)))) (sx.2 (Int32.toNatClampNeg (x1 + (2 : Int32)))) (sx.2 (Int32.toNatClampNeg (x1 + (3 : Int32))))  σ40 _ h) (fun r43 σ42 h => ?_)
          refine X_icmp_eq (tgt := 1615) dL_law_531 (by decide) h (fun h => ?_) (fun h => ?_)
          · exact j1615 _  h
          · refine X_iconst (v := 0) dL_law_534 iconst_0 ?_
            exact X_retz rfl rfl dL_law_535 h
        replace h := if_f h hc33_9
        by_cases hc33_10 : ((sx.2 (Int32.toNatClampNeg x1)) &&& (63 : Int32)) = (10 : Int32)
        · replace h := if_t h hc33_10
          refine X_tableIn (tgt := 536) dL_law_33 (by rw [hc33_10] <;> decide) (by rw [hc33_10] <;> decide) (by rw [hc33_10] <;> rfl) (by decide) ?_
          refine X_aload_n dL_law_536 rfl rfl ?_
          refine X_aload_nX dL_law_537 rfl rfl ?_
          refine X_iload_n dL_law_538 rfl rfl ?_
          refine X_iconst (v := 1) dL_law_539 iconst_1 ?_
          refine X_iadd dL_law_540 ?_
          refine X_ialdX (v := 0) (f := sx.2) (n := sx.1) (by decide) rfl rfl dL_law_541 h (fun h => ?_)
          refine X_aload_nX dL_law_542 rfl rfl ?_
          refine X_iload_n dL_law_543 rfl rfl ?_
          refine X_iconst (v := 2) dL_law_544 iconst_2 ?_
          refine X_iadd dL_law_545 ?_
          refine X_ialdX (v := 0) (f := sx.2) (n := sx.1) (by decide) rfl rfl dL_law_546 h (fun h => ?_)
          refine X_aload_nX dL_law_547 rfl rfl ?_
          refine X_iload_n dL_law_548 rfl rfl ?_
          refine X_iconst (v := 3) dL_law_549 iconst_3 ?_
          refine X_iadd dL_law_550 ?_
          refine X_ialdX (v := 0) (f := sx.2) (n := sx.1) (by decide) rfl rfl dL_law_551 h (fun h => ?_)
          refine X_callVit [.int (sx.2 (Int32.toNatClampNeg (x1 + (1 : Int32)))), .int (sx.2 (Int32.toNatClampNeg (x1 + (2 : Int32)))), .int (sx.2 (Int32.toNatClampNeg (x1 + (3 : Int32))))] [] c_X11_passes v_X11_passes lk_L_57 dL_law_552 g_0 rfl rfl rfl (by decide) (Nat.le_of_ble_eq_true rfl) rfl (s_X11_passes sx (sx.2 (Int32.toNatClampNeg (x1 + (1 : Int32)))) (sx.2 (Int32.toNatClampNeg (x1 + (2 : Int32)))) (sx.2 (Int32.toNatClampNeg (x1 + (3 : Int32))))  σ2 _ h) (fun r45 σ44 h => ?_)
          refine X_aload_n dL_law_555 rfl rfl ?_
          refine X_aload_nX dL_law_556 rfl rfl ?_
          refine X_iload_n dL_law_557 rfl rfl ?_
          refine X_iconst (v := 1) dL_law_558 iconst_1 ?_
          refine X_iadd dL_law_559 ?_
          refine X_ialdX (v := 0) (f := sx.2) (n := sx.1) (by decide) rfl rfl dL_law_560 h (fun h => ?_)
          refine X_aload_nX dL_law_561 rfl rfl ?_
          refine X_iload_n dL_law_562 rfl rfl ?_
          refine X_iconst (v := 2) dL_law_563 iconst_2 ?_
          refine X_iadd dL_law_564 ?_
          refine X_ialdX (v := 0) (f := sx.2) (n := sx.1) (by decide) rfl rfl dL_law_565 h (fun h => ?_)
          refine X_aload_nX dL_law_566 rfl rfl ?_
          refine X_iload_n dL_law_567 rfl rfl ?_
          refine X_iconst (v := 3) dL_law_568 iconst_3 ?_
          refine X_iadd dL_law_569 ?_
          refine X_ialdX (v := 0) (f := sx.2) (n := sx.1) (by decide) rfl rfl dL_law_570 h (fun h => ?_)
          refine X_callVit [.int (sx.2 (Int32.toNatClampNeg (x1 + (1 : Int32)))), .int (sx.2 (Int32.toNatClampNeg (x1 + (2 : Int32)))), .int (sx.2 (Int32.toNatClampNeg (x1 + (3 : Int32))))] [.int r45] c_X12_passes v_X12_passes lk_L_60 dL_law_571 g_60 rfl rfl rfl (by decide) (Nat.le_of_ble_eq_true rfl) rfl (s_X12_passes sx (sx.2 (Int32.toNatClampNeg (x1 + (1 : Int32)))) (sx.2 (Int32.toNatClampNeg (x1 + (2 : Int32)))) (sx.2 (Int32.toNatClampNeg (x1 + (3 : Int32))))  σ44 _ h) (fun r47 σ46 h => ?_)
          refine X_icmp_eq (tgt := 1615) dL_law_574 (by decide) h (fun h => ?_) (fun h => ?_)
          · exact j1615 _  h
          · refine X_iconst (v := 0) dL_law_577 iconst_0 ?_
            exact X_retz rfl rfl dL_law_578 h
        replace h := if_f h hc33_10
        by_cases hc33_11 : ((sx.2 (Int32.toNatClampNeg x1)) &&& (63 : Int32)) = (11 : Int32)
        · replace h := if_t h hc33_11
          refine X_tableIn (tgt := 579) dL_law_33 (by rw [hc33_11] <;> decide) (by rw [hc33_11] <;> decide) (by rw [hc33_11] <;> rfl) (by decide) ?_
          refine X_aload_n dL_law_579 rfl rfl ?_
          refine X_aload_nX dL_law_580 rfl rfl ?_
          refine X_iload_n dL_law_581 rfl rfl ?_
          refine X_iconst (v := 1) dL_law_582 iconst_1 ?_
          refine X_iadd dL_law_583 ?_
          refine X_ialdX (v := 0) (f := sx.2) (n := sx.1) (by decide) rfl rfl dL_law_584 h (fun h => ?_)
          refine X_callVit [.int (sx.2 (Int32.toNatClampNeg (x1 + (1 : Int32))))] [] c_X11_meet v_X11_meet lk_L_61 dL_law_585 g_0 rfl rfl rfl (by decide) (Nat.le_of_ble_eq_true rfl) rfl (s_X11_meet sx (sx.2 (Int32.toNatClampNeg (x1 + (1 : Int32))))  σ2 _ h) (fun r49 σ48 h => ?_)
          refine X_aload_n dL_law_588 rfl rfl ?_
          refine X_aload_nX dL_law_589 rfl rfl ?_
          refine X_iload_n dL_law_590 rfl rfl ?_
          refine X_iconst (v := 1) dL_law_591 iconst_1 ?_
          refine X_iadd dL_law_592 ?_
          refine X_ialdX (v := 0) (f := sx.2) (n := sx.1) (by decide) rfl rfl dL_law_593 h (fun h => ?_)
          refine X_callVit [.int (sx.2 (Int32.toNatClampNeg (x1 + (1 : Int32))))] [.int r49] c_X12_meet v_X12_meet lk_L_64 dL_law_594 g_60 rfl rfl rfl (by decide) (Nat.le_of_ble_eq_true rfl) rfl (s_X12_meet sx (sx.2 (Int32.toNatClampNeg (x1 + (1 : Int32))))  σ48 _ h) (fun r51 σ50 h => ?_)
          refine X_icmp_eq (tgt := 1615) dL_law_597 (by decide) h (fun h => ?_) (fun h => ?_)
          · exact j1615 _  h
          · refine X_iconst (v := 0) dL_law_600 iconst_0 ?_
            exact X_retz rfl rfl dL_law_601 h
        replace h := if_f h hc33_11
        by_cases hc33_12 : ((sx.2 (Int32.toNatClampNeg x1)) &&& (63 : Int32)) = (12 : Int32)
        · replace h := if_t h hc33_12
          refine X_tableIn (tgt := 602) dL_law_33 (by rw [hc33_12] <;> decide) (by rw [hc33_12] <;> decide) (by rw [hc33_12] <;> rfl) (by decide) ?_
          refine X_aload_n dL_law_602 rfl rfl ?_
          refine X_aload_nX dL_law_603 rfl rfl ?_
          refine X_iload_n dL_law_604 rfl rfl ?_
          refine X_iconst (v := 1) dL_law_605 iconst_1 ?_
          refine X_iadd dL_law_606 ?_
          refine X_ialdX (v := 0) (f := sx.2) (n := sx.1) (by decide) rfl rfl dL_law_607 h (fun h => ?_)
          refine X_aload_nX dL_law_608 rfl rfl ?_
          refine X_iload_n dL_law_609 rfl rfl ?_
          refine X_iconst (v := 2) dL_law_610 iconst_2 ?_
          refine X_iadd dL_law_611 ?_
          refine X_ialdX (v := 0) (f := sx.2) (n := sx.1) (by decide) rfl rfl dL_law_612 h (fun h => ?_)
          refine X_callVit [.int (sx.2 (Int32.toNatClampNeg (x1 + (1 : Int32)))), .int (sx.2 (Int32.toNatClampNeg (x1 + (2 : Int32))))] [] c_X11_often v_X11_often lk_L_65 dL_law_613 g_0 rfl rfl rfl (by decide) (Nat.le_of_ble_eq_true rfl) rfl (s_X11_often sx (sx.2 (Int32.toNatClampNeg (x1 + (1 : Int32)))) (sx.2 (Int32.toNatClampNeg (x1 + (2 : Int32))))  σ2 _ h) (fun r53 σ52 h => ?_)
          refine X_aload_n dL_law_616 rfl rfl ?_
          refine X_aload_nX dL_law_617 rfl rfl ?_
          refine X_iload_n dL_law_618 rfl rfl ?_
          refine X_iconst (v := 1) dL_law_619 iconst_1 ?_
          refine X_iadd dL_law_620 ?_
          refine X_ialdX (v := 0) (f := sx.2) (n := sx.1) (by decide) rfl rfl dL_law_621 h (fun h => ?_)
          refine X_aload_nX dL_law_622 rfl rfl ?_
          refine X_iload_n dL_law_623 rfl rfl ?_
          refine X_iconst (v := 2) dL_law_624 iconst_2 ?_
          refine X_iadd dL_law_625 ?_
          refine X_ialdX (v := 0) (f := sx.2) (n := sx.1) (by decide) rfl rfl dL_law_626 h (fun h => ?_)
          refine X_callVit [.int (sx.2 (Int32.toNatClampNeg (x1 + (1 : Int32)))), .int (sx.2 (Int32.toNatClampNeg (x1 + (2 : Int32))))] [.int r53] c_X12_often v_X12_often lk_L_68 dL_law_627 g_60 rfl rfl rfl (by decide) (Nat.le_of_ble_eq_true rfl) rfl (s_X12_often sx (sx.2 (Int32.toNatClampNeg (x1 + (1 : Int32)))) (sx.2 (Int32.toNatClampNeg (x1 + (2 : Int32))))  σ52 _ h) (fun r55 σ54 h => ?_)
          refine X_icmp_eq (tgt := 1615) dL_law_630 (by decide) h (fun h => ?_) (fun h => ?_)
          · exact j1615 _  h
          · refine X_iconst (v := 0) dL_law_633 iconst_0 ?_
            exact X_retz rfl rfl dL_law_634 h
        replace h := if_f h hc33_12
        by_cases hc33_13 : ((sx.2 (Int32.toNatClampNeg x1)) &&& (63 : Int32)) = (13 : Int32)
        · replace h := if_t h hc33_13
          refine X_tableIn (tgt := 635) dL_law_33 (by rw [hc33_13] <;> decide) (by rw [hc33_13] <;> decide) (by rw [hc33_13] <;> rfl) (by decide) ?_
          refine X_aload_n dL_law_635 rfl rfl ?_
          refine X_aload_nX dL_law_636 rfl rfl ?_
          refine X_iload_n dL_law_637 rfl rfl ?_
          refine X_iconst (v := 1) dL_law_638 iconst_1 ?_
          refine X_iadd dL_law_639 ?_
          refine X_ialdX (v := 0) (f := sx.2) (n := sx.1) (by decide) rfl rfl dL_law_640 h (fun h => ?_)
          refine X_aload_nX dL_law_641 rfl rfl ?_
          refine X_iload_n dL_law_642 rfl rfl ?_
          refine X_iconst (v := 2) dL_law_643 iconst_2 ?_
          refine X_iadd dL_law_644 ?_
          refine X_ialdX (v := 0) (f := sx.2) (n := sx.1) (by decide) rfl rfl dL_law_645 h (fun h => ?_)
          refine X_callVit [.int (sx.2 (Int32.toNatClampNeg (x1 + (1 : Int32)))), .int (sx.2 (Int32.toNatClampNeg (x1 + (2 : Int32))))] [] c_X11_who v_X11_who lk_L_69 dL_law_646 g_0 rfl rfl rfl (by decide) (Nat.le_of_ble_eq_true rfl) rfl (s_X11_who sx (sx.2 (Int32.toNatClampNeg (x1 + (1 : Int32)))) (sx.2 (Int32.toNatClampNeg (x1 + (2 : Int32))))  σ2 _ h) (fun r57 σ56 h => ?_)
          refine X_aload_n dL_law_649 rfl rfl ?_
          refine X_aload_nX dL_law_650 rfl rfl ?_
          refine X_iload_n dL_law_651 rfl rfl ?_
          refine X_iconst (v := 1) dL_law_652 iconst_1 ?_
          refine X_iadd dL_law_653 ?_
          refine X_ialdX (v := 0) (f := sx.2) (n := sx.1) (by decide) rfl rfl dL_law_654 h (fun h => ?_)
          refine X_aload_nX dL_law_655 rfl rfl ?_
          refine X_iload_n dL_law_656 rfl rfl ?_
          refine X_iconst (v := 2) dL_law_657 iconst_2 ?_
          refine X_iadd dL_law_658 ?_
          refine X_ialdX (v := 0) (f := sx.2) (n := sx.1) (by decide) rfl rfl dL_law_659 h (fun h => ?_)
          refine X_callVit [.int (sx.2 (Int32.toNatClampNeg (x1 + (1 : Int32)))), .int (sx.2 (Int32.toNatClampNeg (x1 + (2 : Int32))))] [.int r57] c_X12_who v_X12_who lk_L_72 dL_law_660 g_60 rfl rfl rfl (by decide) (Nat.le_of_ble_eq_true rfl) rfl (s_X12_who sx (sx.2 (Int32.toNatClampNeg (x1 + (1 : Int32)))) (sx.2 (Int32.toNatClampNeg (x1 + (2 : Int32))))  σ56 _ h) (fun r59 σ58 h => ?_)
          refine X_icmp_eq (tgt := 1615) dL_law_663 (by decide) h (fun h => ?_) (fun h => ?_)
          · exact j1615 _  h
          · refine X_iconst (v := 0) dL_law_666 iconst_0 ?_
            exact X_retz rfl rfl dL_law_667 h
        replace h := if_f h hc33_13
        by_cases hc33_14 : ((sx.2 (Int32.toNatClampNeg x1)) &&& (63 : Int32)) = (14 : Int32)
        · replace h := if_t h hc33_14
          refine X_tableIn (tgt := 668) dL_law_33 (by rw [hc33_14] <;> decide) (by rw [hc33_14] <;> decide) (by rw [hc33_14] <;> rfl) (by decide) ?_
          refine X_aload_n dL_law_668 rfl rfl ?_
          refine X_aload_nX dL_law_669 rfl rfl ?_
          refine X_iload_n dL_law_670 rfl rfl ?_
          refine X_iconst (v := 1) dL_law_671 iconst_1 ?_
          refine X_iadd dL_law_672 ?_
          refine X_ialdX (v := 0) (f := sx.2) (n := sx.1) (by decide) rfl rfl dL_law_673 h (fun h => ?_)
          refine X_aload_nX dL_law_674 rfl rfl ?_
          refine X_iload_n dL_law_675 rfl rfl ?_
          refine X_iconst (v := 2) dL_law_676 iconst_2 ?_
          refine X_iadd dL_law_677 ?_
          refine X_ialdX (v := 0) (f := sx.2) (n := sx.1) (by decide) rfl rfl dL_law_678 h (fun h => ?_)
          refine X_callVit [.int (sx.2 (Int32.toNatClampNeg (x1 + (1 : Int32)))), .int (sx.2 (Int32.toNatClampNeg (x1 + (2 : Int32))))] [] c_X11_soonest v_X11_soonest lk_L_73 dL_law_679 g_0 rfl rfl rfl (by decide) (Nat.le_of_ble_eq_true rfl) rfl (s_X11_soonest sx (sx.2 (Int32.toNatClampNeg (x1 + (1 : Int32)))) (sx.2 (Int32.toNatClampNeg (x1 + (2 : Int32))))  σ2 _ h) (fun r61 σ60 h => ?_)
          refine X_aload_n dL_law_682 rfl rfl ?_
          refine X_aload_nX dL_law_683 rfl rfl ?_
          refine X_iload_n dL_law_684 rfl rfl ?_
          refine X_iconst (v := 1) dL_law_685 iconst_1 ?_
          refine X_iadd dL_law_686 ?_
          refine X_ialdX (v := 0) (f := sx.2) (n := sx.1) (by decide) rfl rfl dL_law_687 h (fun h => ?_)
          refine X_aload_nX dL_law_688 rfl rfl ?_
          refine X_iload_n dL_law_689 rfl rfl ?_
          refine X_iconst (v := 2) dL_law_690 iconst_2 ?_
          refine X_iadd dL_law_691 ?_
          refine X_ialdX (v := 0) (f := sx.2) (n := sx.1) (by decide) rfl rfl dL_law_692 h (fun h => ?_)
          refine X_callVit [.int (sx.2 (Int32.toNatClampNeg (x1 + (1 : Int32)))), .int (sx.2 (Int32.toNatClampNeg (x1 + (2 : Int32))))] [.int r61] c_X12_soonest v_X12_soonest lk_L_76 dL_law_693 g_60 rfl rfl rfl (by decide) (Nat.le_of_ble_eq_true rfl) rfl (s_X12_soonest sx (sx.2 (Int32.toNatClampNeg (x1 + (1 : Int32)))) (sx.2 (Int32.toNatClampNeg (x1 + (2 : Int32))))  σ60 _ h) (fun r63 σ62 h => ?_)
          refine X_icmp_eq (tgt := 1615) dL_law_696 (by decide) h (fun h => ?_) (fun h => ?_)
          · exact j1615 _  h
          · refine X_iconst (v := 0) dL_law_699 iconst_0 ?_
            exact X_retz rfl rfl dL_law_700 h
        replace h := if_f h hc33_14
        by_cases hc33_15 : ((sx.2 (Int32.toNatClampNeg x1)) &&& (63 : Int32)) = (15 : Int32)
        · replace h := if_t h hc33_15
          refine X_tableIn (tgt := 701) dL_law_33 (by rw [hc33_15] <;> decide) (by rw [hc33_15] <;> decide) (by rw [hc33_15] <;> rfl) (by decide) ?_
          refine X_aload_n dL_law_701 rfl rfl ?_
          refine X_aload_nX dL_law_702 rfl rfl ?_
          refine X_iload_n dL_law_703 rfl rfl ?_
          refine X_iconst (v := 1) dL_law_704 iconst_1 ?_
          refine X_iadd dL_law_705 ?_
          refine X_ialdX (v := 0) (f := sx.2) (n := sx.1) (by decide) rfl rfl dL_law_706 h (fun h => ?_)
          refine X_aload_nX dL_law_707 rfl rfl ?_
          refine X_iload_n dL_law_708 rfl rfl ?_
          refine X_iconst (v := 2) dL_law_709 iconst_2 ?_
          refine X_iadd dL_law_710 ?_
          refine X_ialdX (v := 0) (f := sx.2) (n := sx.1) (by decide) rfl rfl dL_law_711 h (fun h => ?_)
          refine X_aload_nX dL_law_712 rfl rfl ?_
          refine X_iload_n dL_law_713 rfl rfl ?_
          refine X_iconst (v := 3) dL_law_714 iconst_3 ?_
          refine X_iadd dL_law_715 ?_
          refine X_ialdX (v := 0) (f := sx.2) (n := sx.1) (by decide) rfl rfl dL_law_716 h (fun h => ?_)
          refine X_callVit [.int (sx.2 (Int32.toNatClampNeg (x1 + (1 : Int32)))), .int (sx.2 (Int32.toNatClampNeg (x1 + (2 : Int32)))), .int (sx.2 (Int32.toNatClampNeg (x1 + (3 : Int32))))] [] c_X11_buy v_X11_buy lk_L_77 dL_law_717 g_0 rfl rfl rfl (by decide) (Nat.le_of_ble_eq_true rfl) rfl (s_X11_buy sx (sx.2 (Int32.toNatClampNeg (x1 + (1 : Int32)))) (sx.2 (Int32.toNatClampNeg (x1 + (2 : Int32)))) (sx.2 (Int32.toNatClampNeg (x1 + (3 : Int32))))  σ2 _ h) (fun r65 σ64 h => ?_)
          refine X_aload_n dL_law_720 rfl rfl ?_
          refine X_aload_nX dL_law_721 rfl rfl ?_
          refine X_iload_n dL_law_722 rfl rfl ?_
          refine X_iconst (v := 1) dL_law_723 iconst_1 ?_
          refine X_iadd dL_law_724 ?_
          refine X_ialdX (v := 0) (f := sx.2) (n := sx.1) (by decide) rfl rfl dL_law_725 h (fun h => ?_)
          refine X_aload_nX dL_law_726 rfl rfl ?_
          refine X_iload_n dL_law_727 rfl rfl ?_
          refine X_iconst (v := 2) dL_law_728 iconst_2 ?_
          refine X_iadd dL_law_729 ?_
          refine X_ialdX (v := 0) (f := sx.2) (n := sx.1) (by decide) rfl rfl dL_law_730 h (fun h => ?_)
          refine X_aload_nX dL_law_731 rfl rfl ?_
          refine X_iload_n dL_law_732 rfl rfl ?_
          refine X_iconst (v := 3) dL_law_733 iconst_3 ?_
          refine X_iadd dL_law_734 ?_
          refine X_ialdX (v := 0) (f := sx.2) (n := sx.1) (by decide) rfl rfl dL_law_735 h (fun h => ?_)
          refine X_callVit [.int (sx.2 (Int32.toNatClampNeg (x1 + (1 : Int32)))), .int (sx.2 (Int32.toNatClampNeg (x1 + (2 : Int32)))), .int (sx.2 (Int32.toNatClampNeg (x1 + (3 : Int32))))] [.int r65] c_X12_buy v_X12_buy lk_L_80 dL_law_736 g_60 rfl rfl rfl (by decide) (Nat.le_of_ble_eq_true rfl) rfl (s_X12_buy sx (sx.2 (Int32.toNatClampNeg (x1 + (1 : Int32)))) (sx.2 (Int32.toNatClampNeg (x1 + (2 : Int32)))) (sx.2 (Int32.toNatClampNeg (x1 + (3 : Int32))))  σ64 _ h) (fun r67 σ66 h => ?_)
          refine X_icmp_eq (tgt := 1615) dL_law_739 (by decide) h (fun h => ?_) (fun h => ?_)
          · exact j1615 _  h
          · refine X_iconst (v := 0) dL_law_742 iconst_0 ?_
            exact X_retz rfl rfl dL_law_743 h
        replace h := if_f h hc33_15
        by_cases hc33_16 : ((sx.2 (Int32.toNatClampNeg x1)) &&& (63 : Int32)) = (16 : Int32)
        · replace h := if_t h hc33_16
          refine X_tableIn (tgt := 744) dL_law_33 (by rw [hc33_16] <;> decide) (by rw [hc33_16] <;> decide) (by rw [hc33_16] <;> rfl) (by decide) ?_
          refine X_aload_n dL_law_744 rfl rfl ?_
          refine X_aload_nX dL_law_745 rfl rfl ?_
          refine X_iload_n dL_law_746 rfl rfl ?_
          refine X_iconst (v := 1) dL_law_747 iconst_1 ?_
          refine X_iadd dL_law_748 ?_
          refine X_ialdX (v := 0) (f := sx.2) (n := sx.1) (by decide) rfl rfl dL_law_749 h (fun h => ?_)
          refine X_aload_nX dL_law_750 rfl rfl ?_
          refine X_iload_n dL_law_751 rfl rfl ?_
          refine X_iconst (v := 2) dL_law_752 iconst_2 ?_
          refine X_iadd dL_law_753 ?_
          refine X_ialdX (v := 0) (f := sx.2) (n := sx.1) (by decide) rfl rfl dL_law_754 h (fun h => ?_)
          refine X_callVit [.int (sx.2 (Int32.toNatClampNeg (x1 + (1 : Int32)))), .int (sx.2 (Int32.toNatClampNeg (x1 + (2 : Int32))))] [] c_X11_judge v_X11_judge lk_L_81 dL_law_755 g_0 rfl rfl rfl (by decide) (Nat.le_of_ble_eq_true rfl) rfl (s_X11_judge sx (sx.2 (Int32.toNatClampNeg (x1 + (1 : Int32)))) (sx.2 (Int32.toNatClampNeg (x1 + (2 : Int32))))  σ2 _ h) (fun r69 σ68 h => ?_)
          refine X_aload_n dL_law_758 rfl rfl ?_
          refine X_aload_nX dL_law_759 rfl rfl ?_
          refine X_iload_n dL_law_760 rfl rfl ?_
          refine X_iconst (v := 1) dL_law_761 iconst_1 ?_
          refine X_iadd dL_law_762 ?_
          refine X_ialdX (v := 0) (f := sx.2) (n := sx.1) (by decide) rfl rfl dL_law_763 h (fun h => ?_)
          refine X_aload_nX dL_law_764 rfl rfl ?_
          refine X_iload_n dL_law_765 rfl rfl ?_
          refine X_iconst (v := 2) dL_law_766 iconst_2 ?_
          refine X_iadd dL_law_767 ?_
          refine X_ialdX (v := 0) (f := sx.2) (n := sx.1) (by decide) rfl rfl dL_law_768 h (fun h => ?_)
          refine X_callVit [.int (sx.2 (Int32.toNatClampNeg (x1 + (1 : Int32)))), .int (sx.2 (Int32.toNatClampNeg (x1 + (2 : Int32))))] [.int r69] c_X12_judge v_X12_judge lk_L_84 dL_law_769 g_60 rfl rfl rfl (by decide) (Nat.le_of_ble_eq_true rfl) rfl (s_X12_judge sx (sx.2 (Int32.toNatClampNeg (x1 + (1 : Int32)))) (sx.2 (Int32.toNatClampNeg (x1 + (2 : Int32))))  σ68 _ h) (fun r71 σ70 h => ?_)
          refine X_icmp_eq (tgt := 1615) dL_law_772 (by decide) h (fun h => ?_) (fun h => ?_)
          · exact j1615 _  h
          · refine X_iconst (v := 0) dL_law_775 iconst_0 ?_
            exact X_retz rfl rfl dL_law_776 h
        replace h := if_f h hc33_16
        by_cases hc33_17 : ((sx.2 (Int32.toNatClampNeg x1)) &&& (63 : Int32)) = (17 : Int32)
        · replace h := if_t h hc33_17
          refine X_tableIn (tgt := 777) dL_law_33 (by rw [hc33_17] <;> decide) (by rw [hc33_17] <;> decide) (by rw [hc33_17] <;> rfl) (by decide) ?_
          refine X_aload_n dL_law_777 rfl rfl ?_
          refine X_aload_nX dL_law_778 rfl rfl ?_
          refine X_iload_n dL_law_779 rfl rfl ?_
          refine X_iconst (v := 1) dL_law_780 iconst_1 ?_
          refine X_iadd dL_law_781 ?_
          refine X_ialdX (v := 0) (f := sx.2) (n := sx.1) (by decide) rfl rfl dL_law_782 h (fun h => ?_)
          refine X_aload_nX dL_law_783 rfl rfl ?_
          refine X_iload_n dL_law_784 rfl rfl ?_
          refine X_iconst (v := 2) dL_law_785 iconst_2 ?_
          refine X_iadd dL_law_786 ?_
          refine X_ialdX (v := 0) (f := sx.2) (n := sx.1) (by decide) rfl rfl dL_law_787 h (fun h => ?_)
          refine X_aload_nX dL_law_788 rfl rfl ?_
          refine X_iload_n dL_law_789 rfl rfl ?_
          refine X_iconst (v := 3) dL_law_790 iconst_3 ?_
          refine X_iadd dL_law_791 ?_
          refine X_ialdX (v := 0) (f := sx.2) (n := sx.1) (by decide) rfl rfl dL_law_792 h (fun h => ?_)
          refine X_callVit [.int (sx.2 (Int32.toNatClampNeg (x1 + (1 : Int32)))), .int (sx.2 (Int32.toNatClampNeg (x1 + (2 : Int32)))), .int (sx.2 (Int32.toNatClampNeg (x1 + (3 : Int32))))] [] c_X11_dined v_X11_dined lk_L_85 dL_law_793 g_0 rfl rfl rfl (by decide) (Nat.le_of_ble_eq_true rfl) rfl (s_X11_dined sx (sx.2 (Int32.toNatClampNeg (x1 + (1 : Int32)))) (sx.2 (Int32.toNatClampNeg (x1 + (2 : Int32)))) (sx.2 (Int32.toNatClampNeg (x1 + (3 : Int32))))  σ2 _ h) (fun r73 σ72 h => ?_)
          refine X_aload_n dL_law_796 rfl rfl ?_
          refine X_aload_nX dL_law_797 rfl rfl ?_
          refine X_iload_n dL_law_798 rfl rfl ?_
          refine X_iconst (v := 1) dL_law_799 iconst_1 ?_
          refine X_iadd dL_law_800 ?_
          refine X_ialdX (v := 0) (f := sx.2) (n := sx.1) (by decide) rfl rfl dL_law_801 h (fun h => ?_)
          refine X_aload_nX dL_law_802 rfl rfl ?_
          refine X_iload_n dL_law_803 rfl rfl ?_
          refine X_iconst (v := 2) dL_law_804 iconst_2 ?_
          refine X_iadd dL_law_805 ?_
          refine X_ialdX (v := 0) (f := sx.2) (n := sx.1) (by decide) rfl rfl dL_law_806 h (fun h => ?_)
          refine X_aload_nX dL_law_807 rfl rfl ?_
          refine X_iload_n dL_law_808 rfl rfl ?_
          refine X_iconst (v := 3) dL_law_809 iconst_3 ?_
          refine X_iadd dL_law_810 ?_
          refine X_ialdX (v := 0) (f := sx.2) (n := sx.1) (by decide) rfl rfl dL_law_811 h (fun h => ?_)
          refine X_callVit [.int (sx.2 (Int32.toNatClampNeg (x1 + (1 : Int32)))), .int (sx.2 (Int32.toNatClampNeg (x1 + (2 : Int32)))), .int (sx.2 (Int32.toNatClampNeg (x1 + (3 : Int32))))] [.int r73] c_X12_dined v_X12_dined lk_L_88 dL_law_812 g_60 rfl rfl rfl (by decide) (Nat.le_of_ble_eq_true rfl) rfl (s_X12_dined sx (sx.2 (Int32.toNatClampNeg (x1 + (1 : Int32)))) (sx.2 (Int32.toNatClampNeg (x1 + (2 : Int32)))) (sx.2 (Int32.toNatClampNeg (x1 + (3 : Int32))))  σ72 _ h) (fun r75 σ74 h => ?_)
          refine X_icmp_eq (tgt := 1615) dL_law_815 (by decide) h (fun h => ?_) (fun h => ?_)
          · exact j1615 _  h
          · refine X_iconst (v := 0) dL_law_818 iconst_0 ?_
            exact X_retz rfl rfl dL_law_819 h
        replace h := if_f h hc33_17
        by_cases hc33_18 : ((sx.2 (Int32.toNatClampNeg x1)) &&& (63 : Int32)) = (18 : Int32)
        · replace h := if_t h hc33_18
          refine X_tableIn (tgt := 820) dL_law_33 (by rw [hc33_18] <;> decide) (by rw [hc33_18] <;> decide) (by rw [hc33_18] <;> rfl) (by decide) ?_
          refine X_aload_n dL_law_820 rfl rfl ?_
          refine X_aload_nX dL_law_821 rfl rfl ?_
          refine X_iload_n dL_law_822 rfl rfl ?_
          refine X_iconst (v := 1) dL_law_823 iconst_1 ?_
          refine X_iadd dL_law_824 ?_
          refine X_ialdX (v := 0) (f := sx.2) (n := sx.1) (by decide) rfl rfl dL_law_825 h (fun h => ?_)
          refine X_aload_nX dL_law_826 rfl rfl ?_
          refine X_iload_n dL_law_827 rfl rfl ?_
          refine X_iconst (v := 2) dL_law_828 iconst_2 ?_
          refine X_iadd dL_law_829 ?_
          refine X_ialdX (v := 0) (f := sx.2) (n := sx.1) (by decide) rfl rfl dL_law_830 h (fun h => ?_)
          refine X_aload_nX dL_law_831 rfl rfl ?_
          refine X_iload_n dL_law_832 rfl rfl ?_
          refine X_iconst (v := 3) dL_law_833 iconst_3 ?_
          refine X_iadd dL_law_834 ?_
          refine X_ialdX (v := 0) (f := sx.2) (n := sx.1) (by decide) rfl rfl dL_law_835 h (fun h => ?_)
          refine X_callVit [.int (sx.2 (Int32.toNatClampNeg (x1 + (1 : Int32)))), .int (sx.2 (Int32.toNatClampNeg (x1 + (2 : Int32)))), .int (sx.2 (Int32.toNatClampNeg (x1 + (3 : Int32))))] [] c_X11_reins v_X11_reins lk_L_89 dL_law_836 g_0 rfl rfl rfl (by decide) (Nat.le_of_ble_eq_true rfl) rfl (s_X11_reins sx (sx.2 (Int32.toNatClampNeg (x1 + (1 : Int32)))) (sx.2 (Int32.toNatClampNeg (x1 + (2 : Int32)))) (sx.2 (Int32.toNatClampNeg (x1 + (3 : Int32))))  σ2 _ h) (fun r77 σ76 h => ?_)
          refine X_aload_n dL_law_839 rfl rfl ?_
          refine X_aload_nX dL_law_840 rfl rfl ?_
          refine X_iload_n dL_law_841 rfl rfl ?_
          refine X_iconst (v := 1) dL_law_842 iconst_1 ?_
          refine X_iadd dL_law_843 ?_
          refine X_ialdX (v := 0) (f := sx.2) (n := sx.1) (by decide) rfl rfl dL_law_844 h (fun h => ?_)
          refine X_aload_nX dL_law_845 rfl rfl ?_
          refine X_iload_n dL_law_846 rfl rfl ?_
          refine X_iconst (v := 2) dL_law_847 iconst_2 ?_
          refine X_iadd dL_law_848 ?_
          refine X_ialdX (v := 0) (f := sx.2) (n := sx.1) (by decide) rfl rfl dL_law_849 h (fun h => ?_)
          refine X_aload_nX dL_law_850 rfl rfl ?_
          refine X_iload_n dL_law_851 rfl rfl ?_
          refine X_iconst (v := 3) dL_law_852 iconst_3 ?_
          refine X_iadd dL_law_853 ?_
          refine X_ialdX (v := 0) (f := sx.2) (n := sx.1) (by decide) rfl rfl dL_law_854 h (fun h => ?_)
          refine X_callVit [.int (sx.2 (Int32.toNatClampNeg (x1 + (1 : Int32)))), .int (sx.2 (Int32.toNatClampNeg (x1 + (2 : Int32)))), .int (sx.2 (Int32.toNatClampNeg (x1 + (3 : Int32))))] [.int r77] c_X12_reins v_X12_reins lk_L_92 dL_law_855 g_60 rfl rfl rfl (by decide) (Nat.le_of_ble_eq_true rfl) rfl (s_X12_reins sx (sx.2 (Int32.toNatClampNeg (x1 + (1 : Int32)))) (sx.2 (Int32.toNatClampNeg (x1 + (2 : Int32)))) (sx.2 (Int32.toNatClampNeg (x1 + (3 : Int32))))  σ76 _ h) (fun r79 σ78 h => ?_)
          refine X_icmp_eq (tgt := 1615) dL_law_858 (by decide) h (fun h => ?_) (fun h => ?_)
          · exact j1615 _  h
          · refine X_iconst (v := 0) dL_law_861 iconst_0 ?_
            exact X_retz rfl rfl dL_law_862 h
        replace h := if_f h hc33_18
        by_cases hc33_19 : ((sx.2 (Int32.toNatClampNeg x1)) &&& (63 : Int32)) = (19 : Int32)
        · replace h := if_t h hc33_19
          refine X_tableIn (tgt := 863) dL_law_33 (by rw [hc33_19] <;> decide) (by rw [hc33_19] <;> decide) (by rw [hc33_19] <;> rfl) (by decide) ?_
          refine X_aload_n dL_law_863 rfl rfl ?_
          refine X_aload_nX dL_law_864 rfl rfl ?_
          refine X_iload_n dL_law_865 rfl rfl ?_
          refine X_iconst (v := 1) dL_law_866 iconst_1 ?_
          refine X_iadd dL_law_867 ?_
          refine X_ialdX (v := 0) (f := sx.2) (n := sx.1) (by decide) rfl rfl dL_law_868 h (fun h => ?_)
          refine X_aload_nX dL_law_869 rfl rfl ?_
          refine X_iload_n dL_law_870 rfl rfl ?_
          refine X_iconst (v := 2) dL_law_871 iconst_2 ?_
          refine X_iadd dL_law_872 ?_
          refine X_ialdX (v := 0) (f := sx.2) (n := sx.1) (by decide) rfl rfl dL_law_873 h (fun h => ?_)
          refine X_aload_nX dL_law_874 rfl rfl ?_
          refine X_iload_n dL_law_875 rfl rfl ?_
          refine X_iconst (v := 3) dL_law_876 iconst_3 ?_
          refine X_iadd dL_law_877 ?_
          refine X_ialdX (v := 0) (f := sx.2) (n := sx.1) (by decide) rfl rfl dL_law_878 h (fun h => ?_)
          refine X_aload_nX dL_law_879 rfl rfl ?_
          refine X_iload_n dL_law_880 rfl rfl ?_
          refine X_iconst (v := 4) dL_law_881 iconst_4 ?_
          refine X_iadd dL_law_882 ?_
          refine X_ialdX (v := 0) (f := sx.2) (n := sx.1) (by decide) rfl rfl dL_law_883 h (fun h => ?_)
          refine X_callVlt [.int (sx.2 (Int32.toNatClampNeg (x1 + (1 : Int32)))), .int (sx.2 (Int32.toNatClampNeg (x1 + (2 : Int32)))), .int (sx.2 (Int32.toNatClampNeg (x1 + (3 : Int32)))), .int (sx.2 (Int32.toNatClampNeg (x1 + (4 : Int32))))] [] c_X11_chance v_X11_chance lk_L_93 dL_law_884 g_0 rfl rfl rfl (by decide) (Nat.le_of_ble_eq_true rfl) rfl (s_X11_chance sx (sx.2 (Int32.toNatClampNeg (x1 + (1 : Int32)))) (sx.2 (Int32.toNatClampNeg (x1 + (2 : Int32)))) (sx.2 (Int32.toNatClampNeg (x1 + (3 : Int32)))) (sx.2 (Int32.toNatClampNeg (x1 + (4 : Int32))))  σ2 _ h) (fun r81 σ80 h => ?_)
          refine X_aload_n dL_law_887 rfl rfl ?_
          refine X_aload_nX dL_law_888 rfl rfl ?_
          refine X_iload_n dL_law_889 rfl rfl ?_
          refine X_iconst (v := 1) dL_law_890 iconst_1 ?_
          refine X_iadd dL_law_891 ?_
          refine X_ialdX (v := 0) (f := sx.2) (n := sx.1) (by decide) rfl rfl dL_law_892 h (fun h => ?_)
          refine X_aload_nX dL_law_893 rfl rfl ?_
          refine X_iload_n dL_law_894 rfl rfl ?_
          refine X_iconst (v := 2) dL_law_895 iconst_2 ?_
          refine X_iadd dL_law_896 ?_
          refine X_ialdX (v := 0) (f := sx.2) (n := sx.1) (by decide) rfl rfl dL_law_897 h (fun h => ?_)
          refine X_aload_nX dL_law_898 rfl rfl ?_
          refine X_iload_n dL_law_899 rfl rfl ?_
          refine X_iconst (v := 3) dL_law_900 iconst_3 ?_
          refine X_iadd dL_law_901 ?_
          refine X_ialdX (v := 0) (f := sx.2) (n := sx.1) (by decide) rfl rfl dL_law_902 h (fun h => ?_)
          refine X_aload_nX dL_law_903 rfl rfl ?_
          refine X_iload_n dL_law_904 rfl rfl ?_
          refine X_iconst (v := 4) dL_law_905 iconst_4 ?_
          refine X_iadd dL_law_906 ?_
          refine X_ialdX (v := 0) (f := sx.2) (n := sx.1) (by decide) rfl rfl dL_law_907 h (fun h => ?_)
          refine X_callVlt [.int (sx.2 (Int32.toNatClampNeg (x1 + (1 : Int32)))), .int (sx.2 (Int32.toNatClampNeg (x1 + (2 : Int32)))), .int (sx.2 (Int32.toNatClampNeg (x1 + (3 : Int32)))), .int (sx.2 (Int32.toNatClampNeg (x1 + (4 : Int32))))] [.long r81] c_X12_chance v_X12_chance lk_L_97 dL_law_908 g_60 rfl rfl rfl (by decide) (Nat.le_of_ble_eq_true rfl) rfl (s_X12_chance sx (sx.2 (Int32.toNatClampNeg (x1 + (1 : Int32)))) (sx.2 (Int32.toNatClampNeg (x1 + (2 : Int32)))) (sx.2 (Int32.toNatClampNeg (x1 + (3 : Int32)))) (sx.2 (Int32.toNatClampNeg (x1 + (4 : Int32))))  σ80 _ h) (fun r83 σ82 h => ?_)
          refine X_lcmp dL_law_911 ?_
          refine X_if_eq (tgt := 1615) dL_law_912 (by decide) h (fun h => ?_) (fun h => ?_)
          · exact j1615 _  h
          · refine X_iconst (v := 0) dL_law_915 iconst_0 ?_
            exact X_retz rfl rfl dL_law_916 h
        replace h := if_f h hc33_19
        by_cases hc33_20 : ((sx.2 (Int32.toNatClampNeg x1)) &&& (63 : Int32)) = (20 : Int32)
        · replace h := if_t h hc33_20
          refine X_tableIn (tgt := 917) dL_law_33 (by rw [hc33_20] <;> decide) (by rw [hc33_20] <;> decide) (by rw [hc33_20] <;> rfl) (by decide) ?_
          refine X_aload_n dL_law_917 rfl rfl ?_
          refine X_aload_nX dL_law_918 rfl rfl ?_
          refine X_iload_n dL_law_919 rfl rfl ?_
          refine X_iconst (v := 1) dL_law_920 iconst_1 ?_
          refine X_iadd dL_law_921 ?_
          refine X_ialdX (v := 0) (f := sx.2) (n := sx.1) (by decide) rfl rfl dL_law_922 h (fun h => ?_)
          refine X_aload_nX dL_law_923 rfl rfl ?_
          refine X_iload_n dL_law_924 rfl rfl ?_
          refine X_iconst (v := 2) dL_law_925 iconst_2 ?_
          refine X_iadd dL_law_926 ?_
          refine X_ialdX (v := 0) (f := sx.2) (n := sx.1) (by decide) rfl rfl dL_law_927 h (fun h => ?_)
          refine X_aload_nX dL_law_928 rfl rfl ?_
          refine X_iload_n dL_law_929 rfl rfl ?_
          refine X_iconst (v := 3) dL_law_930 iconst_3 ?_
          refine X_iadd dL_law_931 ?_
          refine X_ialdX (v := 0) (f := sx.2) (n := sx.1) (by decide) rfl rfl dL_law_932 h (fun h => ?_)
          refine X_aload_nX dL_law_933 rfl rfl ?_
          refine X_iload_n dL_law_934 rfl rfl ?_
          refine X_iconst (v := 4) dL_law_935 iconst_4 ?_
          refine X_iadd dL_law_936 ?_
          refine X_ialdX (v := 0) (f := sx.2) (n := sx.1) (by decide) rfl rfl dL_law_937 h (fun h => ?_)
          refine X_callVlt [.int (sx.2 (Int32.toNatClampNeg (x1 + (1 : Int32)))), .int (sx.2 (Int32.toNatClampNeg (x1 + (2 : Int32)))), .int (sx.2 (Int32.toNatClampNeg (x1 + (3 : Int32)))), .int (sx.2 (Int32.toNatClampNeg (x1 + (4 : Int32))))] [] c_X11_mean v_X11_mean lk_L_98 dL_law_938 g_0 rfl rfl rfl (by decide) (Nat.le_of_ble_eq_true rfl) rfl (s_X11_mean sx (sx.2 (Int32.toNatClampNeg (x1 + (1 : Int32)))) (sx.2 (Int32.toNatClampNeg (x1 + (2 : Int32)))) (sx.2 (Int32.toNatClampNeg (x1 + (3 : Int32)))) (sx.2 (Int32.toNatClampNeg (x1 + (4 : Int32))))  σ2 _ h) (fun r85 σ84 h => ?_)
          refine X_aload_n dL_law_941 rfl rfl ?_
          refine X_aload_nX dL_law_942 rfl rfl ?_
          refine X_iload_n dL_law_943 rfl rfl ?_
          refine X_iconst (v := 1) dL_law_944 iconst_1 ?_
          refine X_iadd dL_law_945 ?_
          refine X_ialdX (v := 0) (f := sx.2) (n := sx.1) (by decide) rfl rfl dL_law_946 h (fun h => ?_)
          refine X_aload_nX dL_law_947 rfl rfl ?_
          refine X_iload_n dL_law_948 rfl rfl ?_
          refine X_iconst (v := 2) dL_law_949 iconst_2 ?_
          refine X_iadd dL_law_950 ?_
          refine X_ialdX (v := 0) (f := sx.2) (n := sx.1) (by decide) rfl rfl dL_law_951 h (fun h => ?_)
          refine X_aload_nX dL_law_952 rfl rfl ?_
          refine X_iload_n dL_law_953 rfl rfl ?_
          refine X_iconst (v := 3) dL_law_954 iconst_3 ?_
          refine X_iadd dL_law_955 ?_
          refine X_ialdX (v := 0) (f := sx.2) (n := sx.1) (by decide) rfl rfl dL_law_956 h (fun h => ?_)
          refine X_aload_nX dL_law_957 rfl rfl ?_
          refine X_iload_n dL_law_958 rfl rfl ?_
          refine X_iconst (v := 4) dL_law_959 iconst_4 ?_
          refine X_iadd dL_law_960 ?_
          refine X_ialdX (v := 0) (f := sx.2) (n := sx.1) (by decide) rfl rfl dL_law_961 h (fun h => ?_)
          refine X_callVlt [.int (sx.2 (Int32.toNatClampNeg (x1 + (1 : Int32)))), .int (sx.2 (Int32.toNatClampNeg (x1 + (2 : Int32)))), .int (sx.2 (Int32.toNatClampNeg (x1 + (3 : Int32)))), .int (sx.2 (Int32.toNatClampNeg (x1 + (4 : Int32))))] [.long r85] c_X12_mean v_X12_mean lk_L_101 dL_law_962 g_60 rfl rfl rfl (by decide) (Nat.le_of_ble_eq_true rfl) rfl (s_X12_mean sx (sx.2 (Int32.toNatClampNeg (x1 + (1 : Int32)))) (sx.2 (Int32.toNatClampNeg (x1 + (2 : Int32)))) (sx.2 (Int32.toNatClampNeg (x1 + (3 : Int32)))) (sx.2 (Int32.toNatClampNeg (x1 + (4 : Int32))))  σ84 _ h) (fun r87 σ86 h => ?_)
          refine X_lcmp dL_law_965 ?_
          refine X_if_eq (tgt := 1615) dL_law_966 (by decide) h (fun h => ?_) (fun h => ?_)
          · exact j1615 _  h
          · refine X_iconst (v := 0) dL_law_969 iconst_0 ?_
            exact X_retz rfl rfl dL_law_970 h
        replace h := if_f h hc33_20
        by_cases hc33_21 : ((sx.2 (Int32.toNatClampNeg x1)) &&& (63 : Int32)) = (21 : Int32)
        · replace h := if_t h hc33_21
          refine X_tableIn (tgt := 971) dL_law_33 (by rw [hc33_21] <;> decide) (by rw [hc33_21] <;> decide) (by rw [hc33_21] <;> rfl) (by decide) ?_
          refine X_aload_n dL_law_971 rfl rfl ?_
          refine X_aload_nX dL_law_972 rfl rfl ?_
          refine X_iload_n dL_law_973 rfl rfl ?_
          refine X_iconst (v := 1) dL_law_974 iconst_1 ?_
          refine X_iadd dL_law_975 ?_
          refine X_ialdX (v := 0) (f := sx.2) (n := sx.1) (by decide) rfl rfl dL_law_976 h (fun h => ?_)
          refine X_aload_nX dL_law_977 rfl rfl ?_
          refine X_iload_n dL_law_978 rfl rfl ?_
          refine X_iconst (v := 2) dL_law_979 iconst_2 ?_
          refine X_iadd dL_law_980 ?_
          refine X_ialdX (v := 0) (f := sx.2) (n := sx.1) (by decide) rfl rfl dL_law_981 h (fun h => ?_)
          refine X_aload_nX dL_law_982 rfl rfl ?_
          refine X_iload_n dL_law_983 rfl rfl ?_
          refine X_iconst (v := 3) dL_law_984 iconst_3 ?_
          refine X_iadd dL_law_985 ?_
          refine X_ialdX (v := 0) (f := sx.2) (n := sx.1) (by decide) rfl rfl dL_law_986 h (fun h => ?_)
          refine X_callVit [.int (sx.2 (Int32.toNatClampNeg (x1 + (1 : Int32)))), .int (sx.2 (Int32.toNatClampNeg (x1 + (2 : Int32)))), .int (sx.2 (Int32.toNatClampNeg (x1 + (3 : Int32))))] [] c_X11_byTurns v_X11_byTurns lk_L_102 dL_law_987 g_0 rfl rfl rfl (by decide) (Nat.le_of_ble_eq_true rfl) rfl (s_X11_byTurns sx (sx.2 (Int32.toNatClampNeg (x1 + (1 : Int32)))) (sx.2 (Int32.toNatClampNeg (x1 + (2 : Int32)))) (sx.2 (Int32.toNatClampNeg (x1 + (3 : Int32))))  σ2 _ h) (fun r89 σ88 h => ?_)
          refine X_aload_n dL_law_990 rfl rfl ?_
          refine X_aload_nX dL_law_991 rfl rfl ?_
          refine X_iload_n dL_law_992 rfl rfl ?_
          refine X_iconst (v := 1) dL_law_993 iconst_1 ?_
          refine X_iadd dL_law_994 ?_
          refine X_ialdX (v := 0) (f := sx.2) (n := sx.1) (by decide) rfl rfl dL_law_995 h (fun h => ?_)
          refine X_aload_nX dL_law_996 rfl rfl ?_
          refine X_iload_n dL_law_997 rfl rfl ?_
          refine X_iconst (v := 2) dL_law_998 iconst_2 ?_
          refine X_iadd dL_law_999 ?_
          refine X_ialdX (v := 0) (f := sx.2) (n := sx.1) (by decide) rfl rfl dL_law_1000 h (fun h => ?_)
          refine X_aload_nX dL_law_1001 rfl rfl ?_
          refine X_iload_n dL_law_1002 rfl rfl ?_
          refine X_iconst (v := 3) dL_law_1003 iconst_3 ?_
          refine X_iadd dL_law_1004 ?_
          refine X_ialdX (v := 0) (f := sx.2) (n := sx.1) (by decide) rfl rfl dL_law_1005 h (fun h => ?_)
          refine X_callVit [.int (sx.2 (Int32.toNatClampNeg (x1 + (1 : Int32)))), .int (sx.2 (Int32.toNatClampNeg (x1 + (2 : Int32)))), .int (sx.2 (Int32.toNatClampNeg (x1 + (3 : Int32))))] [.int r89] c_X12_byTurns v_X12_byTurns lk_L_105 dL_law_1006 g_60 rfl rfl rfl (by decide) (Nat.le_of_ble_eq_true rfl) rfl (s_X12_byTurns sx (sx.2 (Int32.toNatClampNeg (x1 + (1 : Int32)))) (sx.2 (Int32.toNatClampNeg (x1 + (2 : Int32)))) (sx.2 (Int32.toNatClampNeg (x1 + (3 : Int32))))  σ88 _ h) (fun r91 σ90 h => ?_)
          refine X_icmp_eq (tgt := 1615) dL_law_1009 (by decide) h (fun h => ?_) (fun h => ?_)
          · exact j1615 _  h
          · refine X_iconst (v := 0) dL_law_1012 iconst_0 ?_
            exact X_retz rfl rfl dL_law_1013 h
        replace h := if_f h hc33_21
        by_cases hc33_22 : ((sx.2 (Int32.toNatClampNeg x1)) &&& (63 : Int32)) = (22 : Int32)
        · replace h := if_t h hc33_22
          refine X_tableIn (tgt := 1014) dL_law_33 (by rw [hc33_22] <;> decide) (by rw [hc33_22] <;> decide) (by rw [hc33_22] <;> rfl) (by decide) ?_
          refine X_aload_n dL_law_1014 rfl rfl ?_
          refine X_aload_nX dL_law_1015 rfl rfl ?_
          refine X_iload_n dL_law_1016 rfl rfl ?_
          refine X_iconst (v := 1) dL_law_1017 iconst_1 ?_
          refine X_iadd dL_law_1018 ?_
          refine X_ialdX (v := 0) (f := sx.2) (n := sx.1) (by decide) rfl rfl dL_law_1019 h (fun h => ?_)
          refine X_aload_nX dL_law_1020 rfl rfl ?_
          refine X_iload_n dL_law_1021 rfl rfl ?_
          refine X_iconst (v := 2) dL_law_1022 iconst_2 ?_
          refine X_iadd dL_law_1023 ?_
          refine X_ialdX (v := 0) (f := sx.2) (n := sx.1) (by decide) rfl rfl dL_law_1024 h (fun h => ?_)
          refine X_aload_nX dL_law_1025 rfl rfl ?_
          refine X_iload_n dL_law_1026 rfl rfl ?_
          refine X_iconst (v := 3) dL_law_1027 iconst_3 ?_
          refine X_iadd dL_law_1028 ?_
          refine X_ialdX (v := 0) (f := sx.2) (n := sx.1) (by decide) rfl rfl dL_law_1029 h (fun h => ?_)
          refine X_callVit [.int (sx.2 (Int32.toNatClampNeg (x1 + (1 : Int32)))), .int (sx.2 (Int32.toNatClampNeg (x1 + (2 : Int32)))), .int (sx.2 (Int32.toNatClampNeg (x1 + (3 : Int32))))] [] c_X11_drawn v_X11_drawn lk_L_106 dL_law_1030 g_0 rfl rfl rfl (by decide) (Nat.le_of_ble_eq_true rfl) rfl (s_X11_drawn sx (sx.2 (Int32.toNatClampNeg (x1 + (1 : Int32)))) (sx.2 (Int32.toNatClampNeg (x1 + (2 : Int32)))) (sx.2 (Int32.toNatClampNeg (x1 + (3 : Int32))))  σ2 _ h) (fun r93 σ92 h => ?_)
          refine X_aload_n dL_law_1033 rfl rfl ?_
          refine X_aload_nX dL_law_1034 rfl rfl ?_
          refine X_iload_n dL_law_1035 rfl rfl ?_
          refine X_iconst (v := 1) dL_law_1036 iconst_1 ?_
          refine X_iadd dL_law_1037 ?_
          refine X_ialdX (v := 0) (f := sx.2) (n := sx.1) (by decide) rfl rfl dL_law_1038 h (fun h => ?_)
          refine X_aload_nX dL_law_1039 rfl rfl ?_
          refine X_iload_n dL_law_1040 rfl rfl ?_
          refine X_iconst (v := 2) dL_law_1041 iconst_2 ?_
          refine X_iadd dL_law_1042 ?_
          refine X_ialdX (v := 0) (f := sx.2) (n := sx.1) (by decide) rfl rfl dL_law_1043 h (fun h => ?_)
          refine X_aload_nX dL_law_1044 rfl rfl ?_
          refine X_iload_n dL_law_1045 rfl rfl ?_
          refine X_iconst (v := 3) dL_law_1046 iconst_3 ?_
          refine X_iadd dL_law_1047 ?_
          refine X_ialdX (v := 0) (f := sx.2) (n := sx.1) (by decide) rfl rfl dL_law_1048 h (fun h => ?_)
          refine X_callVit [.int (sx.2 (Int32.toNatClampNeg (x1 + (1 : Int32)))), .int (sx.2 (Int32.toNatClampNeg (x1 + (2 : Int32)))), .int (sx.2 (Int32.toNatClampNeg (x1 + (3 : Int32))))] [.int r93] c_X12_drawn v_X12_drawn lk_L_109 dL_law_1049 g_60 rfl rfl rfl (by decide) (Nat.le_of_ble_eq_true rfl) rfl (s_X12_drawn sx (sx.2 (Int32.toNatClampNeg (x1 + (1 : Int32)))) (sx.2 (Int32.toNatClampNeg (x1 + (2 : Int32)))) (sx.2 (Int32.toNatClampNeg (x1 + (3 : Int32))))  σ92 _ h) (fun r95 σ94 h => ?_)
          refine X_icmp_eq (tgt := 1615) dL_law_1052 (by decide) h (fun h => ?_) (fun h => ?_)
          · exact j1615 _  h
          · refine X_iconst (v := 0) dL_law_1055 iconst_0 ?_
            exact X_retz rfl rfl dL_law_1056 h
        replace h := if_f h hc33_22
        by_cases hc33_23 : ((sx.2 (Int32.toNatClampNeg x1)) &&& (63 : Int32)) = (23 : Int32)
        · replace h := if_t h hc33_23
          refine X_tableIn (tgt := 1057) dL_law_33 (by rw [hc33_23] <;> decide) (by rw [hc33_23] <;> decide) (by rw [hc33_23] <;> rfl) (by decide) ?_
          refine X_aload_n dL_law_1057 rfl rfl ?_
          refine X_callVit [] [] c_X11_hour v_X11_hour lk_L_110 dL_law_1058 g_0 rfl rfl rfl (by decide) (Nat.le_of_ble_eq_true rfl) rfl (s_X11_hour sx   σ2 _ h) (fun r97 σ96 h => ?_)
          refine X_aload_n dL_law_1061 rfl rfl ?_
          refine X_callVit [] [.int r97] c_X12_hour v_X12_hour lk_L_113 dL_law_1062 g_60 rfl rfl rfl (by decide) (Nat.le_of_ble_eq_true rfl) rfl (s_X12_hour sx   σ96 _ h) (fun r99 σ98 h => ?_)
          refine X_icmp_eq (tgt := 1615) dL_law_1065 (by decide) h (fun h => ?_) (fun h => ?_)
          · exact j1615 _  h
          · refine X_iconst (v := 0) dL_law_1068 iconst_0 ?_
            exact X_retz rfl rfl dL_law_1069 h
        replace h := if_f h hc33_23
        by_cases hc33_24 : ((sx.2 (Int32.toNatClampNeg x1)) &&& (63 : Int32)) = (24 : Int32)
        · replace h := if_t h hc33_24
          refine X_tableIn (tgt := 1070) dL_law_33 (by rw [hc33_24] <;> decide) (by rw [hc33_24] <;> decide) (by rw [hc33_24] <;> rfl) (by decide) ?_
          refine X_aload_n dL_law_1070 rfl rfl ?_
          refine X_aload_nX dL_law_1071 rfl rfl ?_
          refine X_iload_n dL_law_1072 rfl rfl ?_
          refine X_iconst (v := 1) dL_law_1073 iconst_1 ?_
          refine X_iadd dL_law_1074 ?_
          refine X_ialdX (v := 0) (f := sx.2) (n := sx.1) (by decide) rfl rfl dL_law_1075 h (fun h => ?_)
          refine X_aload_nX dL_law_1076 rfl rfl ?_
          refine X_iload_n dL_law_1077 rfl rfl ?_
          refine X_iconst (v := 2) dL_law_1078 iconst_2 ?_
          refine X_iadd dL_law_1079 ?_
          refine X_ialdX (v := 0) (f := sx.2) (n := sx.1) (by decide) rfl rfl dL_law_1080 h (fun h => ?_)
          refine X_callVit [.int (sx.2 (Int32.toNatClampNeg (x1 + (1 : Int32)))), .int (sx.2 (Int32.toNatClampNeg (x1 + (2 : Int32))))] [] c_X11_rein v_X11_rein lk_L_114 dL_law_1081 g_0 rfl rfl rfl (by decide) (Nat.le_of_ble_eq_true rfl) rfl (s_X11_rein sx (sx.2 (Int32.toNatClampNeg (x1 + (1 : Int32)))) (sx.2 (Int32.toNatClampNeg (x1 + (2 : Int32))))  σ2 _ h) (fun r101 σ100 h => ?_)
          refine X_aload_n dL_law_1084 rfl rfl ?_
          refine X_aload_nX dL_law_1085 rfl rfl ?_
          refine X_iload_n dL_law_1086 rfl rfl ?_
          refine X_iconst (v := 1) dL_law_1087 iconst_1 ?_
          refine X_iadd dL_law_1088 ?_
          refine X_ialdX (v := 0) (f := sx.2) (n := sx.1) (by decide) rfl rfl dL_law_1089 h (fun h => ?_)
          refine X_aload_nX dL_law_1090 rfl rfl ?_
          refine X_iload_n dL_law_1091 rfl rfl ?_
          refine X_iconst (v := 2) dL_law_1092 iconst_2 ?_
          refine X_iadd dL_law_1093 ?_
          refine X_ialdX (v := 0) (f := sx.2) (n := sx.1) (by decide) rfl rfl dL_law_1094 h (fun h => ?_)
          refine X_callVit [.int (sx.2 (Int32.toNatClampNeg (x1 + (1 : Int32)))), .int (sx.2 (Int32.toNatClampNeg (x1 + (2 : Int32))))] [.int r101] c_X12_rein v_X12_rein lk_L_117 dL_law_1095 g_60 rfl rfl rfl (by decide) (Nat.le_of_ble_eq_true rfl) rfl (s_X12_rein sx (sx.2 (Int32.toNatClampNeg (x1 + (1 : Int32)))) (sx.2 (Int32.toNatClampNeg (x1 + (2 : Int32))))  σ100 _ h) (fun r103 σ102 h => ?_)
          refine X_icmp_eq (tgt := 1615) dL_law_1098 (by decide) h (fun h => ?_) (fun h => ?_)
          · exact j1615 _  h
          · refine X_iconst (v := 0) dL_law_1101 iconst_0 ?_
            exact X_retz rfl rfl dL_law_1102 h
        replace h := if_f h hc33_24
        by_cases hc33_25 : ((sx.2 (Int32.toNatClampNeg x1)) &&& (63 : Int32)) = (25 : Int32)
        · replace h := if_t h hc33_25
          refine X_tableIn (tgt := 1103) dL_law_33 (by rw [hc33_25] <;> decide) (by rw [hc33_25] <;> decide) (by rw [hc33_25] <;> rfl) (by decide) ?_
          refine X_aload_n dL_law_1103 rfl rfl ?_
          refine X_aload_nX dL_law_1104 rfl rfl ?_
          refine X_iload_n dL_law_1105 rfl rfl ?_
          refine X_iconst (v := 1) dL_law_1106 iconst_1 ?_
          refine X_iadd dL_law_1107 ?_
          refine X_ialdX (v := 0) (f := sx.2) (n := sx.1) (by decide) rfl rfl dL_law_1108 h (fun h => ?_)
          refine X_callVit [.int (sx.2 (Int32.toNatClampNeg (x1 + (1 : Int32))))] [] c_X11_shoe v_X11_shoe lk_L_118 dL_law_1109 g_0 rfl rfl rfl (by decide) (Nat.le_of_ble_eq_true rfl) rfl (s_X11_shoe sx (sx.2 (Int32.toNatClampNeg (x1 + (1 : Int32))))  σ2 _ h) (fun r105 σ104 h => ?_)
          refine X_aload_n dL_law_1112 rfl rfl ?_
          refine X_aload_nX dL_law_1113 rfl rfl ?_
          refine X_iload_n dL_law_1114 rfl rfl ?_
          refine X_iconst (v := 1) dL_law_1115 iconst_1 ?_
          refine X_iadd dL_law_1116 ?_
          refine X_ialdX (v := 0) (f := sx.2) (n := sx.1) (by decide) rfl rfl dL_law_1117 h (fun h => ?_)
          refine X_callVit [.int (sx.2 (Int32.toNatClampNeg (x1 + (1 : Int32))))] [.int r105] c_X12_shoe v_X12_shoe lk_L_121 dL_law_1118 g_60 rfl rfl rfl (by decide) (Nat.le_of_ble_eq_true rfl) rfl (s_X12_shoe sx (sx.2 (Int32.toNatClampNeg (x1 + (1 : Int32))))  σ104 _ h) (fun r107 σ106 h => ?_)
          refine X_icmp_eq (tgt := 1615) dL_law_1121 (by decide) h (fun h => ?_) (fun h => ?_)
          · exact j1615 _  h
          · refine X_iconst (v := 0) dL_law_1124 iconst_0 ?_
            exact X_retz rfl rfl dL_law_1125 h
        replace h := if_f h hc33_25
        by_cases hc33_26 : ((sx.2 (Int32.toNatClampNeg x1)) &&& (63 : Int32)) = (26 : Int32)
        · replace h := if_t h hc33_26
          refine X_tableIn (tgt := 1126) dL_law_33 (by rw [hc33_26] <;> decide) (by rw [hc33_26] <;> decide) (by rw [hc33_26] <;> rfl) (by decide) ?_
          refine X_aload_n dL_law_1126 rfl rfl ?_
          refine X_aload_nX dL_law_1127 rfl rfl ?_
          refine X_iload_n dL_law_1128 rfl rfl ?_
          refine X_iconst (v := 1) dL_law_1129 iconst_1 ?_
          refine X_iadd dL_law_1130 ?_
          refine X_ialdX (v := 0) (f := sx.2) (n := sx.1) (by decide) rfl rfl dL_law_1131 h (fun h => ?_)
          refine X_callVit [.int (sx.2 (Int32.toNatClampNeg (x1 + (1 : Int32))))] [] c_X11_buys v_X11_buys lk_L_122 dL_law_1132 g_0 rfl rfl rfl (by decide) (Nat.le_of_ble_eq_true rfl) rfl (s_X11_buys sx (sx.2 (Int32.toNatClampNeg (x1 + (1 : Int32))))  σ2 _ h) (fun r109 σ108 h => ?_)
          refine X_aload_n dL_law_1135 rfl rfl ?_
          refine X_aload_nX dL_law_1136 rfl rfl ?_
          refine X_iload_n dL_law_1137 rfl rfl ?_
          refine X_iconst (v := 1) dL_law_1138 iconst_1 ?_
          refine X_iadd dL_law_1139 ?_
          refine X_ialdX (v := 0) (f := sx.2) (n := sx.1) (by decide) rfl rfl dL_law_1140 h (fun h => ?_)
          refine X_callVit [.int (sx.2 (Int32.toNatClampNeg (x1 + (1 : Int32))))] [.int r109] c_X12_buys v_X12_buys lk_L_125 dL_law_1141 g_60 rfl rfl rfl (by decide) (Nat.le_of_ble_eq_true rfl) rfl (s_X12_buys sx (sx.2 (Int32.toNatClampNeg (x1 + (1 : Int32))))  σ108 _ h) (fun r111 σ110 h => ?_)
          refine X_icmp_eq (tgt := 1615) dL_law_1144 (by decide) h (fun h => ?_) (fun h => ?_)
          · exact j1615 _  h
          · refine X_iconst (v := 0) dL_law_1147 iconst_0 ?_
            exact X_retz rfl rfl dL_law_1148 h
        replace h := if_f h hc33_26
        by_cases hc33_27 : ((sx.2 (Int32.toNatClampNeg x1)) &&& (63 : Int32)) = (27 : Int32)
        · replace h := if_t h hc33_27
          refine X_tableIn (tgt := 1149) dL_law_33 (by rw [hc33_27] <;> decide) (by rw [hc33_27] <;> decide) (by rw [hc33_27] <;> rfl) (by decide) ?_
          refine X_aload_n dL_law_1149 rfl rfl ?_
          refine X_aload_nX dL_law_1150 rfl rfl ?_
          refine X_iload_n dL_law_1151 rfl rfl ?_
          refine X_iconst (v := 1) dL_law_1152 iconst_1 ?_
          refine X_iadd dL_law_1153 ?_
          refine X_ialdX (v := 0) (f := sx.2) (n := sx.1) (by decide) rfl rfl dL_law_1154 h (fun h => ?_)
          refine X_callVit [.int (sx.2 (Int32.toNatClampNeg (x1 + (1 : Int32))))] [] c_X11_led v_X11_led lk_L_126 dL_law_1155 g_0 rfl rfl rfl (by decide) (Nat.le_of_ble_eq_true rfl) rfl (s_X11_led sx (sx.2 (Int32.toNatClampNeg (x1 + (1 : Int32))))  σ2 _ h) (fun r113 σ112 h => ?_)
          refine X_aload_n dL_law_1158 rfl rfl ?_
          refine X_aload_nX dL_law_1159 rfl rfl ?_
          refine X_iload_n dL_law_1160 rfl rfl ?_
          refine X_iconst (v := 1) dL_law_1161 iconst_1 ?_
          refine X_iadd dL_law_1162 ?_
          refine X_ialdX (v := 0) (f := sx.2) (n := sx.1) (by decide) rfl rfl dL_law_1163 h (fun h => ?_)
          refine X_callVit [.int (sx.2 (Int32.toNatClampNeg (x1 + (1 : Int32))))] [.int r113] c_X12_led v_X12_led lk_L_129 dL_law_1164 g_60 rfl rfl rfl (by decide) (Nat.le_of_ble_eq_true rfl) rfl (s_X12_led sx (sx.2 (Int32.toNatClampNeg (x1 + (1 : Int32))))  σ112 _ h) (fun r115 σ114 h => ?_)
          refine X_icmp_eq (tgt := 1615) dL_law_1167 (by decide) h (fun h => ?_) (fun h => ?_)
          · exact j1615 _  h
          · refine X_iconst (v := 0) dL_law_1170 iconst_0 ?_
            exact X_retz rfl rfl dL_law_1171 h
        replace h := if_f h hc33_27
        by_cases hc33_28 : ((sx.2 (Int32.toNatClampNeg x1)) &&& (63 : Int32)) = (28 : Int32)
        · replace h := if_t h hc33_28
          refine X_tableIn (tgt := 1172) dL_law_33 (by rw [hc33_28] <;> decide) (by rw [hc33_28] <;> decide) (by rw [hc33_28] <;> rfl) (by decide) ?_
          refine X_aload_n dL_law_1172 rfl rfl ?_
          refine X_callVit [] [] c_X11_image v_X11_image lk_L_130 dL_law_1173 g_0 rfl rfl rfl (by decide) (Nat.le_of_ble_eq_true rfl) rfl (s_X11_image sx   σ2 _ h) (fun r117 σ116 h => ?_)
          refine X_aload_n dL_law_1176 rfl rfl ?_
          refine X_callVit [] [.int r117] c_X12_image v_X12_image lk_L_133 dL_law_1177 g_60 rfl rfl rfl (by decide) (Nat.le_of_ble_eq_true rfl) rfl (s_X12_image sx   σ116 _ h) (fun r119 σ118 h => ?_)
          refine X_icmp_eq (tgt := 1615) dL_law_1180 (by decide) h (fun h => ?_) (fun h => ?_)
          · exact j1615 _  h
          · refine X_iconst (v := 0) dL_law_1183 iconst_0 ?_
            exact X_retz rfl rfl dL_law_1184 h
        replace h := if_f h hc33_28
        by_cases hc33_29 : ((sx.2 (Int32.toNatClampNeg x1)) &&& (63 : Int32)) = (29 : Int32)
        · replace h := if_t h hc33_29
          refine X_tableIn (tgt := 1185) dL_law_33 (by rw [hc33_29] <;> decide) (by rw [hc33_29] <;> decide) (by rw [hc33_29] <;> rfl) (by decide) ?_
          refine X_aload_n dL_law_1185 rfl rfl ?_
          refine X_callVit [] [] c_X11_back v_X11_back lk_L_134 dL_law_1186 g_0 rfl rfl rfl (by decide) (Nat.le_of_ble_eq_true rfl) rfl (s_X11_back sx   σ2 _ h) (fun r121 σ120 h => ?_)
          refine X_aload_n dL_law_1189 rfl rfl ?_
          refine X_callVit [] [.int r121] c_X12_back v_X12_back lk_L_137 dL_law_1190 g_60 rfl rfl rfl (by decide) (Nat.le_of_ble_eq_true rfl) rfl (s_X12_back sx   σ120 _ h) (fun r123 σ122 h => ?_)
          refine X_icmp_eq (tgt := 1615) dL_law_1193 (by decide) h (fun h => ?_) (fun h => ?_)
          · exact j1615 _  h
          · refine X_iconst (v := 0) dL_law_1196 iconst_0 ?_
            exact X_retz rfl rfl dL_law_1197 h
        replace h := if_f h hc33_29
        by_cases hc33_30 : ((sx.2 (Int32.toNatClampNeg x1)) &&& (63 : Int32)) = (30 : Int32)
        · replace h := if_t h hc33_30
          refine X_tableIn (tgt := 1198) dL_law_33 (by rw [hc33_30] <;> decide) (by rw [hc33_30] <;> decide) (by rw [hc33_30] <;> rfl) (by decide) ?_
          refine X_aload_n dL_law_1198 rfl rfl ?_
          refine X_callVit [] [] c_X11_undo v_X11_undo lk_L_138 dL_law_1199 g_0 rfl rfl rfl (by decide) (Nat.le_of_ble_eq_true rfl) rfl (s_X11_undo sx   σ2 _ h) (fun r125 σ124 h => ?_)
          refine X_aload_n dL_law_1202 rfl rfl ?_
          refine X_callVit [] [.int r125] c_X12_undo v_X12_undo lk_L_141 dL_law_1203 g_60 rfl rfl rfl (by decide) (Nat.le_of_ble_eq_true rfl) rfl (s_X12_undo sx   σ124 _ h) (fun r127 σ126 h => ?_)
          refine X_icmp_eq (tgt := 1615) dL_law_1206 (by decide) h (fun h => ?_) (fun h => ?_)
          · exact j1615 _  h
          · refine X_iconst (v := 0) dL_law_1209 iconst_0 ?_
            exact X_retz rfl rfl dL_law_1210 h
        replace h := if_f h hc33_30
        by_cases hc33_31 : ((sx.2 (Int32.toNatClampNeg x1)) &&& (63 : Int32)) = (31 : Int32)
        · replace h := if_t h hc33_31
          refine X_tableIn (tgt := 1211) dL_law_33 (by rw [hc33_31] <;> decide) (by rw [hc33_31] <;> decide) (by rw [hc33_31] <;> rfl) (by decide) ?_
          refine X_aload_n dL_law_1211 rfl rfl ?_
          refine X_callVit [] [] c_X11_redo v_X11_redo lk_L_142 dL_law_1212 g_0 rfl rfl rfl (by decide) (Nat.le_of_ble_eq_true rfl) rfl (s_X11_redo sx   σ2 _ h) (fun r129 σ128 h => ?_)
          refine X_aload_n dL_law_1215 rfl rfl ?_
          refine X_callVit [] [.int r129] c_X12_redo v_X12_redo lk_L_145 dL_law_1216 g_60 rfl rfl rfl (by decide) (Nat.le_of_ble_eq_true rfl) rfl (s_X12_redo sx   σ128 _ h) (fun r131 σ130 h => ?_)
          refine X_icmp_eq (tgt := 1615) dL_law_1219 (by decide) h (fun h => ?_) (fun h => ?_)
          · exact j1615 _  h
          · refine X_iconst (v := 0) dL_law_1222 iconst_0 ?_
            exact X_retz rfl rfl dL_law_1223 h
        replace h := if_f h hc33_31
        by_cases hc33_32 : ((sx.2 (Int32.toNatClampNeg x1)) &&& (63 : Int32)) = (32 : Int32)
        · replace h := if_t h hc33_32
          refine X_tableIn (tgt := 1224) dL_law_33 (by rw [hc33_32] <;> decide) (by rw [hc33_32] <;> decide) (by rw [hc33_32] <;> rfl) (by decide) ?_
          refine X_aload_n dL_law_1224 rfl rfl ?_
          refine X_aload_nX dL_law_1225 rfl rfl ?_
          refine X_iload_n dL_law_1226 rfl rfl ?_
          refine X_iconst (v := 1) dL_law_1227 iconst_1 ?_
          refine X_iadd dL_law_1228 ?_
          refine X_ialdX (v := 0) (f := sx.2) (n := sx.1) (by decide) rfl rfl dL_law_1229 h (fun h => ?_)
          refine X_callVit [.int (sx.2 (Int32.toNatClampNeg (x1 + (1 : Int32))))] [] c_X11_body v_X11_body lk_L_146 dL_law_1230 g_0 rfl rfl rfl (by decide) (Nat.le_of_ble_eq_true rfl) rfl (s_X11_body sx (sx.2 (Int32.toNatClampNeg (x1 + (1 : Int32))))  σ2 _ h) (fun r133 σ132 h => ?_)
          refine X_aload_n dL_law_1233 rfl rfl ?_
          refine X_aload_nX dL_law_1234 rfl rfl ?_
          refine X_iload_n dL_law_1235 rfl rfl ?_
          refine X_iconst (v := 1) dL_law_1236 iconst_1 ?_
          refine X_iadd dL_law_1237 ?_
          refine X_ialdX (v := 0) (f := sx.2) (n := sx.1) (by decide) rfl rfl dL_law_1238 h (fun h => ?_)
          refine X_callVit [.int (sx.2 (Int32.toNatClampNeg (x1 + (1 : Int32))))] [.int r133] c_X12_body v_X12_body lk_L_149 dL_law_1239 g_60 rfl rfl rfl (by decide) (Nat.le_of_ble_eq_true rfl) rfl (s_X12_body sx (sx.2 (Int32.toNatClampNeg (x1 + (1 : Int32))))  σ132 _ h) (fun r135 σ134 h => ?_)
          refine X_icmp_eq (tgt := 1615) dL_law_1242 (by decide) h (fun h => ?_) (fun h => ?_)
          · exact j1615 _  h
          · refine X_iconst (v := 0) dL_law_1245 iconst_0 ?_
            exact X_retz rfl rfl dL_law_1246 h
        replace h := if_f h hc33_32
        by_cases hc33_33 : ((sx.2 (Int32.toNatClampNeg x1)) &&& (63 : Int32)) = (33 : Int32)
        · replace h := if_t h hc33_33
          refine X_tableIn (tgt := 1247) dL_law_33 (by rw [hc33_33] <;> decide) (by rw [hc33_33] <;> decide) (by rw [hc33_33] <;> rfl) (by decide) ?_
          refine X_aload_n dL_law_1247 rfl rfl ?_
          refine X_aload_nX dL_law_1248 rfl rfl ?_
          refine X_iload_n dL_law_1249 rfl rfl ?_
          refine X_iconst (v := 1) dL_law_1250 iconst_1 ?_
          refine X_iadd dL_law_1251 ?_
          refine X_ialdX (v := 0) (f := sx.2) (n := sx.1) (by decide) rfl rfl dL_law_1252 h (fun h => ?_)
          refine X_aload_nX dL_law_1253 rfl rfl ?_
          refine X_iload_n dL_law_1254 rfl rfl ?_
          refine X_iconst (v := 2) dL_law_1255 iconst_2 ?_
          refine X_iadd dL_law_1256 ?_
          refine X_ialdX (v := 0) (f := sx.2) (n := sx.1) (by decide) rfl rfl dL_law_1257 h (fun h => ?_)
          refine X_aload_nX dL_law_1258 rfl rfl ?_
          refine X_iload_n dL_law_1259 rfl rfl ?_
          refine X_iconst (v := 3) dL_law_1260 iconst_3 ?_
          refine X_iadd dL_law_1261 ?_
          refine X_ialdX (v := 0) (f := sx.2) (n := sx.1) (by decide) rfl rfl dL_law_1262 h (fun h => ?_)
          refine X_callVit [.int (sx.2 (Int32.toNatClampNeg (x1 + (1 : Int32)))), .int (sx.2 (Int32.toNatClampNeg (x1 + (2 : Int32)))), .int (sx.2 (Int32.toNatClampNeg (x1 + (3 : Int32))))] [] c_X11_act v_X11_act lk_L_150 dL_law_1263 g_0 rfl rfl rfl (by decide) (Nat.le_of_ble_eq_true rfl) rfl (s_X11_act sx (sx.2 (Int32.toNatClampNeg (x1 + (1 : Int32)))) (sx.2 (Int32.toNatClampNeg (x1 + (2 : Int32)))) (sx.2 (Int32.toNatClampNeg (x1 + (3 : Int32))))  σ2 _ h) (fun r137 σ136 h => ?_)
          refine X_aload_n dL_law_1266 rfl rfl ?_
          refine X_aload_nX dL_law_1267 rfl rfl ?_
          refine X_iload_n dL_law_1268 rfl rfl ?_
          refine X_iconst (v := 1) dL_law_1269 iconst_1 ?_
          refine X_iadd dL_law_1270 ?_
          refine X_ialdX (v := 0) (f := sx.2) (n := sx.1) (by decide) rfl rfl dL_law_1271 h (fun h => ?_)
          refine X_aload_nX dL_law_1272 rfl rfl ?_
          refine X_iload_n dL_law_1273 rfl rfl ?_
          refine X_iconst (v := 2) dL_law_1274 iconst_2 ?_
          refine X_iadd dL_law_1275 ?_
          refine X_ialdX (v := 0) (f := sx.2) (n := sx.1) (by decide) rfl rfl dL_law_1276 h (fun h => ?_)
          refine X_aload_nX dL_law_1277 rfl rfl ?_
          refine X_iload_n dL_law_1278 rfl rfl ?_
          refine X_iconst (v := 3) dL_law_1279 iconst_3 ?_
          refine X_iadd dL_law_1280 ?_
          refine X_ialdX (v := 0) (f := sx.2) (n := sx.1) (by decide) rfl rfl dL_law_1281 h (fun h => ?_)
          refine X_callVit [.int (sx.2 (Int32.toNatClampNeg (x1 + (1 : Int32)))), .int (sx.2 (Int32.toNatClampNeg (x1 + (2 : Int32)))), .int (sx.2 (Int32.toNatClampNeg (x1 + (3 : Int32))))] [.int r137] c_X12_act v_X12_act lk_L_153 dL_law_1282 g_60 rfl rfl rfl (by decide) (Nat.le_of_ble_eq_true rfl) rfl (s_X12_act sx (sx.2 (Int32.toNatClampNeg (x1 + (1 : Int32)))) (sx.2 (Int32.toNatClampNeg (x1 + (2 : Int32)))) (sx.2 (Int32.toNatClampNeg (x1 + (3 : Int32))))  σ136 _ h) (fun r139 σ138 h => ?_)
          refine X_icmp_eq (tgt := 1615) dL_law_1285 (by decide) h (fun h => ?_) (fun h => ?_)
          · exact j1615 _  h
          · refine X_iconst (v := 0) dL_law_1288 iconst_0 ?_
            exact X_retz rfl rfl dL_law_1289 h
        replace h := if_f h hc33_33
        by_cases hc33_34 : ((sx.2 (Int32.toNatClampNeg x1)) &&& (63 : Int32)) = (34 : Int32)
        · replace h := if_t h hc33_34
          refine X_tableIn (tgt := 1290) dL_law_33 (by rw [hc33_34] <;> decide) (by rw [hc33_34] <;> decide) (by rw [hc33_34] <;> rfl) (by decide) ?_
          refine X_aload_n dL_law_1290 rfl rfl ?_
          refine X_aload_nX dL_law_1291 rfl rfl ?_
          refine X_iload_n dL_law_1292 rfl rfl ?_
          refine X_iconst (v := 1) dL_law_1293 iconst_1 ?_
          refine X_iadd dL_law_1294 ?_
          refine X_ialdX (v := 0) (f := sx.2) (n := sx.1) (by decide) rfl rfl dL_law_1295 h (fun h => ?_)
          refine X_callVit [.int (sx.2 (Int32.toNatClampNeg (x1 + (1 : Int32))))] [] c_X11_trace v_X11_trace lk_L_154 dL_law_1296 g_0 rfl rfl rfl (by decide) (Nat.le_of_ble_eq_true rfl) rfl (s_X11_trace sx (sx.2 (Int32.toNatClampNeg (x1 + (1 : Int32))))  σ2 _ h) (fun r141 σ140 h => ?_)
          refine X_aload_n dL_law_1299 rfl rfl ?_
          refine X_aload_nX dL_law_1300 rfl rfl ?_
          refine X_iload_n dL_law_1301 rfl rfl ?_
          refine X_iconst (v := 1) dL_law_1302 iconst_1 ?_
          refine X_iadd dL_law_1303 ?_
          refine X_ialdX (v := 0) (f := sx.2) (n := sx.1) (by decide) rfl rfl dL_law_1304 h (fun h => ?_)
          refine X_callVit [.int (sx.2 (Int32.toNatClampNeg (x1 + (1 : Int32))))] [.int r141] c_X12_trace v_X12_trace lk_L_157 dL_law_1305 g_60 rfl rfl rfl (by decide) (Nat.le_of_ble_eq_true rfl) rfl (s_X12_trace sx (sx.2 (Int32.toNatClampNeg (x1 + (1 : Int32))))  σ140 _ h) (fun r143 σ142 h => ?_)
          refine X_icmp_eq (tgt := 1615) dL_law_1308 (by decide) h (fun h => ?_) (fun h => ?_)
          · exact j1615 _  h
          · refine X_iconst (v := 0) dL_law_1311 iconst_0 ?_
            exact X_retz rfl rfl dL_law_1312 h
        replace h := if_f h hc33_34
        by_cases hc33_35 : ((sx.2 (Int32.toNatClampNeg x1)) &&& (63 : Int32)) = (35 : Int32)
        · replace h := if_t h hc33_35
          refine X_tableIn (tgt := 1313) dL_law_33 (by rw [hc33_35] <;> decide) (by rw [hc33_35] <;> decide) (by rw [hc33_35] <;> rfl) (by decide) ?_
          refine X_aload_n dL_law_1313 rfl rfl ?_
          refine X_aload_nX dL_law_1314 rfl rfl ?_
          refine X_iload_n dL_law_1315 rfl rfl ?_
          refine X_iconst (v := 1) dL_law_1316 iconst_1 ?_
          refine X_iadd dL_law_1317 ?_
          refine X_ialdX (v := 0) (f := sx.2) (n := sx.1) (by decide) rfl rfl dL_law_1318 h (fun h => ?_)
          refine X_aload_nX dL_law_1319 rfl rfl ?_
          refine X_iload_n dL_law_1320 rfl rfl ?_
          refine X_iconst (v := 2) dL_law_1321 iconst_2 ?_
          refine X_iadd dL_law_1322 ?_
          refine X_ialdX (v := 0) (f := sx.2) (n := sx.1) (by decide) rfl rfl dL_law_1323 h (fun h => ?_)
          refine X_callVit [.int (sx.2 (Int32.toNatClampNeg (x1 + (1 : Int32)))), .int (sx.2 (Int32.toNatClampNeg (x1 + (2 : Int32))))] [] c_X11_keep v_X11_keep lk_L_158 dL_law_1324 g_0 rfl rfl rfl (by decide) (Nat.le_of_ble_eq_true rfl) rfl (s_X11_keep sx (sx.2 (Int32.toNatClampNeg (x1 + (1 : Int32)))) (sx.2 (Int32.toNatClampNeg (x1 + (2 : Int32))))  σ2 _ h) (fun r145 σ144 h => ?_)
          refine X_aload_n dL_law_1327 rfl rfl ?_
          refine X_aload_nX dL_law_1328 rfl rfl ?_
          refine X_iload_n dL_law_1329 rfl rfl ?_
          refine X_iconst (v := 1) dL_law_1330 iconst_1 ?_
          refine X_iadd dL_law_1331 ?_
          refine X_ialdX (v := 0) (f := sx.2) (n := sx.1) (by decide) rfl rfl dL_law_1332 h (fun h => ?_)
          refine X_aload_nX dL_law_1333 rfl rfl ?_
          refine X_iload_n dL_law_1334 rfl rfl ?_
          refine X_iconst (v := 2) dL_law_1335 iconst_2 ?_
          refine X_iadd dL_law_1336 ?_
          refine X_ialdX (v := 0) (f := sx.2) (n := sx.1) (by decide) rfl rfl dL_law_1337 h (fun h => ?_)
          refine X_callVit [.int (sx.2 (Int32.toNatClampNeg (x1 + (1 : Int32)))), .int (sx.2 (Int32.toNatClampNeg (x1 + (2 : Int32))))] [.int r145] c_X12_keep v_X12_keep lk_L_161 dL_law_1338 g_60 rfl rfl rfl (by decide) (Nat.le_of_ble_eq_true rfl) rfl (s_X12_keep sx (sx.2 (Int32.toNatClampNeg (x1 + (1 : Int32)))) (sx.2 (Int32.toNatClampNeg (x1 + (2 : Int32))))  σ144 _ h) (fun r147 σ146 h => ?_)
          refine X_icmp_eq (tgt := 1615) dL_law_1341 (by decide) h (fun h => ?_) (fun h => ?_)
          · exact j1615 _  h
          · refine X_iconst (v := 0) dL_law_1344 iconst_0 ?_
            exact X_retz rfl rfl dL_law_1345 h
        replace h := if_f h hc33_35
        by_cases hc33_36 : ((sx.2 (Int32.toNatClampNeg x1)) &&& (63 : Int32)) = (36 : Int32)
        · replace h := if_t h hc33_36
          refine X_tableIn (tgt := 1346) dL_law_33 (by rw [hc33_36] <;> decide) (by rw [hc33_36] <;> decide) (by rw [hc33_36] <;> rfl) (by decide) ?_
          refine X_aload_n dL_law_1346 rfl rfl ?_
          refine X_aload_nX dL_law_1347 rfl rfl ?_
          refine X_iload_n dL_law_1348 rfl rfl ?_
          refine X_iconst (v := 1) dL_law_1349 iconst_1 ?_
          refine X_iadd dL_law_1350 ?_
          refine X_ialdX (v := 0) (f := sx.2) (n := sx.1) (by decide) rfl rfl dL_law_1351 h (fun h => ?_)
          refine X_aload_nX dL_law_1352 rfl rfl ?_
          refine X_iload_n dL_law_1353 rfl rfl ?_
          refine X_iconst (v := 2) dL_law_1354 iconst_2 ?_
          refine X_iadd dL_law_1355 ?_
          refine X_ialdX (v := 0) (f := sx.2) (n := sx.1) (by decide) rfl rfl dL_law_1356 h (fun h => ?_)
          refine X_aload_nX dL_law_1357 rfl rfl ?_
          refine X_iload_n dL_law_1358 rfl rfl ?_
          refine X_iconst (v := 3) dL_law_1359 iconst_3 ?_
          refine X_iadd dL_law_1360 ?_
          refine X_ialdX (v := 0) (f := sx.2) (n := sx.1) (by decide) rfl rfl dL_law_1361 h (fun h => ?_)
          refine X_callVit [.int (sx.2 (Int32.toNatClampNeg (x1 + (1 : Int32)))), .int (sx.2 (Int32.toNatClampNeg (x1 + (2 : Int32)))), .int (sx.2 (Int32.toNatClampNeg (x1 + (3 : Int32))))] [] c_X11_row v_X11_row lk_L_162 dL_law_1362 g_0 rfl rfl rfl (by decide) (Nat.le_of_ble_eq_true rfl) rfl (s_X11_row sx (sx.2 (Int32.toNatClampNeg (x1 + (1 : Int32)))) (sx.2 (Int32.toNatClampNeg (x1 + (2 : Int32)))) (sx.2 (Int32.toNatClampNeg (x1 + (3 : Int32))))  σ2 _ h) (fun r149 σ148 h => ?_)
          refine X_aload_n dL_law_1365 rfl rfl ?_
          refine X_aload_nX dL_law_1366 rfl rfl ?_
          refine X_iload_n dL_law_1367 rfl rfl ?_
          refine X_iconst (v := 1) dL_law_1368 iconst_1 ?_
          refine X_iadd dL_law_1369 ?_
          refine X_ialdX (v := 0) (f := sx.2) (n := sx.1) (by decide) rfl rfl dL_law_1370 h (fun h => ?_)
          refine X_aload_nX dL_law_1371 rfl rfl ?_
          refine X_iload_n dL_law_1372 rfl rfl ?_
          refine X_iconst (v := 2) dL_law_1373 iconst_2 ?_
          refine X_iadd dL_law_1374 ?_
          refine X_ialdX (v := 0) (f := sx.2) (n := sx.1) (by decide) rfl rfl dL_law_1375 h (fun h => ?_)
          refine X_aload_nX dL_law_1376 rfl rfl ?_
          refine X_iload_n dL_law_1377 rfl rfl ?_
          refine X_iconst (v := 3) dL_law_1378 iconst_3 ?_
          refine X_iadd dL_law_1379 ?_
          refine X_ialdX (v := 0) (f := sx.2) (n := sx.1) (by decide) rfl rfl dL_law_1380 h (fun h => ?_)
          refine X_callVit [.int (sx.2 (Int32.toNatClampNeg (x1 + (1 : Int32)))), .int (sx.2 (Int32.toNatClampNeg (x1 + (2 : Int32)))), .int (sx.2 (Int32.toNatClampNeg (x1 + (3 : Int32))))] [.int r149] c_X12_row v_X12_row lk_L_165 dL_law_1381 g_60 rfl rfl rfl (by decide) (Nat.le_of_ble_eq_true rfl) rfl (s_X12_row sx (sx.2 (Int32.toNatClampNeg (x1 + (1 : Int32)))) (sx.2 (Int32.toNatClampNeg (x1 + (2 : Int32)))) (sx.2 (Int32.toNatClampNeg (x1 + (3 : Int32))))  σ148 _ h) (fun r151 σ150 h => ?_)
          refine X_icmp_eq (tgt := 1615) dL_law_1384 (by decide) h (fun h => ?_) (fun h => ?_)
          · exact j1615 _  h
          · refine X_iconst (v := 0) dL_law_1387 iconst_0 ?_
            exact X_retz rfl rfl dL_law_1388 h
        replace h := if_f h hc33_36
        by_cases hc33_37 : ((sx.2 (Int32.toNatClampNeg x1)) &&& (63 : Int32)) = (37 : Int32)
        · replace h := if_t h hc33_37
          refine X_tableIn (tgt := 1389) dL_law_33 (by rw [hc33_37] <;> decide) (by rw [hc33_37] <;> decide) (by rw [hc33_37] <;> rfl) (by decide) ?_
          refine X_aload_n dL_law_1389 rfl rfl ?_
          refine X_aload_nX dL_law_1390 rfl rfl ?_
          refine X_iload_n dL_law_1391 rfl rfl ?_
          refine X_iconst (v := 1) dL_law_1392 iconst_1 ?_
          refine X_iadd dL_law_1393 ?_
          refine X_ialdX (v := 0) (f := sx.2) (n := sx.1) (by decide) rfl rfl dL_law_1394 h (fun h => ?_)
          refine X_aload_nX dL_law_1395 rfl rfl ?_
          refine X_iload_n dL_law_1396 rfl rfl ?_
          refine X_iconst (v := 2) dL_law_1397 iconst_2 ?_
          refine X_iadd dL_law_1398 ?_
          refine X_ialdX (v := 0) (f := sx.2) (n := sx.1) (by decide) rfl rfl dL_law_1399 h (fun h => ?_)
          refine X_aload_nX dL_law_1400 rfl rfl ?_
          refine X_iload_n dL_law_1401 rfl rfl ?_
          refine X_iconst (v := 3) dL_law_1402 iconst_3 ?_
          refine X_iadd dL_law_1403 ?_
          refine X_ialdX (v := 0) (f := sx.2) (n := sx.1) (by decide) rfl rfl dL_law_1404 h (fun h => ?_)
          refine X_i2l dL_law_1405 ?_
          refine X_bipush (v := 32) dL_law_1406 bipush_32 ?_
          refine X_lshl dL_law_1408 ?_
          refine X_aload_nX dL_law_1409 rfl rfl ?_
          refine X_iload_n dL_law_1410 rfl rfl ?_
          refine X_iconst (v := 4) dL_law_1411 iconst_4 ?_
          refine X_iadd dL_law_1412 ?_
          refine X_ialdX (v := 0) (f := sx.2) (n := sx.1) (by decide) rfl rfl dL_law_1413 h (fun h => ?_)
          refine X_i2l dL_law_1414 ?_
          refine X_ldc2 (v := 4294967295) dL_law_1415 k_L_166 ?_
          refine X_land dL_law_1418 ?_
          refine X_lor dL_law_1419 ?_
          refine X_callVit [.int (sx.2 (Int32.toNatClampNeg (x1 + (1 : Int32)))), .int (sx.2 (Int32.toNatClampNeg (x1 + (2 : Int32)))), .long (((Int32.toInt64 (sx.2 (Int32.toNatClampNeg (x1 + (3 : Int32))))) <<< (Int32.toInt64 (32 : Int32) &&& 63)) ||| ((Int32.toInt64 (sx.2 (Int32.toNatClampNeg (x1 + (4 : Int32))))) &&& (4294967295 : Int64)))] [] c_X11_put v_X11_put lk_L_168 dL_law_1420 g_0 rfl rfl rfl (by decide) (Nat.le_of_ble_eq_true rfl) rfl (s_X11_put sx (sx.2 (Int32.toNatClampNeg (x1 + (1 : Int32)))) (sx.2 (Int32.toNatClampNeg (x1 + (2 : Int32)))) (((Int32.toInt64 (sx.2 (Int32.toNatClampNeg (x1 + (3 : Int32))))) <<< (Int32.toInt64 (32 : Int32) &&& 63)) ||| ((Int32.toInt64 (sx.2 (Int32.toNatClampNeg (x1 + (4 : Int32))))) &&& (4294967295 : Int64)))  σ2 _ h) (fun r153 σ152 h => ?_)
          refine X_aload_n dL_law_1423 rfl rfl ?_
          refine X_aload_nX dL_law_1424 rfl rfl ?_
          refine X_iload_n dL_law_1425 rfl rfl ?_
          refine X_iconst (v := 1) dL_law_1426 iconst_1 ?_
          refine X_iadd dL_law_1427 ?_
          refine X_ialdX (v := 0) (f := sx.2) (n := sx.1) (by decide) rfl rfl dL_law_1428 h (fun h => ?_)
          refine X_aload_nX dL_law_1429 rfl rfl ?_
          refine X_iload_n dL_law_1430 rfl rfl ?_
          refine X_iconst (v := 2) dL_law_1431 iconst_2 ?_
          refine X_iadd dL_law_1432 ?_
          refine X_ialdX (v := 0) (f := sx.2) (n := sx.1) (by decide) rfl rfl dL_law_1433 h (fun h => ?_)
          refine X_aload_nX dL_law_1434 rfl rfl ?_
          refine X_iload_n dL_law_1435 rfl rfl ?_
          refine X_iconst (v := 3) dL_law_1436 iconst_3 ?_
          refine X_iadd dL_law_1437 ?_
          refine X_ialdX (v := 0) (f := sx.2) (n := sx.1) (by decide) rfl rfl dL_law_1438 h (fun h => ?_)
          refine X_i2l dL_law_1439 ?_
          refine X_bipush (v := 32) dL_law_1440 bipush_32 ?_
          refine X_lshl dL_law_1442 ?_
          refine X_aload_nX dL_law_1443 rfl rfl ?_
          refine X_iload_n dL_law_1444 rfl rfl ?_
          refine X_iconst (v := 4) dL_law_1445 iconst_4 ?_
          refine X_iadd dL_law_1446 ?_
          refine X_ialdX (v := 0) (f := sx.2) (n := sx.1) (by decide) rfl rfl dL_law_1447 h (fun h => ?_)
          refine X_i2l dL_law_1448 ?_
          refine X_ldc2 (v := 4294967295) dL_law_1449 k_L_166 ?_
          refine X_land dL_law_1452 ?_
          refine X_lor dL_law_1453 ?_
          refine X_callVit [.int (sx.2 (Int32.toNatClampNeg (x1 + (1 : Int32)))), .int (sx.2 (Int32.toNatClampNeg (x1 + (2 : Int32)))), .long (((Int32.toInt64 (sx.2 (Int32.toNatClampNeg (x1 + (3 : Int32))))) <<< (Int32.toInt64 (32 : Int32) &&& 63)) ||| ((Int32.toInt64 (sx.2 (Int32.toNatClampNeg (x1 + (4 : Int32))))) &&& (4294967295 : Int64)))] [.int r153] c_X12_put v_X12_put lk_L_172 dL_law_1454 g_60 rfl rfl rfl (by decide) (Nat.le_of_ble_eq_true rfl) rfl (s_X12_put sx (sx.2 (Int32.toNatClampNeg (x1 + (1 : Int32)))) (sx.2 (Int32.toNatClampNeg (x1 + (2 : Int32)))) (((Int32.toInt64 (sx.2 (Int32.toNatClampNeg (x1 + (3 : Int32))))) <<< (Int32.toInt64 (32 : Int32) &&& 63)) ||| ((Int32.toInt64 (sx.2 (Int32.toNatClampNeg (x1 + (4 : Int32))))) &&& (4294967295 : Int64)))  σ152 _ h) (fun r155 σ154 h => ?_)
          refine X_icmp_eq (tgt := 1615) dL_law_1457 (by decide) h (fun h => ?_) (fun h => ?_)
          · exact j1615 _  h
          · refine X_iconst (v := 0) dL_law_1460 iconst_0 ?_
            exact X_retz rfl rfl dL_law_1461 h
        replace h := if_f h hc33_37
        by_cases hc33_38 : ((sx.2 (Int32.toNatClampNeg x1)) &&& (63 : Int32)) = (38 : Int32)
        · replace h := if_t h hc33_38
          refine X_tableIn (tgt := 1462) dL_law_33 (by rw [hc33_38] <;> decide) (by rw [hc33_38] <;> decide) (by rw [hc33_38] <;> rfl) (by decide) ?_
          refine X_aload_n dL_law_1462 rfl rfl ?_
          refine X_aload_nX dL_law_1463 rfl rfl ?_
          refine X_iload_n dL_law_1464 rfl rfl ?_
          refine X_iconst (v := 1) dL_law_1465 iconst_1 ?_
          refine X_iadd dL_law_1466 ?_
          refine X_ialdX (v := 0) (f := sx.2) (n := sx.1) (by decide) rfl rfl dL_law_1467 h (fun h => ?_)
          refine X_aload_nX dL_law_1468 rfl rfl ?_
          refine X_iload_n dL_law_1469 rfl rfl ?_
          refine X_iconst (v := 2) dL_law_1470 iconst_2 ?_
          refine X_iadd dL_law_1471 ?_
          refine X_ialdX (v := 0) (f := sx.2) (n := sx.1) (by decide) rfl rfl dL_law_1472 h (fun h => ?_)
          refine X_callVlt [.int (sx.2 (Int32.toNatClampNeg (x1 + (1 : Int32)))), .int (sx.2 (Int32.toNatClampNeg (x1 + (2 : Int32))))] [] c_X11_element v_X11_element lk_L_173 dL_law_1473 g_0 rfl rfl rfl (by decide) (Nat.le_of_ble_eq_true rfl) rfl (s_X11_element sx (sx.2 (Int32.toNatClampNeg (x1 + (1 : Int32)))) (sx.2 (Int32.toNatClampNeg (x1 + (2 : Int32))))  σ2 _ h) (fun r157 σ156 h => ?_)
          refine X_aload_n dL_law_1476 rfl rfl ?_
          refine X_aload_nX dL_law_1477 rfl rfl ?_
          refine X_iload_n dL_law_1478 rfl rfl ?_
          refine X_iconst (v := 1) dL_law_1479 iconst_1 ?_
          refine X_iadd dL_law_1480 ?_
          refine X_ialdX (v := 0) (f := sx.2) (n := sx.1) (by decide) rfl rfl dL_law_1481 h (fun h => ?_)
          refine X_aload_nX dL_law_1482 rfl rfl ?_
          refine X_iload_n dL_law_1483 rfl rfl ?_
          refine X_iconst (v := 2) dL_law_1484 iconst_2 ?_
          refine X_iadd dL_law_1485 ?_
          refine X_ialdX (v := 0) (f := sx.2) (n := sx.1) (by decide) rfl rfl dL_law_1486 h (fun h => ?_)
          refine X_callVlt [.int (sx.2 (Int32.toNatClampNeg (x1 + (1 : Int32)))), .int (sx.2 (Int32.toNatClampNeg (x1 + (2 : Int32))))] [.long r157] c_X12_element v_X12_element lk_L_177 dL_law_1487 g_60 rfl rfl rfl (by decide) (Nat.le_of_ble_eq_true rfl) rfl (s_X12_element sx (sx.2 (Int32.toNatClampNeg (x1 + (1 : Int32)))) (sx.2 (Int32.toNatClampNeg (x1 + (2 : Int32))))  σ156 _ h) (fun r159 σ158 h => ?_)
          refine X_lcmp dL_law_1490 ?_
          refine X_if_eq (tgt := 1615) dL_law_1491 (by decide) h (fun h => ?_) (fun h => ?_)
          · exact j1615 _  h
          · refine X_iconst (v := 0) dL_law_1494 iconst_0 ?_
            exact X_retz rfl rfl dL_law_1495 h
        replace h := if_f h hc33_38
        by_cases hc33_39 : ((sx.2 (Int32.toNatClampNeg x1)) &&& (63 : Int32)) = (39 : Int32)
        · replace h := if_t h hc33_39
          refine X_tableIn (tgt := 1496) dL_law_33 (by rw [hc33_39] <;> decide) (by rw [hc33_39] <;> decide) (by rw [hc33_39] <;> rfl) (by decide) ?_
          refine X_aload_n dL_law_1496 rfl rfl ?_
          refine X_aload_nX dL_law_1497 rfl rfl ?_
          refine X_iload_n dL_law_1498 rfl rfl ?_
          refine X_iconst (v := 1) dL_law_1499 iconst_1 ?_
          refine X_iadd dL_law_1500 ?_
          refine X_ialdX (v := 0) (f := sx.2) (n := sx.1) (by decide) rfl rfl dL_law_1501 h (fun h => ?_)
          refine X_aload_nX dL_law_1502 rfl rfl ?_
          refine X_iload_n dL_law_1503 rfl rfl ?_
          refine X_iconst (v := 2) dL_law_1504 iconst_2 ?_
          refine X_iadd dL_law_1505 ?_
          refine X_ialdX (v := 0) (f := sx.2) (n := sx.1) (by decide) rfl rfl dL_law_1506 h (fun h => ?_)
          refine X_aload_nX dL_law_1507 rfl rfl ?_
          refine X_iload_n dL_law_1508 rfl rfl ?_
          refine X_iconst (v := 3) dL_law_1509 iconst_3 ?_
          refine X_iadd dL_law_1510 ?_
          refine X_ialdX (v := 0) (f := sx.2) (n := sx.1) (by decide) rfl rfl dL_law_1511 h (fun h => ?_)
          refine X_aload_nX dL_law_1512 rfl rfl ?_
          refine X_iload_n dL_law_1513 rfl rfl ?_
          refine X_iconst (v := 4) dL_law_1514 iconst_4 ?_
          refine X_iadd dL_law_1515 ?_
          refine X_ialdX (v := 0) (f := sx.2) (n := sx.1) (by decide) rfl rfl dL_law_1516 h (fun h => ?_)
          refine X_aload_nX dL_law_1517 rfl rfl ?_
          refine X_iload_n dL_law_1518 rfl rfl ?_
          refine X_iconst (v := 5) dL_law_1519 iconst_5 ?_
          refine X_iadd dL_law_1520 ?_
          refine X_ialdX (v := 0) (f := sx.2) (n := sx.1) (by decide) rfl rfl dL_law_1521 h (fun h => ?_)
          refine X_callVit [.int (sx.2 (Int32.toNatClampNeg (x1 + (1 : Int32)))), .int (sx.2 (Int32.toNatClampNeg (x1 + (2 : Int32)))), .int (sx.2 (Int32.toNatClampNeg (x1 + (3 : Int32)))), .int (sx.2 (Int32.toNatClampNeg (x1 + (4 : Int32)))), .int (sx.2 (Int32.toNatClampNeg (x1 + (5 : Int32))))] [] c_X11_shift v_X11_shift lk_L_178 dL_law_1522 g_0 rfl rfl rfl (by decide) (Nat.le_of_ble_eq_true rfl) rfl (s_X11_shift sx (sx.2 (Int32.toNatClampNeg (x1 + (1 : Int32)))) (sx.2 (Int32.toNatClampNeg (x1 + (2 : Int32)))) (sx.2 (Int32.toNatClampNeg (x1 + (3 : Int32)))) (sx.2 (Int32.toNatClampNeg (x1 + (4 : Int32)))) (sx.2 (Int32.toNatClampNeg (x1 + (5 : Int32))))  σ2 _ h) (fun r161 σ160 h => ?_)
          refine X_aload_n dL_law_1525 rfl rfl ?_
          refine X_aload_nX dL_law_1526 rfl rfl ?_
          refine X_iload_n dL_law_1527 rfl rfl ?_
          refine X_iconst (v := 1) dL_law_1528 iconst_1 ?_
          refine X_iadd dL_law_1529 ?_
          refine X_ialdX (v := 0) (f := sx.2) (n := sx.1) (by decide) rfl rfl dL_law_1530 h (fun h => ?_)
          refine X_aload_nX dL_law_1531 rfl rfl ?_
          refine X_iload_n dL_law_1532 rfl rfl ?_
          refine X_iconst (v := 2) dL_law_1533 iconst_2 ?_
          refine X_iadd dL_law_1534 ?_
          refine X_ialdX (v := 0) (f := sx.2) (n := sx.1) (by decide) rfl rfl dL_law_1535 h (fun h => ?_)
          refine X_aload_nX dL_law_1536 rfl rfl ?_
          refine X_iload_n dL_law_1537 rfl rfl ?_
          refine X_iconst (v := 3) dL_law_1538 iconst_3 ?_
          refine X_iadd dL_law_1539 ?_
          refine X_ialdX (v := 0) (f := sx.2) (n := sx.1) (by decide) rfl rfl dL_law_1540 h (fun h => ?_)
          refine X_aload_nX dL_law_1541 rfl rfl ?_
          refine X_iload_n dL_law_1542 rfl rfl ?_
          refine X_iconst (v := 4) dL_law_1543 iconst_4 ?_
          refine X_iadd dL_law_1544 ?_
          refine X_ialdX (v := 0) (f := sx.2) (n := sx.1) (by decide) rfl rfl dL_law_1545 h (fun h => ?_)
          refine X_aload_nX dL_law_1546 rfl rfl ?_
          refine X_iload_n dL_law_1547 rfl rfl ?_
          refine X_iconst (v := 5) dL_law_1548 iconst_5 ?_
          refine X_iadd dL_law_1549 ?_
          refine X_ialdX (v := 0) (f := sx.2) (n := sx.1) (by decide) rfl rfl dL_law_1550 h (fun h => ?_)
          refine X_callVit [.int (sx.2 (Int32.toNatClampNeg (x1 + (1 : Int32)))), .int (sx.2 (Int32.toNatClampNeg (x1 + (2 : Int32)))), .int (sx.2 (Int32.toNatClampNeg (x1 + (3 : Int32)))), .int (sx.2 (Int32.toNatClampNeg (x1 + (4 : Int32)))), .int (sx.2 (Int32.toNatClampNeg (x1 + (5 : Int32))))] [.int r161] c_X12_shift v_X12_shift lk_L_182 dL_law_1551 g_60 rfl rfl rfl (by decide) (Nat.le_of_ble_eq_true rfl) rfl (s_X12_shift sx (sx.2 (Int32.toNatClampNeg (x1 + (1 : Int32)))) (sx.2 (Int32.toNatClampNeg (x1 + (2 : Int32)))) (sx.2 (Int32.toNatClampNeg (x1 + (3 : Int32)))) (sx.2 (Int32.toNatClampNeg (x1 + (4 : Int32)))) (sx.2 (Int32.toNatClampNeg (x1 + (5 : Int32))))  σ160 _ h) (fun r163 σ162 h => ?_)
          refine X_icmp_eq (tgt := 1615) dL_law_1554 (by decide) h (fun h => ?_) (fun h => ?_)
          · exact j1615 _  h
          · refine X_iconst (v := 0) dL_law_1557 iconst_0 ?_
            exact X_retz rfl rfl dL_law_1558 h
        replace h := if_f h hc33_39
        by_cases hc33_40 : ((sx.2 (Int32.toNatClampNeg x1)) &&& (63 : Int32)) = (40 : Int32)
        · replace h := if_t h hc33_40
          refine X_tableIn (tgt := 1559) dL_law_33 (by rw [hc33_40] <;> decide) (by rw [hc33_40] <;> decide) (by rw [hc33_40] <;> rfl) (by decide) ?_
          refine X_aload_n dL_law_1559 rfl rfl ?_
          refine X_aload_nX dL_law_1560 rfl rfl ?_
          refine X_iload_n dL_law_1561 rfl rfl ?_
          refine X_iconst (v := 1) dL_law_1562 iconst_1 ?_
          refine X_iadd dL_law_1563 ?_
          refine X_ialdX (v := 0) (f := sx.2) (n := sx.1) (by decide) rfl rfl dL_law_1564 h (fun h => ?_)
          refine X_aload_nX dL_law_1565 rfl rfl ?_
          refine X_iload_n dL_law_1566 rfl rfl ?_
          refine X_iconst (v := 2) dL_law_1567 iconst_2 ?_
          refine X_iadd dL_law_1568 ?_
          refine X_ialdX (v := 0) (f := sx.2) (n := sx.1) (by decide) rfl rfl dL_law_1569 h (fun h => ?_)
          refine X_callVit [.int (sx.2 (Int32.toNatClampNeg (x1 + (1 : Int32)))), .int (sx.2 (Int32.toNatClampNeg (x1 + (2 : Int32))))] [] c_X11_taken v_X11_taken lk_L_183 dL_law_1570 g_0 rfl rfl rfl (by decide) (Nat.le_of_ble_eq_true rfl) rfl (s_X11_taken sx (sx.2 (Int32.toNatClampNeg (x1 + (1 : Int32)))) (sx.2 (Int32.toNatClampNeg (x1 + (2 : Int32))))  σ2 _ h) (fun r165 σ164 h => ?_)
          refine X_aload_n dL_law_1573 rfl rfl ?_
          refine X_aload_nX dL_law_1574 rfl rfl ?_
          refine X_iload_n dL_law_1575 rfl rfl ?_
          refine X_iconst (v := 1) dL_law_1576 iconst_1 ?_
          refine X_iadd dL_law_1577 ?_
          refine X_ialdX (v := 0) (f := sx.2) (n := sx.1) (by decide) rfl rfl dL_law_1578 h (fun h => ?_)
          refine X_aload_nX dL_law_1579 rfl rfl ?_
          refine X_iload_n dL_law_1580 rfl rfl ?_
          refine X_iconst (v := 2) dL_law_1581 iconst_2 ?_
          refine X_iadd dL_law_1582 ?_
          refine X_ialdX (v := 0) (f := sx.2) (n := sx.1) (by decide) rfl rfl dL_law_1583 h (fun h => ?_)
          refine X_callVit [.int (sx.2 (Int32.toNatClampNeg (x1 + (1 : Int32)))), .int (sx.2 (Int32.toNatClampNeg (x1 + (2 : Int32))))] [.int r165] c_X12_taken v_X12_taken lk_L_186 dL_law_1584 g_60 rfl rfl rfl (by decide) (Nat.le_of_ble_eq_true rfl) rfl (s_X12_taken sx (sx.2 (Int32.toNatClampNeg (x1 + (1 : Int32)))) (sx.2 (Int32.toNatClampNeg (x1 + (2 : Int32))))  σ164 _ h) (fun r167 σ166 h => ?_)
          refine X_icmp_eq (tgt := 1615) dL_law_1587 (by decide) h (fun h => ?_) (fun h => ?_)
          · exact j1615 _  h
          · refine X_iconst (v := 0) dL_law_1590 iconst_0 ?_
            exact X_retz rfl rfl dL_law_1591 h
        replace h := if_f h hc33_40
        by_cases hc33_41 : ((sx.2 (Int32.toNatClampNeg x1)) &&& (63 : Int32)) = (41 : Int32)
        · replace h := if_t h hc33_41
          refine X_tableIn (tgt := 1592) dL_law_33 (by rw [hc33_41] <;> decide) (by rw [hc33_41] <;> decide) (by rw [hc33_41] <;> rfl) (by decide) ?_
          refine X_aload_n dL_law_1592 rfl rfl ?_
          refine X_aload_nX dL_law_1593 rfl rfl ?_
          refine X_iload_n dL_law_1594 rfl rfl ?_
          refine X_iconst (v := 1) dL_law_1595 iconst_1 ?_
          refine X_iadd dL_law_1596 ?_
          refine X_ialdX (v := 0) (f := sx.2) (n := sx.1) (by decide) rfl rfl dL_law_1597 h (fun h => ?_)
          refine X_callVit [.int (sx.2 (Int32.toNatClampNeg (x1 + (1 : Int32))))] [] c_X11_count v_X11_count lk_L_187 dL_law_1598 g_0 rfl rfl rfl (by decide) (Nat.le_of_ble_eq_true rfl) rfl (s_X11_count sx (sx.2 (Int32.toNatClampNeg (x1 + (1 : Int32))))  σ2 _ h) (fun r169 σ168 h => ?_)
          refine X_aload_n dL_law_1601 rfl rfl ?_
          refine X_aload_nX dL_law_1602 rfl rfl ?_
          refine X_iload_n dL_law_1603 rfl rfl ?_
          refine X_iconst (v := 1) dL_law_1604 iconst_1 ?_
          refine X_iadd dL_law_1605 ?_
          refine X_ialdX (v := 0) (f := sx.2) (n := sx.1) (by decide) rfl rfl dL_law_1606 h (fun h => ?_)
          refine X_callVit [.int (sx.2 (Int32.toNatClampNeg (x1 + (1 : Int32))))] [.int r169] c_X12_count v_X12_count lk_L_190 dL_law_1607 g_60 rfl rfl rfl (by decide) (Nat.le_of_ble_eq_true rfl) rfl (s_X12_count sx (sx.2 (Int32.toNatClampNeg (x1 + (1 : Int32))))  σ168 _ h) (fun r171 σ170 h => ?_)
          refine X_icmp_eq (tgt := 1615) dL_law_1610 (by decide) h (fun h => ?_) (fun h => ?_)
          · exact j1615 _  h
          · refine X_iconst (v := 0) dL_law_1613 iconst_0 ?_
            exact X_retz rfl rfl dL_law_1614 h
        replace h := if_f h hc33_41
        refine X_tableOut (tgt := 1615) dL_law_33 (tbl_out (fun j h1 h2 e => ?_)) (by decide) ?_
        · rcases (show j = 0 ∨ j = 1 ∨ j = 2 ∨ j = 3 ∨ j = 4 ∨ j = 5 ∨ j = 6 ∨ j = 7 ∨ j = 8 ∨ j = 9 ∨ j = 10 ∨ j = 11 ∨ j = 12 ∨ j = 13 ∨ j = 14 ∨ j = 15 ∨ j = 16 ∨ j = 17 ∨ j = 18 ∨ j = 19 ∨ j = 20 ∨ j = 21 ∨ j = 22 ∨ j = 23 ∨ j = 24 ∨ j = 25 ∨ j = 26 ∨ j = 27 ∨ j = 28 ∨ j = 29 ∨ j = 30 ∨ j = 31 ∨ j = 32 ∨ j = 33 ∨ j = 34 ∨ j = 35 ∨ j = 36 ∨ j = 37 ∨ j = 38 ∨ j = 39 ∨ j = 40 ∨ j = 41 by omega) with rfl | rfl | rfl | rfl | rfl | rfl | rfl | rfl | rfl | rfl | rfl | rfl | rfl | rfl | rfl | rfl | rfl | rfl | rfl | rfl | rfl | rfl | rfl | rfl | rfl | rfl | rfl | rfl | rfl | rfl | rfl | rfl | rfl | rfl | rfl | rfl | rfl | rfl | rfl | rfl | rfl | rfl
          · exact ne_toInt hc33_0 e
          · exact ne_toInt hc33_1 e
          · exact ne_toInt hc33_2 e
          · exact ne_toInt hc33_3 e
          · exact ne_toInt hc33_4 e
          · exact ne_toInt hc33_5 e
          · exact ne_toInt hc33_6 e
          · exact ne_toInt hc33_7 e
          · exact ne_toInt hc33_8 e
          · exact ne_toInt hc33_9 e
          · exact ne_toInt hc33_10 e
          · exact ne_toInt hc33_11 e
          · exact ne_toInt hc33_12 e
          · exact ne_toInt hc33_13 e
          · exact ne_toInt hc33_14 e
          · exact ne_toInt hc33_15 e
          · exact ne_toInt hc33_16 e
          · exact ne_toInt hc33_17 e
          · exact ne_toInt hc33_18 e
          · exact ne_toInt hc33_19 e
          · exact ne_toInt hc33_20 e
          · exact ne_toInt hc33_21 e
          · exact ne_toInt hc33_22 e
          · exact ne_toInt hc33_23 e
          · exact ne_toInt hc33_24 e
          · exact ne_toInt hc33_25 e
          · exact ne_toInt hc33_26 e
          · exact ne_toInt hc33_27 e
          · exact ne_toInt hc33_28 e
          · exact ne_toInt hc33_29 e
          · exact ne_toInt hc33_30 e
          · exact ne_toInt hc33_31 e
          · exact ne_toInt hc33_32 e
          · exact ne_toInt hc33_33 e
          · exact ne_toInt hc33_34 e
          · exact ne_toInt hc33_35 e
          · exact ne_toInt hc33_36 e
          · exact ne_toInt hc33_37 e
          · exact ne_toInt hc33_38 e
          · exact ne_toInt hc33_39 e
          · exact ne_toInt hc33_40 e
          · exact ne_toInt hc33_41 e
        exact j1615 _  h
  exact key18 _ _ _  h
