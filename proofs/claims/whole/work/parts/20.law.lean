section LAWROWS
variable {p : Program} {l : Launch} {e : Env} {R : Room} {s : State} {m : MethodId} {args : Array Value} {below : List Frame} {meth : Method} {c : Code} {cc : ByteArray} {own : String} {nL : Nat} {D : va_G} {ad : Nat → Nat} {ca : Nat → ClassId} {kz : Nat → Nat} {cs sl : Nat} {Q : State → Prop} {σ : PS} {pc : Nat} {lv : List (Nat × Value)} {rest : List Value}
theorem q_sld (C : pC p s m args c cc own nL D ad ca kz) {b Ln : Nat} {xs : Nat → Int32} (hX : va_X b Ln xs s s.heap) (hbl : b < s.heap.size) (hbA : ¬ pAD ad b) {j : Int32} (hin : vp_in j Ln) (hdg : decode cc pc = .ok (.iaload, 1)) (kk : PW p l e R s m args below meth c nL D ad ca cs sl Q σ (pc + 1) lv (.int (xs j.toNatClampNeg) :: rest)) : PW p l e R s m args below meth c nL D ad ca cs sl Q σ pc lv (.int j :: .ref b :: rest) := fun H locs ls hP hS hl => va_sld C.1 C.2.1 hX hbl hbA hS hin hdg (kk H locs ls hP hS hl)
theorem q_slen (C : pC p s m args c cc own nL D ad ca kz) {b Ln : Nat} {xs : Nat → Int32} (hX : va_X b Ln xs s s.heap) (hbl : b < s.heap.size) (hbA : ¬ pAD ad b) (hdg : decode cc pc = .ok (.arraylength, 1)) (kk : PW p l e R s m args below meth c nL D ad ca cs sl Q σ (pc + 1) lv (.int (Int32.ofNat Ln) :: rest)) : PW p l e R s m args below meth c nL D ad ca cs sl Q σ pc lv (.ref b :: rest) := fun H locs ls hP hS hl => va_slen C.1 C.2.1 hX hbl hbA hS hdg (kk H locs ls hP hS hl)
end LAWROWS
def LL (n : Nat) (xs : Nat → Int32) (Ln : Nat) : Nat → Int32 → PS → Option PS
  | 0, _, _ => none
  | k + 1, x3, σ => (if ((Int32.ofNat Ln) - (6 : Int32)) < x3 then some σ else (if 0 ≤ x3 ∧ x3.toNatClampNeg < Ln then (if ((xs (x3.toNatClampNeg)) &&& (63 : Int32)) = (0 : Int32) then (if 0 ≤ (x3 + (1 : Int32)) ∧ (x3 + (1 : Int32)).toNatClampNeg < Ln then (if 0 ≤ (x3 + (2 : Int32)) ∧ (x3 + (2 : Int32)).toNatClampNeg < Ln then (if 0 ≤ (x3 + (3 : Int32)) ∧ (x3 + (3 : Int32)).toNatClampNeg < Ln then (if 0 ≤ (x3 + (4 : Int32)) ∧ (x3 + (4 : Int32)).toNatClampNeg < Ln then (if 0 ≤ (x3 + (5 : Int32)) ∧ (x3 + (5 : Int32)).toNatClampNeg < Ln then (F_X11_feed n (xs ((x3 + (1 : Int32)).toNatClampNeg)) (xs ((x3 + (2 : Int32)).toNatClampNeg)) (xs ((x3 + (3 : Int32)).toNatClampNeg)) (xs ((x3 + (4 : Int32)).toNatClampNeg)) (xs ((x3 + (5 : Int32)).toNatClampNeg)) σ).bind (fun q9 => (F_X12_feed n (xs ((x3 + (1 : Int32)).toNatClampNeg)) (xs ((x3 + (2 : Int32)).toNatClampNeg)) (xs ((x3 + (3 : Int32)).toNatClampNeg)) (xs ((x3 + (4 : Int32)).toNatClampNeg)) (xs ((x3 + (5 : Int32)).toNatClampNeg)) q9.2).bind (fun q11 => (if q9.1 = q11.1 then LL n xs Ln k (x3 + 6) q11.2 else none))) else none) else none) else none) else none) else none) else (if ((xs (x3.toNatClampNeg)) &&& (63 : Int32)) = (1 : Int32) then (if 0 ≤ (x3 + (1 : Int32)) ∧ (x3 + (1 : Int32)).toNatClampNeg < Ln then (F_X11_end n (xs ((x3 + (1 : Int32)).toNatClampNeg)) σ).bind (fun q16 => (F_X12_end n (xs ((x3 + (1 : Int32)).toNatClampNeg)) q16.2).bind (fun q18 => (if q16.1 = q18.1 then LL n xs Ln k (x3 + 6) q18.2 else none))) else none) else (if ((xs (x3.toNatClampNeg)) &&& (63 : Int32)) = (2 : Int32) then (F_X11_camp n σ).bind (fun q22 => (F_X12_camp n q22.2).bind (fun q24 => (if q22.1 = q24.1 then LL n xs Ln k (x3 + 6) q24.2 else none))) else (if ((xs (x3.toNatClampNeg)) &&& (63 : Int32)) = (3 : Int32) then (F_X11_rule n σ).bind (fun q28 => (F_X12_rule n q28.2).bind (fun q30 => (if q28.1 = q30.1 then LL n xs Ln k (x3 + 6) q30.2 else none))) else (if ((xs (x3.toNatClampNeg)) &&& (63 : Int32)) = (4 : Int32) then (if 0 ≤ (x3 + (1 : Int32)) ∧ (x3 + (1 : Int32)).toNatClampNeg < Ln then (F_X11_force n (xs ((x3 + (1 : Int32)).toNatClampNeg)) σ).bind (fun q35 => (F_X12_force n (xs ((x3 + (1 : Int32)).toNatClampNeg)) q35.2).bind (fun q37 => (if q35.1 = q37.1 then LL n xs Ln k (x3 + 6) q37.2 else none))) else none) else (if ((xs (x3.toNatClampNeg)) &&& (63 : Int32)) = (5 : Int32) then (if 0 ≤ (x3 + (1 : Int32)) ∧ (x3 + (1 : Int32)).toNatClampNeg < Ln then (if 0 ≤ (x3 + (2 : Int32)) ∧ (x3 + (2 : Int32)).toNatClampNeg < Ln then (F_X11_tent n (xs ((x3 + (1 : Int32)).toNatClampNeg)) (xs ((x3 + (2 : Int32)).toNatClampNeg)) σ).bind (fun q43 => (F_X12_tent n (xs ((x3 + (1 : Int32)).toNatClampNeg)) (xs ((x3 + (2 : Int32)).toNatClampNeg)) q43.2).bind (fun q45 => (if q43.1 = q45.1 then LL n xs Ln k (x3 + 6) q45.2 else none))) else none) else none) else (if ((xs (x3.toNatClampNeg)) &&& (63 : Int32)) = (6 : Int32) then (if 0 ≤ (x3 + (1 : Int32)) ∧ (x3 + (1 : Int32)).toNatClampNeg < Ln then (if 0 ≤ (x3 + (2 : Int32)) ∧ (x3 + (2 : Int32)).toNatClampNeg < Ln then (F_X11_cell n (xs ((x3 + (1 : Int32)).toNatClampNeg)) (xs ((x3 + (2 : Int32)).toNatClampNeg)) σ).bind (fun q51 => (F_X12_cell n (xs ((x3 + (1 : Int32)).toNatClampNeg)) (xs ((x3 + (2 : Int32)).toNatClampNeg)) q51.2).bind (fun q53 => (if q51.1 = q53.1 then LL n xs Ln k (x3 + 6) q53.2 else none))) else none) else none) else (if ((xs (x3.toNatClampNeg)) &&& (63 : Int32)) = (7 : Int32) then (F_X11_step n σ).bind (fun q57 => (F_X12_step n q57.2).bind (fun q59 => (if q57.1 = q59.1 then LL n xs Ln k (x3 + 6) q59.2 else none))) else (if ((xs (x3.toNatClampNeg)) &&& (63 : Int32)) = (8 : Int32) then (if 0 ≤ (x3 + (1 : Int32)) ∧ (x3 + (1 : Int32)).toNatClampNeg < Ln then (F_X11_whistle n (xs ((x3 + (1 : Int32)).toNatClampNeg)) σ).bind (fun q64 => (F_X12_whistle n (xs ((x3 + (1 : Int32)).toNatClampNeg)) q64.2).bind (fun q66 => (if q64.1 = q66.1 then LL n xs Ln k (x3 + 6) q66.2 else none))) else none) else (if ((xs (x3.toNatClampNeg)) &&& (63 : Int32)) = (9 : Int32) then (if 0 ≤ (x3 + (1 : Int32)) ∧ (x3 + (1 : Int32)).toNatClampNeg < Ln then (if 0 ≤ (x3 + (2 : Int32)) ∧ (x3 + (2 : Int32)).toNatClampNeg < Ln then (F_X11_pitch n (xs ((x3 + (1 : Int32)).toNatClampNeg)) (xs ((x3 + (2 : Int32)).toNatClampNeg)) σ).bind (fun q72 => (F_X12_pitch n (xs ((x3 + (1 : Int32)).toNatClampNeg)) (xs ((x3 + (2 : Int32)).toNatClampNeg)) q72.2).bind (fun q74 => (if q72.1 = q74.1 then LL n xs Ln k (x3 + 6) q74.2 else none))) else none) else none) else (if ((xs (x3.toNatClampNeg)) &&& (63 : Int32)) = (10 : Int32) then (if 0 ≤ (x3 + (1 : Int32)) ∧ (x3 + (1 : Int32)).toNatClampNeg < Ln then (if 0 ≤ (x3 + (2 : Int32)) ∧ (x3 + (2 : Int32)).toNatClampNeg < Ln then (F_X11_steady n (xs ((x3 + (1 : Int32)).toNatClampNeg)) (xs ((x3 + (2 : Int32)).toNatClampNeg)) σ).bind (fun q80 => (F_X12_steady n (xs ((x3 + (1 : Int32)).toNatClampNeg)) (xs ((x3 + (2 : Int32)).toNatClampNeg)) q80.2).bind (fun q82 => (if q80.1 = q82.1 then LL n xs Ln k (x3 + 6) q82.2 else none))) else none) else none) else (if ((xs (x3.toNatClampNeg)) &&& (63 : Int32)) = (11 : Int32) then (if 0 ≤ (x3 + (1 : Int32)) ∧ (x3 + (1 : Int32)).toNatClampNeg < Ln then (F_X11_bush n (xs ((x3 + (1 : Int32)).toNatClampNeg)) σ).bind (fun q87 => (F_X12_bush n (xs ((x3 + (1 : Int32)).toNatClampNeg)) q87.2).bind (fun q89 => (if q87.1 = q89.1 then LL n xs Ln k (x3 + 6) q89.2 else none))) else none) else (if ((xs (x3.toNatClampNeg)) &&& (63 : Int32)) = (12 : Int32) then (F_X11_undo n σ).bind (fun q93 => (F_X12_undo n q93.2).bind (fun q95 => (if q93.1 = q95.1 then LL n xs Ln k (x3 + 6) q95.2 else none))) else (if ((xs (x3.toNatClampNeg)) &&& (63 : Int32)) = (13 : Int32) then (if 0 ≤ (x3 + (1 : Int32)) ∧ (x3 + (1 : Int32)).toNatClampNeg < Ln then (if 0 ≤ (x3 + (2 : Int32)) ∧ (x3 + (2 : Int32)).toNatClampNeg < Ln then (if 0 ≤ (x3 + (3 : Int32)) ∧ (x3 + (3 : Int32)).toNatClampNeg < Ln then (F_X11_ahead n (xs ((x3 + (1 : Int32)).toNatClampNeg)) (xs ((x3 + (2 : Int32)).toNatClampNeg)) (xs ((x3 + (3 : Int32)).toNatClampNeg)) σ).bind (fun q102 => (F_X12_ahead n (xs ((x3 + (1 : Int32)).toNatClampNeg)) (xs ((x3 + (2 : Int32)).toNatClampNeg)) (xs ((x3 + (3 : Int32)).toNatClampNeg)) q102.2).bind (fun q104 => (if q102.1 = q104.1 then LL n xs Ln k (x3 + 6) q104.2 else none))) else none) else none) else none) else (if ((xs (x3.toNatClampNeg)) &&& (63 : Int32)) = (14 : Int32) then (if 0 ≤ (x3 + (1 : Int32)) ∧ (x3 + (1 : Int32)).toNatClampNeg < Ln then (F_X11_first n (xs ((x3 + (1 : Int32)).toNatClampNeg)) σ).bind (fun q109 => (F_X12_first n (xs ((x3 + (1 : Int32)).toNatClampNeg)) q109.2).bind (fun q111 => (if q109.1 = q111.1 then LL n xs Ln k (x3 + 6) q111.2 else none))) else none) else (if ((xs (x3.toNatClampNeg)) &&& (63 : Int32)) = (15 : Int32) then (if 0 ≤ (x3 + (1 : Int32)) ∧ (x3 + (1 : Int32)).toNatClampNeg < Ln then (F_X11_way n (xs ((x3 + (1 : Int32)).toNatClampNeg)) σ).bind (fun q116 => (F_X12_way n (xs ((x3 + (1 : Int32)).toNatClampNeg)) q116.2).bind (fun q118 => (if q116.1 = q118.1 then LL n xs Ln k (x3 + 6) q118.2 else none))) else none) else (if ((xs (x3.toNatClampNeg)) &&& (63 : Int32)) = (16 : Int32) then (if 0 ≤ (x3 + (1 : Int32)) ∧ (x3 + (1 : Int32)).toNatClampNeg < Ln then (F_X11_reach n (xs ((x3 + (1 : Int32)).toNatClampNeg)) σ).bind (fun q123 => (F_X12_reach n (xs ((x3 + (1 : Int32)).toNatClampNeg)) q123.2).bind (fun q125 => (if q123.1 = q125.1 then LL n xs Ln k (x3 + 6) q125.2 else none))) else none) else (if ((xs (x3.toNatClampNeg)) &&& (63 : Int32)) = (17 : Int32) then (if 0 ≤ (x3 + (1 : Int32)) ∧ (x3 + (1 : Int32)).toNatClampNeg < Ln then (F_X11_knowsAll n (xs ((x3 + (1 : Int32)).toNatClampNeg)) σ).bind (fun q130 => (F_X12_knowsAll n (xs ((x3 + (1 : Int32)).toNatClampNeg)) q130.2).bind (fun q132 => (if q130.1 = q132.1 then LL n xs Ln k (x3 + 6) q132.2 else none))) else none) else (if ((xs (x3.toNatClampNeg)) &&& (63 : Int32)) = (18 : Int32) then (if 0 ≤ (x3 + (1 : Int32)) ∧ (x3 + (1 : Int32)).toNatClampNeg < Ln then (if 0 ≤ (x3 + (2 : Int32)) ∧ (x3 + (2 : Int32)).toNatClampNeg < Ln then (F_X11_most n (xs ((x3 + (1 : Int32)).toNatClampNeg)) (xs ((x3 + (2 : Int32)).toNatClampNeg)) σ).bind (fun q138 => (F_X12_most n (xs ((x3 + (1 : Int32)).toNatClampNeg)) (xs ((x3 + (2 : Int32)).toNatClampNeg)) q138.2).bind (fun q140 => (if q138.1 = q140.1 then LL n xs Ln k (x3 + 6) q140.2 else none))) else none) else none) else (if ((xs (x3.toNatClampNeg)) &&& (63 : Int32)) = (19 : Int32) then (if 0 ≤ (x3 + (1 : Int32)) ∧ (x3 + (1 : Int32)).toNatClampNeg < Ln then (if 0 ≤ (x3 + (2 : Int32)) ∧ (x3 + (2 : Int32)).toNatClampNeg < Ln then (F_X11_cut n (xs ((x3 + (1 : Int32)).toNatClampNeg)) (xs ((x3 + (2 : Int32)).toNatClampNeg)) σ).bind (fun q146 => (F_X12_cut n (xs ((x3 + (1 : Int32)).toNatClampNeg)) (xs ((x3 + (2 : Int32)).toNatClampNeg)) q146.2).bind (fun q148 => (if q146.1 = q148.1 then LL n xs Ln k (x3 + 6) q148.2 else none))) else none) else none) else (if ((xs (x3.toNatClampNeg)) &&& (63 : Int32)) = (20 : Int32) then (if 0 ≤ (x3 + (1 : Int32)) ∧ (x3 + (1 : Int32)).toNatClampNeg < Ln then (if 0 ≤ (x3 + (2 : Int32)) ∧ (x3 + (2 : Int32)).toNatClampNeg < Ln then (if 0 ≤ (x3 + (3 : Int32)) ∧ (x3 + (3 : Int32)).toNatClampNeg < Ln then (F_X11_hide n (xs ((x3 + (1 : Int32)).toNatClampNeg)) (xs ((x3 + (2 : Int32)).toNatClampNeg)) (xs ((x3 + (3 : Int32)).toNatClampNeg)) σ).bind (fun q155 => (F_X12_hide n (xs ((x3 + (1 : Int32)).toNatClampNeg)) (xs ((x3 + (2 : Int32)).toNatClampNeg)) (xs ((x3 + (3 : Int32)).toNatClampNeg)) q155.2).bind (fun q157 => (if q155.1 = q157.1 then LL n xs Ln k (x3 + 6) q157.2 else none))) else none) else none) else none) else (if ((xs (x3.toNatClampNeg)) &&& (63 : Int32)) = (21 : Int32) then (if 0 ≤ (x3 + (1 : Int32)) ∧ (x3 + (1 : Int32)).toNatClampNeg < Ln then (if 0 ≤ (x3 + (2 : Int32)) ∧ (x3 + (2 : Int32)).toNatClampNeg < Ln then (F_X11_wake n (xs ((x3 + (1 : Int32)).toNatClampNeg)) (xs ((x3 + (2 : Int32)).toNatClampNeg)) σ).bind (fun q163 => (F_X12_wake n (xs ((x3 + (1 : Int32)).toNatClampNeg)) (xs ((x3 + (2 : Int32)).toNatClampNeg)) q163.2).bind (fun q165 => (if q163.1 = q165.1 then LL n xs Ln k (x3 + 6) q165.2 else none))) else none) else none) else (if ((xs (x3.toNatClampNeg)) &&& (63 : Int32)) = (22 : Int32) then (if 0 ≤ (x3 + (1 : Int32)) ∧ (x3 + (1 : Int32)).toNatClampNeg < Ln then (if 0 ≤ (x3 + (2 : Int32)) ∧ (x3 + (2 : Int32)).toNatClampNeg < Ln then (F_X11_pence n (xs ((x3 + (1 : Int32)).toNatClampNeg)) (xs ((x3 + (2 : Int32)).toNatClampNeg)) σ).bind (fun q171 => (F_X12_pence n (xs ((x3 + (1 : Int32)).toNatClampNeg)) (xs ((x3 + (2 : Int32)).toNatClampNeg)) q171.2).bind (fun q173 => (if q171.1 = q173.1 then LL n xs Ln k (x3 + 6) q173.2 else none))) else none) else none) else (if ((xs (x3.toNatClampNeg)) &&& (63 : Int32)) = (23 : Int32) then (if 0 ≤ (x3 + (1 : Int32)) ∧ (x3 + (1 : Int32)).toNatClampNeg < Ln then (if 0 ≤ (x3 + (2 : Int32)) ∧ (x3 + (2 : Int32)).toNatClampNeg < Ln then (if 0 ≤ (x3 + (3 : Int32)) ∧ (x3 + (3 : Int32)).toNatClampNeg < Ln then (F_X11_game n (xs ((x3 + (1 : Int32)).toNatClampNeg)) (xs ((x3 + (2 : Int32)).toNatClampNeg)) (xs ((x3 + (3 : Int32)).toNatClampNeg)) σ).bind (fun q180 => (F_X12_game n (xs ((x3 + (1 : Int32)).toNatClampNeg)) (xs ((x3 + (2 : Int32)).toNatClampNeg)) (xs ((x3 + (3 : Int32)).toNatClampNeg)) q180.2).bind (fun q182 => (if q180.1 = q182.1 then LL n xs Ln k (x3 + 6) q182.2 else none))) else none) else none) else none) else (if ((xs (x3.toNatClampNeg)) &&& (63 : Int32)) = (24 : Int32) then (if 0 ≤ (x3 + (1 : Int32)) ∧ (x3 + (1 : Int32)).toNatClampNeg < Ln then (F_X11_ring n (xs ((x3 + (1 : Int32)).toNatClampNeg)) σ).bind (fun q187 => (F_X12_ring n (xs ((x3 + (1 : Int32)).toNatClampNeg)) q187.2).bind (fun q189 => (if q187.1 = q189.1 then LL n xs Ln k (x3 + 6) q189.2 else none))) else none) else (if ((xs (x3.toNatClampNeg)) &&& (63 : Int32)) = (25 : Int32) then (if 0 ≤ (x3 + (1 : Int32)) ∧ (x3 + (1 : Int32)).toNatClampNeg < Ln then (if 0 ≤ (x3 + (2 : Int32)) ∧ (x3 + (2 : Int32)).toNatClampNeg < Ln then (F_X11_note n (xs ((x3 + (1 : Int32)).toNatClampNeg)) (xs ((x3 + (2 : Int32)).toNatClampNeg)) σ).bind (fun q195 => (F_X12_note n (xs ((x3 + (1 : Int32)).toNatClampNeg)) (xs ((x3 + (2 : Int32)).toNatClampNeg)) q195.2).bind (fun q197 => (if q195.1 = q197.1 then LL n xs Ln k (x3 + 6) q197.2 else none))) else none) else none) else (if ((xs (x3.toNatClampNeg)) &&& (63 : Int32)) = (26 : Int32) then (if 0 ≤ (x3 + (1 : Int32)) ∧ (x3 + (1 : Int32)).toNatClampNeg < Ln then (F_X11_ruled n (xs ((x3 + (1 : Int32)).toNatClampNeg)) σ).bind (fun q202 => (F_X12_ruled n (xs ((x3 + (1 : Int32)).toNatClampNeg)) q202.2).bind (fun q204 => (if q202.1 = q204.1 then LL n xs Ln k (x3 + 6) q204.2 else none))) else none) else (if ((xs (x3.toNatClampNeg)) &&& (63 : Int32)) = (27 : Int32) then (if 0 ≤ (x3 + (1 : Int32)) ∧ (x3 + (1 : Int32)).toNatClampNeg < Ln then (F_X11_look n (xs ((x3 + (1 : Int32)).toNatClampNeg)) σ).bind (fun q209 => (F_X12_look n (xs ((x3 + (1 : Int32)).toNatClampNeg)) q209.2).bind (fun q211 => (if q209.1 = q211.1 then LL n xs Ln k (x3 + 6) q211.2 else none))) else none) else (if ((xs (x3.toNatClampNeg)) &&& (63 : Int32)) = (28 : Int32) then (if 0 ≤ (x3 + (1 : Int32)) ∧ (x3 + (1 : Int32)).toNatClampNeg < Ln then (F_X11_seed n (xs ((x3 + (1 : Int32)).toNatClampNeg)) σ).bind (fun q216 => (F_X12_seed n (xs ((x3 + (1 : Int32)).toNatClampNeg)) q216.2).bind (fun q218 => (if q216.1 = q218.1 then LL n xs Ln k (x3 + 6) q218.2 else none))) else none) else (if ((xs (x3.toNatClampNeg)) &&& (63 : Int32)) = (29 : Int32) then (if 0 ≤ (x3 + (1 : Int32)) ∧ (x3 + (1 : Int32)).toNatClampNeg < Ln then (if 0 ≤ (x3 + (2 : Int32)) ∧ (x3 + (2 : Int32)).toNatClampNeg < Ln then (if 0 ≤ (x3 + (3 : Int32)) ∧ (x3 + (3 : Int32)).toNatClampNeg < Ln then (if 0 ≤ (x3 + (4 : Int32)) ∧ (x3 + (4 : Int32)).toNatClampNeg < Ln then (F_X11_winds n (xs ((x3 + (1 : Int32)).toNatClampNeg)) (xs ((x3 + (2 : Int32)).toNatClampNeg)) (xs ((x3 + (3 : Int32)).toNatClampNeg)) (xs ((x3 + (4 : Int32)).toNatClampNeg)) σ).bind (fun q226 => (F_X12_winds n (xs ((x3 + (1 : Int32)).toNatClampNeg)) (xs ((x3 + (2 : Int32)).toNatClampNeg)) (xs ((x3 + (3 : Int32)).toNatClampNeg)) (xs ((x3 + (4 : Int32)).toNatClampNeg)) q226.2).bind (fun q228 => (if q226.1 = q228.1 then LL n xs Ln k (x3 + 6) q228.2 else none))) else none) else none) else none) else none) else (if ((xs (x3.toNatClampNeg)) &&& (63 : Int32)) = (30 : Int32) then (if 0 ≤ (x3 + (1 : Int32)) ∧ (x3 + (1 : Int32)).toNatClampNeg < Ln then (F_X11_count n (xs ((x3 + (1 : Int32)).toNatClampNeg)) σ).bind (fun q233 => (F_X12_count n (xs ((x3 + (1 : Int32)).toNatClampNeg)) q233.2).bind (fun q235 => (if q233.1 = q235.1 then LL n xs Ln k (x3 + 6) q235.2 else none))) else none) else (if ((xs (x3.toNatClampNeg)) &&& (63 : Int32)) = (31 : Int32) then (if 0 ≤ (x3 + (1 : Int32)) ∧ (x3 + (1 : Int32)).toNatClampNeg < Ln then (F_X11_image n (xs ((x3 + (1 : Int32)).toNatClampNeg)) σ).bind (fun q240 => (F_X12_image n (xs ((x3 + (1 : Int32)).toNatClampNeg)) q240.2).bind (fun q242 => (if q240.1 = q242.1 then LL n xs Ln k (x3 + 6) q242.2 else none))) else none) else (if ((xs (x3.toNatClampNeg)) &&& (63 : Int32)) = (32 : Int32) then (if 0 ≤ (x3 + (1 : Int32)) ∧ (x3 + (1 : Int32)).toNatClampNeg < Ln then (F_X11_back n (xs ((x3 + (1 : Int32)).toNatClampNeg)) σ).bind (fun q247 => (F_X12_back n (xs ((x3 + (1 : Int32)).toNatClampNeg)) q247.2).bind (fun q249 => (if q247.1 = q249.1 then LL n xs Ln k (x3 + 6) q249.2 else none))) else none) else LL n xs Ln k (x3 + 6) σ))))))))))))))))))))))))))))))))) else none))
set_option maxHeartbeats 8000000 in
set_option maxRecDepth 100000 in
theorem law_loop {p : Program} {l : Launch} {e : Env} {s : State} {m : MethodId} {args : Array Value} {below : List Frame} {meth : Method} {c : Code} {D : va_G} {ad : Nat → Nat} {ca : Nat → ClassId} {kz : Nat → Nat} {cs sl : Nat} {Q : State → Prop} (C : pC p s m args c cL_law "AskedCampLaw" 4 D ad ca kz) (hcs : cs ≤ room_1.cells ∧ sl ≤ room_1.slots) {n : Nat} {b Ln : Nat} {xs : Nat → Int32} (hX : va_X b Ln xs s s.heap) (hbl : b < s.heap.size) (hbA : ¬ pAD ad b) (o : PS) (hx : PW p l e room_1 s m args below meth c 4 D ad ca cs sl Q o 1125 [] []) : ∀ (k : Nat) (x3 : Int32) (σ : PS), LL n xs Ln k x3 σ = some o → PW p l e room_1 s m args below meth c 4 D ad ca cs sl Q σ 18 [(0, .ref b), (1, .ref (ad (0))), (2, .ref (ad (249))), (3, .int x3)] [] := by
  intro k
  induction k with
  | zero => intro x3 σ hF; exact nomatch (show (none : Option PS) = some o from hF)
  | succ k ih =>
    intro x3 σ hF
    rw [LL] at hF
    refine q_iload_n C 3 dL_law_18 rfl rfl ?_
    refine q_aload_n C 0 dL_law_19 rfl rfl ?_
    refine q_slen C hX hbl hbA dL_law_20 ?_
    refine q_bipush (v := 6) C dL_law_21 (by decide) ?_
    refine q_isub C dL_law_23 ?_
    refine q_icmp_gt (tgt := 1125) C dL_law_24 (by decide) (fun c1 => ?_) (fun c1 => ?_)
    · replace hF := ift c1 hF
      cases hF
      refine q_sub [] rfl ?_
      exact hx
    · replace hF := ife c1 hF
      refine q_aload_n C 0 dL_law_27 rfl rfl ?_
      refine q_iload_n C 3 dL_law_28 rfl rfl ?_
      obtain ⟨g2, hF⟩ := grd hF
      refine q_sld C hX hbl hbA (vp_of g2) dL_law_29 ?_
      refine q_bipush (v := 63) C dL_law_30 (by decide) ?_
      refine q_iand C dL_law_32 ?_
      by_cases c3 : ((xs (x3.toNatClampNeg)) &&& (63 : Int32)) = (0 : Int32)
      · replace hF := ift c3 hF
        refine q_tableIn (off := 147) (tgt := 180) C dL_law_33 (by rw [c3]; decide) (by rw [c3]; decide) (by rw [c3] <;> rfl) (by decide) ?_
        refine q_aload_n C 1 dL_law_180 rfl rfl ?_
        refine q_aload_n C 0 dL_law_181 rfl rfl ?_
        refine q_iload_n C 3 dL_law_182 rfl rfl ?_
        refine q_iconst (v := 1) C dL_law_183 (by decide) ?_
        refine q_iadd C dL_law_184 ?_
        obtain ⟨g4, hF⟩ := grd hF
        refine q_sld C hX hbl hbA (vp_of g4) dL_law_185 ?_
        refine q_aload_n C 0 dL_law_186 rfl rfl ?_
        refine q_iload_n C 3 dL_law_187 rfl rfl ?_
        refine q_iconst (v := 2) C dL_law_188 (by decide) ?_
        refine q_iadd C dL_law_189 ?_
        obtain ⟨g5, hF⟩ := grd hF
        refine q_sld C hX hbl hbA (vp_of g5) dL_law_190 ?_
        refine q_aload_n C 0 dL_law_191 rfl rfl ?_
        refine q_iload_n C 3 dL_law_192 rfl rfl ?_
        refine q_iconst (v := 3) C dL_law_193 (by decide) ?_
        refine q_iadd C dL_law_194 ?_
        obtain ⟨g6, hF⟩ := grd hF
        refine q_sld C hX hbl hbA (vp_of g6) dL_law_195 ?_
        refine q_aload_n C 0 dL_law_196 rfl rfl ?_
        refine q_iload_n C 3 dL_law_197 rfl rfl ?_
        refine q_iconst (v := 4) C dL_law_198 (by decide) ?_
        refine q_iadd C dL_law_199 ?_
        obtain ⟨g7, hF⟩ := grd hF
        refine q_sld C hX hbl hbA (vp_of g7) dL_law_200 ?_
        refine q_aload_n C 0 dL_law_201 rfl rfl ?_
        refine q_iload_n C 3 dL_law_202 rfl rfl ?_
        refine q_iconst (v := 5) C dL_law_203 (by decide) ?_
        refine q_iadd C dL_law_204 ?_
        obtain ⟨g8, hF⟩ := grd hF
        refine q_sld C hX hbl hbA (vp_of g8) dL_law_205 ?_
        obtain ⟨q9, h10, hF⟩ := bnd hF
        try dsimp only at hF
        refine q_callVi C [.int (xs ((x3 + (1 : Int32)).toNatClampNeg)), .int (xs ((x3 + (2 : Int32)).toNatClampNeg)), .int (xs ((x3 + (3 : Int32)).toNatClampNeg)), .int (xs ((x3 + (4 : Int32)).toNatClampNeg)), .int (xs ((x3 + (5 : Int32)).toNatClampNeg))] (c_X11_feed l D ad ca kz C.2.2.2.2.2.2.1 _ _ _ _ _ _ _ _ h10) tw_411 gm_X11_feed pi_0.1 (pe_10 pi_0.2) rfl ⟨rfl, rfl⟩ ⟨Nat.le_of_ble_eq_true rfl, Nat.le_of_ble_eq_true rfl⟩ rfl (Nat.le_of_ble_eq_true rfl) dL_law_206 hcs ?_
        refine q_aload_n C 2 dL_law_209 rfl rfl ?_
        refine q_aload_n C 0 dL_law_210 rfl rfl ?_
        refine q_iload_n C 3 dL_law_211 rfl rfl ?_
        refine q_iconst (v := 1) C dL_law_212 (by decide) ?_
        refine q_iadd C dL_law_213 ?_
        refine q_sld C hX hbl hbA (vp_of g4) dL_law_214 ?_
        refine q_aload_n C 0 dL_law_215 rfl rfl ?_
        refine q_iload_n C 3 dL_law_216 rfl rfl ?_
        refine q_iconst (v := 2) C dL_law_217 (by decide) ?_
        refine q_iadd C dL_law_218 ?_
        refine q_sld C hX hbl hbA (vp_of g5) dL_law_219 ?_
        refine q_aload_n C 0 dL_law_220 rfl rfl ?_
        refine q_iload_n C 3 dL_law_221 rfl rfl ?_
        refine q_iconst (v := 3) C dL_law_222 (by decide) ?_
        refine q_iadd C dL_law_223 ?_
        refine q_sld C hX hbl hbA (vp_of g6) dL_law_224 ?_
        refine q_aload_n C 0 dL_law_225 rfl rfl ?_
        refine q_iload_n C 3 dL_law_226 rfl rfl ?_
        refine q_iconst (v := 4) C dL_law_227 (by decide) ?_
        refine q_iadd C dL_law_228 ?_
        refine q_sld C hX hbl hbA (vp_of g7) dL_law_229 ?_
        refine q_aload_n C 0 dL_law_230 rfl rfl ?_
        refine q_iload_n C 3 dL_law_231 rfl rfl ?_
        refine q_iconst (v := 5) C dL_law_232 (by decide) ?_
        refine q_iadd C dL_law_233 ?_
        refine q_sld C hX hbl hbA (vp_of g8) dL_law_234 ?_
        obtain ⟨q11, h12, hF⟩ := bnd hF
        try dsimp only at hF
        refine q_callVi C [.int (xs ((x3 + (1 : Int32)).toNatClampNeg)), .int (xs ((x3 + (2 : Int32)).toNatClampNeg)), .int (xs ((x3 + (3 : Int32)).toNatClampNeg)), .int (xs ((x3 + (4 : Int32)).toNatClampNeg)), .int (xs ((x3 + (5 : Int32)).toNatClampNeg))] (c_X12_feed l D ad ca kz C.2.2.2.2.2.2.1 _ _ _ _ _ _ _ _ h12) tw_1183 gm_X12_feed pi_249.1 (pe_11 pi_249.2) rfl ⟨rfl, rfl⟩ ⟨Nat.le_of_ble_eq_true rfl, Nat.le_of_ble_eq_true rfl⟩ rfl (Nat.le_of_ble_eq_true rfl) dL_law_235 hcs ?_
        refine q_icmp_eq (tgt := 1119) C dL_law_238 (by decide) (fun c13 => ?_) (fun c13 => ?_)
        · replace hF := ift c13 hF
          refine q_iinc C 3 [(3, .int (x3 + 6)), (0, .ref b), (1, .ref (ad (0))), (2, .ref (ad (249)))] dL_law_1119 rfl rfl (by decide) rfl ?_
          refine q_goto (tgt := 18) C dL_law_1122 (by decide) ?_
          refine q_sub [1, 2, 3, 0] rfl ?_
          exact ih _ _ hF
        · replace hF := ife c13 hF
          exact nomatch hF
      replace hF := ife c3 hF
      by_cases c14 : ((xs (x3.toNatClampNeg)) &&& (63 : Int32)) = (1 : Int32)
      · replace hF := ift c14 hF
        refine q_tableIn (off := 210) (tgt := 243) C dL_law_33 (by rw [c14]; decide) (by rw [c14]; decide) (by rw [c14] <;> rfl) (by decide) ?_
        refine q_aload_n C 1 dL_law_243 rfl rfl ?_
        refine q_aload_n C 0 dL_law_244 rfl rfl ?_
        refine q_iload_n C 3 dL_law_245 rfl rfl ?_
        refine q_iconst (v := 1) C dL_law_246 (by decide) ?_
        refine q_iadd C dL_law_247 ?_
        obtain ⟨g15, hF⟩ := grd hF
        refine q_sld C hX hbl hbA (vp_of g15) dL_law_248 ?_
        obtain ⟨q16, h17, hF⟩ := bnd hF
        try dsimp only at hF
        refine q_callVi C [.int (xs ((x3 + (1 : Int32)).toNatClampNeg))] (c_X11_end l D ad ca kz C.2.2.2.2.2.2.1 _ _ _ _ h17) tw_423 gm_X11_end pi_0.1 (pe_10 pi_0.2) rfl ⟨rfl, rfl⟩ ⟨Nat.le_of_ble_eq_true rfl, Nat.le_of_ble_eq_true rfl⟩ rfl (Nat.le_of_ble_eq_true rfl) dL_law_249 hcs ?_
        refine q_aload_n C 2 dL_law_252 rfl rfl ?_
        refine q_aload_n C 0 dL_law_253 rfl rfl ?_
        refine q_iload_n C 3 dL_law_254 rfl rfl ?_
        refine q_iconst (v := 1) C dL_law_255 (by decide) ?_
        refine q_iadd C dL_law_256 ?_
        refine q_sld C hX hbl hbA (vp_of g15) dL_law_257 ?_
        obtain ⟨q18, h19, hF⟩ := bnd hF
        try dsimp only at hF
        refine q_callVi C [.int (xs ((x3 + (1 : Int32)).toNatClampNeg))] (c_X12_end l D ad ca kz C.2.2.2.2.2.2.1 _ _ _ _ h19) tw_1191 gm_X12_end pi_249.1 (pe_11 pi_249.2) rfl ⟨rfl, rfl⟩ ⟨Nat.le_of_ble_eq_true rfl, Nat.le_of_ble_eq_true rfl⟩ rfl (Nat.le_of_ble_eq_true rfl) dL_law_258 hcs ?_
        refine q_icmp_eq (tgt := 1119) C dL_law_261 (by decide) (fun c20 => ?_) (fun c20 => ?_)
        · replace hF := ift c20 hF
          refine q_iinc C 3 [(3, .int (x3 + 6)), (0, .ref b), (1, .ref (ad (0))), (2, .ref (ad (249)))] dL_law_1119 rfl rfl (by decide) rfl ?_
          refine q_goto (tgt := 18) C dL_law_1122 (by decide) ?_
          refine q_sub [1, 2, 3, 0] rfl ?_
          exact ih _ _ hF
        · replace hF := ife c20 hF
          exact nomatch hF
      replace hF := ife c14 hF
      by_cases c21 : ((xs (x3.toNatClampNeg)) &&& (63 : Int32)) = (2 : Int32)
      · replace hF := ift c21 hF
        refine q_tableIn (off := 233) (tgt := 266) C dL_law_33 (by rw [c21]; decide) (by rw [c21]; decide) (by rw [c21] <;> rfl) (by decide) ?_
        refine q_aload_n C 1 dL_law_266 rfl rfl ?_
        obtain ⟨q22, h23, hF⟩ := bnd hF
        try dsimp only at hF
        refine q_callVi C [] (c_X11_camp l D ad ca kz C.2.2.2.2.2.2.1 _ _ _ h23) tw_427 gm_X11_camp pi_0.1 (pe_10 pi_0.2) rfl ⟨rfl, rfl⟩ ⟨Nat.le_of_ble_eq_true rfl, Nat.le_of_ble_eq_true rfl⟩ rfl (Nat.le_of_ble_eq_true rfl) dL_law_267 hcs ?_
        refine q_aload_n C 2 dL_law_270 rfl rfl ?_
        obtain ⟨q24, h25, hF⟩ := bnd hF
        try dsimp only at hF
        refine q_callVi C [] (c_X12_camp l D ad ca kz C.2.2.2.2.2.2.1 _ _ _ h25) tw_1349 gm_X12_camp pi_249.1 (pe_11 pi_249.2) rfl ⟨rfl, rfl⟩ ⟨Nat.le_of_ble_eq_true rfl, Nat.le_of_ble_eq_true rfl⟩ rfl (Nat.le_of_ble_eq_true rfl) dL_law_271 hcs ?_
        refine q_icmp_eq (tgt := 1119) C dL_law_274 (by decide) (fun c26 => ?_) (fun c26 => ?_)
        · replace hF := ift c26 hF
          refine q_iinc C 3 [(3, .int (x3 + 6)), (0, .ref b), (1, .ref (ad (0))), (2, .ref (ad (249)))] dL_law_1119 rfl rfl (by decide) rfl ?_
          refine q_goto (tgt := 18) C dL_law_1122 (by decide) ?_
          refine q_sub [1, 2, 3, 0] rfl ?_
          exact ih _ _ hF
        · replace hF := ife c26 hF
          exact nomatch hF
      replace hF := ife c21 hF
      by_cases c27 : ((xs (x3.toNatClampNeg)) &&& (63 : Int32)) = (3 : Int32)
      · replace hF := ift c27 hF
        refine q_tableIn (off := 246) (tgt := 279) C dL_law_33 (by rw [c27]; decide) (by rw [c27]; decide) (by rw [c27] <;> rfl) (by decide) ?_
        refine q_aload_n C 1 dL_law_279 rfl rfl ?_
        obtain ⟨q28, h29, hF⟩ := bnd hF
        try dsimp only at hF
        refine q_callVi C [] (c_X11_rule l D ad ca kz C.2.2.2.2.2.2.1 _ _ _ h29) tw_546 gm_X11_rule pi_0.1 (pe_10 pi_0.2) rfl ⟨rfl, rfl⟩ ⟨Nat.le_of_ble_eq_true rfl, Nat.le_of_ble_eq_true rfl⟩ rfl (Nat.le_of_ble_eq_true rfl) dL_law_280 hcs ?_
        refine q_aload_n C 2 dL_law_283 rfl rfl ?_
        obtain ⟨q30, h31, hF⟩ := bnd hF
        try dsimp only at hF
        refine q_callVi C [] (c_X12_rule l D ad ca kz C.2.2.2.2.2.2.1 _ _ _ h31) tw_1195 gm_X12_rule pi_249.1 (pe_11 pi_249.2) rfl ⟨rfl, rfl⟩ ⟨Nat.le_of_ble_eq_true rfl, Nat.le_of_ble_eq_true rfl⟩ rfl (Nat.le_of_ble_eq_true rfl) dL_law_284 hcs ?_
        refine q_icmp_eq (tgt := 1119) C dL_law_287 (by decide) (fun c32 => ?_) (fun c32 => ?_)
        · replace hF := ift c32 hF
          refine q_iinc C 3 [(3, .int (x3 + 6)), (0, .ref b), (1, .ref (ad (0))), (2, .ref (ad (249)))] dL_law_1119 rfl rfl (by decide) rfl ?_
          refine q_goto (tgt := 18) C dL_law_1122 (by decide) ?_
          refine q_sub [1, 2, 3, 0] rfl ?_
          exact ih _ _ hF
        · replace hF := ife c32 hF
          exact nomatch hF
      replace hF := ife c27 hF
      by_cases c33 : ((xs (x3.toNatClampNeg)) &&& (63 : Int32)) = (4 : Int32)
      · replace hF := ift c33 hF
        refine q_tableIn (off := 259) (tgt := 292) C dL_law_33 (by rw [c33]; decide) (by rw [c33]; decide) (by rw [c33] <;> rfl) (by decide) ?_
        refine q_aload_n C 1 dL_law_292 rfl rfl ?_
        refine q_aload_n C 0 dL_law_293 rfl rfl ?_
        refine q_iload_n C 3 dL_law_294 rfl rfl ?_
        refine q_iconst (v := 1) C dL_law_295 (by decide) ?_
        refine q_iadd C dL_law_296 ?_
        obtain ⟨g34, hF⟩ := grd hF
        refine q_sld C hX hbl hbA (vp_of g34) dL_law_297 ?_
        obtain ⟨q35, h36, hF⟩ := bnd hF
        try dsimp only at hF
        refine q_callVi C [.int (xs ((x3 + (1 : Int32)).toNatClampNeg))] (c_X11_force l D ad ca kz C.2.2.2.2.2.2.1 _ _ _ _ h36) tw_651 gm_X11_force pi_0.1 (pe_10 pi_0.2) rfl ⟨rfl, rfl⟩ ⟨Nat.le_of_ble_eq_true rfl, Nat.le_of_ble_eq_true rfl⟩ rfl (Nat.le_of_ble_eq_true rfl) dL_law_298 hcs ?_
        refine q_aload_n C 2 dL_law_301 rfl rfl ?_
        refine q_aload_n C 0 dL_law_302 rfl rfl ?_
        refine q_iload_n C 3 dL_law_303 rfl rfl ?_
        refine q_iconst (v := 1) C dL_law_304 (by decide) ?_
        refine q_iadd C dL_law_305 ?_
        refine q_sld C hX hbl hbA (vp_of g34) dL_law_306 ?_
        obtain ⟨q37, h38, hF⟩ := bnd hF
        try dsimp only at hF
        refine q_callVi C [.int (xs ((x3 + (1 : Int32)).toNatClampNeg))] (c_X12_force l D ad ca kz C.2.2.2.2.2.2.1 _ _ _ _ h38) tw_1357 gm_X12_force pi_249.1 (pe_11 pi_249.2) rfl ⟨rfl, rfl⟩ ⟨Nat.le_of_ble_eq_true rfl, Nat.le_of_ble_eq_true rfl⟩ rfl (Nat.le_of_ble_eq_true rfl) dL_law_307 hcs ?_
        refine q_icmp_eq (tgt := 1119) C dL_law_310 (by decide) (fun c39 => ?_) (fun c39 => ?_)
        · replace hF := ift c39 hF
          refine q_iinc C 3 [(3, .int (x3 + 6)), (0, .ref b), (1, .ref (ad (0))), (2, .ref (ad (249)))] dL_law_1119 rfl rfl (by decide) rfl ?_
          refine q_goto (tgt := 18) C dL_law_1122 (by decide) ?_
          refine q_sub [1, 2, 3, 0] rfl ?_
          exact ih _ _ hF
        · replace hF := ife c39 hF
          exact nomatch hF
      replace hF := ife c33 hF
      by_cases c40 : ((xs (x3.toNatClampNeg)) &&& (63 : Int32)) = (5 : Int32)
      · replace hF := ift c40 hF
        refine q_tableIn (off := 282) (tgt := 315) C dL_law_33 (by rw [c40]; decide) (by rw [c40]; decide) (by rw [c40] <;> rfl) (by decide) ?_
        refine q_aload_n C 1 dL_law_315 rfl rfl ?_
        refine q_aload_n C 0 dL_law_316 rfl rfl ?_
        refine q_iload_n C 3 dL_law_317 rfl rfl ?_
        refine q_iconst (v := 1) C dL_law_318 (by decide) ?_
        refine q_iadd C dL_law_319 ?_
        obtain ⟨g41, hF⟩ := grd hF
        refine q_sld C hX hbl hbA (vp_of g41) dL_law_320 ?_
        refine q_aload_n C 0 dL_law_321 rfl rfl ?_
        refine q_iload_n C 3 dL_law_322 rfl rfl ?_
        refine q_iconst (v := 2) C dL_law_323 (by decide) ?_
        refine q_iadd C dL_law_324 ?_
        obtain ⟨g42, hF⟩ := grd hF
        refine q_sld C hX hbl hbA (vp_of g42) dL_law_325 ?_
        obtain ⟨q43, h44, hF⟩ := bnd hF
        try dsimp only at hF
        refine q_callVi C [.int (xs ((x3 + (1 : Int32)).toNatClampNeg)), .int (xs ((x3 + (2 : Int32)).toNatClampNeg))] (c_X11_tent l D ad ca kz C.2.2.2.2.2.2.1 _ _ _ _ _ h44) tw_659 gm_X11_tent pi_0.1 (pe_10 pi_0.2) rfl ⟨rfl, rfl⟩ ⟨Nat.le_of_ble_eq_true rfl, Nat.le_of_ble_eq_true rfl⟩ rfl (Nat.le_of_ble_eq_true rfl) dL_law_326 hcs ?_
        refine q_aload_n C 2 dL_law_329 rfl rfl ?_
        refine q_aload_n C 0 dL_law_330 rfl rfl ?_
        refine q_iload_n C 3 dL_law_331 rfl rfl ?_
        refine q_iconst (v := 1) C dL_law_332 (by decide) ?_
        refine q_iadd C dL_law_333 ?_
        refine q_sld C hX hbl hbA (vp_of g41) dL_law_334 ?_
        refine q_aload_n C 0 dL_law_335 rfl rfl ?_
        refine q_iload_n C 3 dL_law_336 rfl rfl ?_
        refine q_iconst (v := 2) C dL_law_337 (by decide) ?_
        refine q_iadd C dL_law_338 ?_
        refine q_sld C hX hbl hbA (vp_of g42) dL_law_339 ?_
        obtain ⟨q45, h46, hF⟩ := bnd hF
        try dsimp only at hF
        refine q_callVi C [.int (xs ((x3 + (1 : Int32)).toNatClampNeg)), .int (xs ((x3 + (2 : Int32)).toNatClampNeg))] (c_X12_tent l D ad ca kz C.2.2.2.2.2.2.1 _ _ _ _ _ h46) tw_1365 gm_X12_tent pi_249.1 (pe_11 pi_249.2) rfl ⟨rfl, rfl⟩ ⟨Nat.le_of_ble_eq_true rfl, Nat.le_of_ble_eq_true rfl⟩ rfl (Nat.le_of_ble_eq_true rfl) dL_law_340 hcs ?_
        refine q_icmp_eq (tgt := 1119) C dL_law_343 (by decide) (fun c47 => ?_) (fun c47 => ?_)
        · replace hF := ift c47 hF
          refine q_iinc C 3 [(3, .int (x3 + 6)), (0, .ref b), (1, .ref (ad (0))), (2, .ref (ad (249)))] dL_law_1119 rfl rfl (by decide) rfl ?_
          refine q_goto (tgt := 18) C dL_law_1122 (by decide) ?_
          refine q_sub [1, 2, 3, 0] rfl ?_
          exact ih _ _ hF
        · replace hF := ife c47 hF
          exact nomatch hF
      replace hF := ife c40 hF
      by_cases c48 : ((xs (x3.toNatClampNeg)) &&& (63 : Int32)) = (6 : Int32)
      · replace hF := ift c48 hF
        refine q_tableIn (off := 315) (tgt := 348) C dL_law_33 (by rw [c48]; decide) (by rw [c48]; decide) (by rw [c48] <;> rfl) (by decide) ?_
        refine q_aload_n C 1 dL_law_348 rfl rfl ?_
        refine q_aload_n C 0 dL_law_349 rfl rfl ?_
        refine q_iload_n C 3 dL_law_350 rfl rfl ?_
        refine q_iconst (v := 1) C dL_law_351 (by decide) ?_
        refine q_iadd C dL_law_352 ?_
        obtain ⟨g49, hF⟩ := grd hF
        refine q_sld C hX hbl hbA (vp_of g49) dL_law_353 ?_
        refine q_aload_n C 0 dL_law_354 rfl rfl ?_
        refine q_iload_n C 3 dL_law_355 rfl rfl ?_
        refine q_iconst (v := 2) C dL_law_356 (by decide) ?_
        refine q_iadd C dL_law_357 ?_
        obtain ⟨g50, hF⟩ := grd hF
        refine q_sld C hX hbl hbA (vp_of g50) dL_law_358 ?_
        obtain ⟨q51, h52, hF⟩ := bnd hF
        try dsimp only at hF
        refine q_callVi C [.int (xs ((x3 + (1 : Int32)).toNatClampNeg)), .int (xs ((x3 + (2 : Int32)).toNatClampNeg))] (c_X11_cell l D ad ca kz C.2.2.2.2.2.2.1 _ _ _ _ _ h52) tw_667 gm_X11_cell pi_0.1 (pe_10 pi_0.2) rfl ⟨rfl, rfl⟩ ⟨Nat.le_of_ble_eq_true rfl, Nat.le_of_ble_eq_true rfl⟩ rfl (Nat.le_of_ble_eq_true rfl) dL_law_359 hcs ?_
        refine q_aload_n C 2 dL_law_362 rfl rfl ?_
        refine q_aload_n C 0 dL_law_363 rfl rfl ?_
        refine q_iload_n C 3 dL_law_364 rfl rfl ?_
        refine q_iconst (v := 1) C dL_law_365 (by decide) ?_
        refine q_iadd C dL_law_366 ?_
        refine q_sld C hX hbl hbA (vp_of g49) dL_law_367 ?_
        refine q_aload_n C 0 dL_law_368 rfl rfl ?_
        refine q_iload_n C 3 dL_law_369 rfl rfl ?_
        refine q_iconst (v := 2) C dL_law_370 (by decide) ?_
        refine q_iadd C dL_law_371 ?_
        refine q_sld C hX hbl hbA (vp_of g50) dL_law_372 ?_
        obtain ⟨q53, h54, hF⟩ := bnd hF
        try dsimp only at hF
        refine q_callVi C [.int (xs ((x3 + (1 : Int32)).toNatClampNeg)), .int (xs ((x3 + (2 : Int32)).toNatClampNeg))] (c_X12_cell l D ad ca kz C.2.2.2.2.2.2.1 _ _ _ _ _ h54) tw_1374 gm_X12_cell pi_249.1 (pe_11 pi_249.2) rfl ⟨rfl, rfl⟩ ⟨Nat.le_of_ble_eq_true rfl, Nat.le_of_ble_eq_true rfl⟩ rfl (Nat.le_of_ble_eq_true rfl) dL_law_373 hcs ?_
        refine q_icmp_eq (tgt := 1119) C dL_law_376 (by decide) (fun c55 => ?_) (fun c55 => ?_)
        · replace hF := ift c55 hF
          refine q_iinc C 3 [(3, .int (x3 + 6)), (0, .ref b), (1, .ref (ad (0))), (2, .ref (ad (249)))] dL_law_1119 rfl rfl (by decide) rfl ?_
          refine q_goto (tgt := 18) C dL_law_1122 (by decide) ?_
          refine q_sub [1, 2, 3, 0] rfl ?_
          exact ih _ _ hF
        · replace hF := ife c55 hF
          exact nomatch hF
      replace hF := ife c48 hF
      by_cases c56 : ((xs (x3.toNatClampNeg)) &&& (63 : Int32)) = (7 : Int32)
      · replace hF := ift c56 hF
        refine q_tableIn (off := 348) (tgt := 381) C dL_law_33 (by rw [c56]; decide) (by rw [c56]; decide) (by rw [c56] <;> rfl) (by decide) ?_
        refine q_aload_n C 1 dL_law_381 rfl rfl ?_
        obtain ⟨q57, h58, hF⟩ := bnd hF
        try dsimp only at hF
        refine q_callVi C [] (c_X11_step l D ad ca kz C.2.2.2.2.2.2.1 _ _ _ h58) tw_705 gm_X11_step pi_0.1 (pe_10 pi_0.2) rfl ⟨rfl, rfl⟩ ⟨Nat.le_of_ble_eq_true rfl, Nat.le_of_ble_eq_true rfl⟩ rfl (Nat.le_of_ble_eq_true rfl) dL_law_382 hcs ?_
        refine q_aload_n C 2 dL_law_385 rfl rfl ?_
        obtain ⟨q59, h60, hF⟩ := bnd hF
        try dsimp only at hF
        refine q_callVi C [] (c_X12_step l D ad ca kz C.2.2.2.2.2.2.1 _ _ _ h60) tw_1399 gm_X12_step pi_249.1 (pe_11 pi_249.2) rfl ⟨rfl, rfl⟩ ⟨Nat.le_of_ble_eq_true rfl, Nat.le_of_ble_eq_true rfl⟩ rfl (Nat.le_of_ble_eq_true rfl) dL_law_386 hcs ?_
        refine q_icmp_eq (tgt := 1119) C dL_law_389 (by decide) (fun c61 => ?_) (fun c61 => ?_)
        · replace hF := ift c61 hF
          refine q_iinc C 3 [(3, .int (x3 + 6)), (0, .ref b), (1, .ref (ad (0))), (2, .ref (ad (249)))] dL_law_1119 rfl rfl (by decide) rfl ?_
          refine q_goto (tgt := 18) C dL_law_1122 (by decide) ?_
          refine q_sub [1, 2, 3, 0] rfl ?_
          exact ih _ _ hF
        · replace hF := ife c61 hF
          exact nomatch hF
      replace hF := ife c56 hF
      by_cases c62 : ((xs (x3.toNatClampNeg)) &&& (63 : Int32)) = (8 : Int32)
      · replace hF := ift c62 hF
        refine q_tableIn (off := 361) (tgt := 394) C dL_law_33 (by rw [c62]; decide) (by rw [c62]; decide) (by rw [c62] <;> rfl) (by decide) ?_
        refine q_aload_n C 1 dL_law_394 rfl rfl ?_
        refine q_aload_n C 0 dL_law_395 rfl rfl ?_
        refine q_iload_n C 3 dL_law_396 rfl rfl ?_
        refine q_iconst (v := 1) C dL_law_397 (by decide) ?_
        refine q_iadd C dL_law_398 ?_
        obtain ⟨g63, hF⟩ := grd hF
        refine q_sld C hX hbl hbA (vp_of g63) dL_law_399 ?_
        obtain ⟨q64, h65, hF⟩ := bnd hF
        try dsimp only at hF
        refine q_callVi C [.int (xs ((x3 + (1 : Int32)).toNatClampNeg))] (c_X11_whistle l D ad ca kz C.2.2.2.2.2.2.1 _ _ _ _ h65) tw_809 gm_X11_whistle pi_0.1 (pe_10 pi_0.2) rfl ⟨rfl, rfl⟩ ⟨Nat.le_of_ble_eq_true rfl, Nat.le_of_ble_eq_true rfl⟩ rfl (Nat.le_of_ble_eq_true rfl) dL_law_400 hcs ?_
        refine q_aload_n C 2 dL_law_403 rfl rfl ?_
        refine q_aload_n C 0 dL_law_404 rfl rfl ?_
        refine q_iload_n C 3 dL_law_405 rfl rfl ?_
        refine q_iconst (v := 1) C dL_law_406 (by decide) ?_
        refine q_iadd C dL_law_407 ?_
        refine q_sld C hX hbl hbA (vp_of g63) dL_law_408 ?_
        obtain ⟨q66, h67, hF⟩ := bnd hF
        try dsimp only at hF
        refine q_callVi C [.int (xs ((x3 + (1 : Int32)).toNatClampNeg))] (c_X12_whistle l D ad ca kz C.2.2.2.2.2.2.1 _ _ _ _ h67) tw_1484 gm_X12_whistle pi_249.1 (pe_11 pi_249.2) rfl ⟨rfl, rfl⟩ ⟨Nat.le_of_ble_eq_true rfl, Nat.le_of_ble_eq_true rfl⟩ rfl (Nat.le_of_ble_eq_true rfl) dL_law_409 hcs ?_
        refine q_icmp_eq (tgt := 1119) C dL_law_412 (by decide) (fun c68 => ?_) (fun c68 => ?_)
        · replace hF := ift c68 hF
          refine q_iinc C 3 [(3, .int (x3 + 6)), (0, .ref b), (1, .ref (ad (0))), (2, .ref (ad (249)))] dL_law_1119 rfl rfl (by decide) rfl ?_
          refine q_goto (tgt := 18) C dL_law_1122 (by decide) ?_
          refine q_sub [1, 2, 3, 0] rfl ?_
          exact ih _ _ hF
        · replace hF := ife c68 hF
          exact nomatch hF
      replace hF := ife c62 hF
      by_cases c69 : ((xs (x3.toNatClampNeg)) &&& (63 : Int32)) = (9 : Int32)
      · replace hF := ift c69 hF
        refine q_tableIn (off := 384) (tgt := 417) C dL_law_33 (by rw [c69]; decide) (by rw [c69]; decide) (by rw [c69] <;> rfl) (by decide) ?_
        refine q_aload_n C 1 dL_law_417 rfl rfl ?_
        refine q_aload_n C 0 dL_law_418 rfl rfl ?_
        refine q_iload_n C 3 dL_law_419 rfl rfl ?_
        refine q_iconst (v := 1) C dL_law_420 (by decide) ?_
        refine q_iadd C dL_law_421 ?_
        obtain ⟨g70, hF⟩ := grd hF
        refine q_sld C hX hbl hbA (vp_of g70) dL_law_422 ?_
        refine q_aload_n C 0 dL_law_423 rfl rfl ?_
        refine q_iload_n C 3 dL_law_424 rfl rfl ?_
        refine q_iconst (v := 2) C dL_law_425 (by decide) ?_
        refine q_iadd C dL_law_426 ?_
        obtain ⟨g71, hF⟩ := grd hF
        refine q_sld C hX hbl hbA (vp_of g71) dL_law_427 ?_
        obtain ⟨q72, h73, hF⟩ := bnd hF
        try dsimp only at hF
        refine q_callVi C [.int (xs ((x3 + (1 : Int32)).toNatClampNeg)), .int (xs ((x3 + (2 : Int32)).toNatClampNeg))] (c_X11_pitch l D ad ca kz C.2.2.2.2.2.2.1 _ _ _ _ _ h73) tw_814 gm_X11_pitch pi_0.1 (pe_10 pi_0.2) rfl ⟨rfl, rfl⟩ ⟨Nat.le_of_ble_eq_true rfl, Nat.le_of_ble_eq_true rfl⟩ rfl (Nat.le_of_ble_eq_true rfl) dL_law_428 hcs ?_
        refine q_aload_n C 2 dL_law_431 rfl rfl ?_
        refine q_aload_n C 0 dL_law_432 rfl rfl ?_
        refine q_iload_n C 3 dL_law_433 rfl rfl ?_
        refine q_iconst (v := 1) C dL_law_434 (by decide) ?_
        refine q_iadd C dL_law_435 ?_
        refine q_sld C hX hbl hbA (vp_of g70) dL_law_436 ?_
        refine q_aload_n C 0 dL_law_437 rfl rfl ?_
        refine q_iload_n C 3 dL_law_438 rfl rfl ?_
        refine q_iconst (v := 2) C dL_law_439 (by decide) ?_
        refine q_iadd C dL_law_440 ?_
        refine q_sld C hX hbl hbA (vp_of g71) dL_law_441 ?_
        obtain ⟨q74, h75, hF⟩ := bnd hF
        try dsimp only at hF
        refine q_callVi C [.int (xs ((x3 + (1 : Int32)).toNatClampNeg)), .int (xs ((x3 + (2 : Int32)).toNatClampNeg))] (c_X12_pitch l D ad ca kz C.2.2.2.2.2.2.1 _ _ _ _ _ h75) tw_1496 gm_X12_pitch pi_249.1 (pe_11 pi_249.2) rfl ⟨rfl, rfl⟩ ⟨Nat.le_of_ble_eq_true rfl, Nat.le_of_ble_eq_true rfl⟩ rfl (Nat.le_of_ble_eq_true rfl) dL_law_442 hcs ?_
        refine q_icmp_eq (tgt := 1119) C dL_law_445 (by decide) (fun c76 => ?_) (fun c76 => ?_)
        · replace hF := ift c76 hF
          refine q_iinc C 3 [(3, .int (x3 + 6)), (0, .ref b), (1, .ref (ad (0))), (2, .ref (ad (249)))] dL_law_1119 rfl rfl (by decide) rfl ?_
          refine q_goto (tgt := 18) C dL_law_1122 (by decide) ?_
          refine q_sub [1, 2, 3, 0] rfl ?_
          exact ih _ _ hF
        · replace hF := ife c76 hF
          exact nomatch hF
      replace hF := ife c69 hF
      by_cases c77 : ((xs (x3.toNatClampNeg)) &&& (63 : Int32)) = (10 : Int32)
      · replace hF := ift c77 hF
        refine q_tableIn (off := 417) (tgt := 450) C dL_law_33 (by rw [c77]; decide) (by rw [c77]; decide) (by rw [c77] <;> rfl) (by decide) ?_
        refine q_aload_n C 1 dL_law_450 rfl rfl ?_
        refine q_aload_n C 0 dL_law_451 rfl rfl ?_
        refine q_iload_n C 3 dL_law_452 rfl rfl ?_
        refine q_iconst (v := 1) C dL_law_453 (by decide) ?_
        refine q_iadd C dL_law_454 ?_
        obtain ⟨g78, hF⟩ := grd hF
        refine q_sld C hX hbl hbA (vp_of g78) dL_law_455 ?_
        refine q_aload_n C 0 dL_law_456 rfl rfl ?_
        refine q_iload_n C 3 dL_law_457 rfl rfl ?_
        refine q_iconst (v := 2) C dL_law_458 (by decide) ?_
        refine q_iadd C dL_law_459 ?_
        obtain ⟨g79, hF⟩ := grd hF
        refine q_sld C hX hbl hbA (vp_of g79) dL_law_460 ?_
        obtain ⟨q80, h81, hF⟩ := bnd hF
        try dsimp only at hF
        refine q_callVi C [.int (xs ((x3 + (1 : Int32)).toNatClampNeg)), .int (xs ((x3 + (2 : Int32)).toNatClampNeg))] (c_X11_steady l D ad ca kz C.2.2.2.2.2.2.1 _ _ _ _ _ h81) tw_818 gm_X11_steady pi_0.1 (pe_10 pi_0.2) rfl ⟨rfl, rfl⟩ ⟨Nat.le_of_ble_eq_true rfl, Nat.le_of_ble_eq_true rfl⟩ rfl (Nat.le_of_ble_eq_true rfl) dL_law_461 hcs ?_
        refine q_aload_n C 2 dL_law_464 rfl rfl ?_
        refine q_aload_n C 0 dL_law_465 rfl rfl ?_
        refine q_iload_n C 3 dL_law_466 rfl rfl ?_
        refine q_iconst (v := 1) C dL_law_467 (by decide) ?_
        refine q_iadd C dL_law_468 ?_
        refine q_sld C hX hbl hbA (vp_of g78) dL_law_469 ?_
        refine q_aload_n C 0 dL_law_470 rfl rfl ?_
        refine q_iload_n C 3 dL_law_471 rfl rfl ?_
        refine q_iconst (v := 2) C dL_law_472 (by decide) ?_
        refine q_iadd C dL_law_473 ?_
        refine q_sld C hX hbl hbA (vp_of g79) dL_law_474 ?_
        obtain ⟨q82, h83, hF⟩ := bnd hF
        try dsimp only at hF
        refine q_callVi C [.int (xs ((x3 + (1 : Int32)).toNatClampNeg)), .int (xs ((x3 + (2 : Int32)).toNatClampNeg))] (c_X12_steady l D ad ca kz C.2.2.2.2.2.2.1 _ _ _ _ _ h83) tw_1500 gm_X12_steady pi_249.1 (pe_11 pi_249.2) rfl ⟨rfl, rfl⟩ ⟨Nat.le_of_ble_eq_true rfl, Nat.le_of_ble_eq_true rfl⟩ rfl (Nat.le_of_ble_eq_true rfl) dL_law_475 hcs ?_
        refine q_icmp_eq (tgt := 1119) C dL_law_478 (by decide) (fun c84 => ?_) (fun c84 => ?_)
        · replace hF := ift c84 hF
          refine q_iinc C 3 [(3, .int (x3 + 6)), (0, .ref b), (1, .ref (ad (0))), (2, .ref (ad (249)))] dL_law_1119 rfl rfl (by decide) rfl ?_
          refine q_goto (tgt := 18) C dL_law_1122 (by decide) ?_
          refine q_sub [1, 2, 3, 0] rfl ?_
          exact ih _ _ hF
        · replace hF := ife c84 hF
          exact nomatch hF
      replace hF := ife c77 hF
      by_cases c85 : ((xs (x3.toNatClampNeg)) &&& (63 : Int32)) = (11 : Int32)
      · replace hF := ift c85 hF
        refine q_tableIn (off := 450) (tgt := 483) C dL_law_33 (by rw [c85]; decide) (by rw [c85]; decide) (by rw [c85] <;> rfl) (by decide) ?_
        refine q_aload_n C 1 dL_law_483 rfl rfl ?_
        refine q_aload_n C 0 dL_law_484 rfl rfl ?_
        refine q_iload_n C 3 dL_law_485 rfl rfl ?_
        refine q_iconst (v := 1) C dL_law_486 (by decide) ?_
        refine q_iadd C dL_law_487 ?_
        obtain ⟨g86, hF⟩ := grd hF
        refine q_sld C hX hbl hbA (vp_of g86) dL_law_488 ?_
        obtain ⟨q87, h88, hF⟩ := bnd hF
        try dsimp only at hF
        refine q_callVi C [.int (xs ((x3 + (1 : Int32)).toNatClampNeg))] (c_X11_bush l D ad ca kz C.2.2.2.2.2.2.1 _ _ _ _ h88) tw_823 gm_X11_bush pi_0.1 (pe_10 pi_0.2) rfl ⟨rfl, rfl⟩ ⟨Nat.le_of_ble_eq_true rfl, Nat.le_of_ble_eq_true rfl⟩ rfl (Nat.le_of_ble_eq_true rfl) dL_law_489 hcs ?_
        refine q_aload_n C 2 dL_law_492 rfl rfl ?_
        refine q_aload_n C 0 dL_law_493 rfl rfl ?_
        refine q_iload_n C 3 dL_law_494 rfl rfl ?_
        refine q_iconst (v := 1) C dL_law_495 (by decide) ?_
        refine q_iadd C dL_law_496 ?_
        refine q_sld C hX hbl hbA (vp_of g86) dL_law_497 ?_
        obtain ⟨q89, h90, hF⟩ := bnd hF
        try dsimp only at hF
        refine q_callVi C [.int (xs ((x3 + (1 : Int32)).toNatClampNeg))] (c_X12_bush l D ad ca kz C.2.2.2.2.2.2.1 _ _ _ _ h90) tw_1505 gm_X12_bush pi_249.1 (pe_11 pi_249.2) rfl ⟨rfl, rfl⟩ ⟨Nat.le_of_ble_eq_true rfl, Nat.le_of_ble_eq_true rfl⟩ rfl (Nat.le_of_ble_eq_true rfl) dL_law_498 hcs ?_
        refine q_icmp_eq (tgt := 1119) C dL_law_501 (by decide) (fun c91 => ?_) (fun c91 => ?_)
        · replace hF := ift c91 hF
          refine q_iinc C 3 [(3, .int (x3 + 6)), (0, .ref b), (1, .ref (ad (0))), (2, .ref (ad (249)))] dL_law_1119 rfl rfl (by decide) rfl ?_
          refine q_goto (tgt := 18) C dL_law_1122 (by decide) ?_
          refine q_sub [1, 2, 3, 0] rfl ?_
          exact ih _ _ hF
        · replace hF := ife c91 hF
          exact nomatch hF
      replace hF := ife c85 hF
      by_cases c92 : ((xs (x3.toNatClampNeg)) &&& (63 : Int32)) = (12 : Int32)
      · replace hF := ift c92 hF
        refine q_tableIn (off := 473) (tgt := 506) C dL_law_33 (by rw [c92]; decide) (by rw [c92]; decide) (by rw [c92] <;> rfl) (by decide) ?_
        refine q_aload_n C 1 dL_law_506 rfl rfl ?_
        obtain ⟨q93, h94, hF⟩ := bnd hF
        try dsimp only at hF
        refine q_callVi C [] (c_X11_undo l D ad ca kz C.2.2.2.2.2.2.1 _ _ _ h94) tw_827 gm_X11_undo pi_0.1 (pe_10 pi_0.2) rfl ⟨rfl, rfl⟩ ⟨Nat.le_of_ble_eq_true rfl, Nat.le_of_ble_eq_true rfl⟩ rfl (Nat.le_of_ble_eq_true rfl) dL_law_507 hcs ?_
        refine q_aload_n C 2 dL_law_510 rfl rfl ?_
        obtain ⟨q95, h96, hF⟩ := bnd hF
        try dsimp only at hF
        refine q_callVi C [] (c_X12_undo l D ad ca kz C.2.2.2.2.2.2.1 _ _ _ h96) tw_1395 gm_X12_undo pi_249.1 (pe_11 pi_249.2) rfl ⟨rfl, rfl⟩ ⟨Nat.le_of_ble_eq_true rfl, Nat.le_of_ble_eq_true rfl⟩ rfl (Nat.le_of_ble_eq_true rfl) dL_law_511 hcs ?_
        refine q_icmp_eq (tgt := 1119) C dL_law_514 (by decide) (fun c97 => ?_) (fun c97 => ?_)
        · replace hF := ift c97 hF
          refine q_iinc C 3 [(3, .int (x3 + 6)), (0, .ref b), (1, .ref (ad (0))), (2, .ref (ad (249)))] dL_law_1119 rfl rfl (by decide) rfl ?_
          refine q_goto (tgt := 18) C dL_law_1122 (by decide) ?_
          refine q_sub [1, 2, 3, 0] rfl ?_
          exact ih _ _ hF
        · replace hF := ife c97 hF
          exact nomatch hF
      replace hF := ife c92 hF
      by_cases c98 : ((xs (x3.toNatClampNeg)) &&& (63 : Int32)) = (13 : Int32)
      · replace hF := ift c98 hF
        refine q_tableIn (off := 486) (tgt := 519) C dL_law_33 (by rw [c98]; decide) (by rw [c98]; decide) (by rw [c98] <;> rfl) (by decide) ?_
        refine q_aload_n C 1 dL_law_519 rfl rfl ?_
        refine q_aload_n C 0 dL_law_520 rfl rfl ?_
        refine q_iload_n C 3 dL_law_521 rfl rfl ?_
        refine q_iconst (v := 1) C dL_law_522 (by decide) ?_
        refine q_iadd C dL_law_523 ?_
        obtain ⟨g99, hF⟩ := grd hF
        refine q_sld C hX hbl hbA (vp_of g99) dL_law_524 ?_
        refine q_aload_n C 0 dL_law_525 rfl rfl ?_
        refine q_iload_n C 3 dL_law_526 rfl rfl ?_
        refine q_iconst (v := 2) C dL_law_527 (by decide) ?_
        refine q_iadd C dL_law_528 ?_
        obtain ⟨g100, hF⟩ := grd hF
        refine q_sld C hX hbl hbA (vp_of g100) dL_law_529 ?_
        refine q_aload_n C 0 dL_law_530 rfl rfl ?_
        refine q_iload_n C 3 dL_law_531 rfl rfl ?_
        refine q_iconst (v := 3) C dL_law_532 (by decide) ?_
        refine q_iadd C dL_law_533 ?_
        obtain ⟨g101, hF⟩ := grd hF
        refine q_sld C hX hbl hbA (vp_of g101) dL_law_534 ?_
        obtain ⟨q102, h103, hF⟩ := bnd hF
        try dsimp only at hF
        refine q_callVi C [.int (xs ((x3 + (1 : Int32)).toNatClampNeg)), .int (xs ((x3 + (2 : Int32)).toNatClampNeg)), .int (xs ((x3 + (3 : Int32)).toNatClampNeg))] (c_X11_ahead l D ad ca kz C.2.2.2.2.2.2.1 _ _ _ _ _ _ h103) tw_835 gm_X11_ahead pi_0.1 (pe_10 pi_0.2) rfl ⟨rfl, rfl⟩ ⟨Nat.le_of_ble_eq_true rfl, Nat.le_of_ble_eq_true rfl⟩ rfl (Nat.le_of_ble_eq_true rfl) dL_law_535 hcs ?_
        refine q_aload_n C 2 dL_law_538 rfl rfl ?_
        refine q_aload_n C 0 dL_law_539 rfl rfl ?_
        refine q_iload_n C 3 dL_law_540 rfl rfl ?_
        refine q_iconst (v := 1) C dL_law_541 (by decide) ?_
        refine q_iadd C dL_law_542 ?_
        refine q_sld C hX hbl hbA (vp_of g99) dL_law_543 ?_
        refine q_aload_n C 0 dL_law_544 rfl rfl ?_
        refine q_iload_n C 3 dL_law_545 rfl rfl ?_
        refine q_iconst (v := 2) C dL_law_546 (by decide) ?_
        refine q_iadd C dL_law_547 ?_
        refine q_sld C hX hbl hbA (vp_of g100) dL_law_548 ?_
        refine q_aload_n C 0 dL_law_549 rfl rfl ?_
        refine q_iload_n C 3 dL_law_550 rfl rfl ?_
        refine q_iconst (v := 3) C dL_law_551 (by decide) ?_
        refine q_iadd C dL_law_552 ?_
        refine q_sld C hX hbl hbA (vp_of g101) dL_law_553 ?_
        obtain ⟨q104, h105, hF⟩ := bnd hF
        try dsimp only at hF
        refine q_callVi C [.int (xs ((x3 + (1 : Int32)).toNatClampNeg)), .int (xs ((x3 + (2 : Int32)).toNatClampNeg)), .int (xs ((x3 + (3 : Int32)).toNatClampNeg))] (c_X12_ahead l D ad ca kz C.2.2.2.2.2.2.1 _ _ _ _ _ _ h105) tw_1509 gm_X12_ahead pi_249.1 (pe_11 pi_249.2) rfl ⟨rfl, rfl⟩ ⟨Nat.le_of_ble_eq_true rfl, Nat.le_of_ble_eq_true rfl⟩ rfl (Nat.le_of_ble_eq_true rfl) dL_law_554 hcs ?_
        refine q_icmp_eq (tgt := 1119) C dL_law_557 (by decide) (fun c106 => ?_) (fun c106 => ?_)
        · replace hF := ift c106 hF
          refine q_iinc C 3 [(3, .int (x3 + 6)), (0, .ref b), (1, .ref (ad (0))), (2, .ref (ad (249)))] dL_law_1119 rfl rfl (by decide) rfl ?_
          refine q_goto (tgt := 18) C dL_law_1122 (by decide) ?_
          refine q_sub [1, 2, 3, 0] rfl ?_
          exact ih _ _ hF
        · replace hF := ife c106 hF
          exact nomatch hF
      replace hF := ife c98 hF
      by_cases c107 : ((xs (x3.toNatClampNeg)) &&& (63 : Int32)) = (14 : Int32)
      · replace hF := ift c107 hF
        refine q_tableIn (off := 529) (tgt := 562) C dL_law_33 (by rw [c107]; decide) (by rw [c107]; decide) (by rw [c107] <;> rfl) (by decide) ?_
        refine q_aload_n C 1 dL_law_562 rfl rfl ?_
        refine q_aload_n C 0 dL_law_563 rfl rfl ?_
        refine q_iload_n C 3 dL_law_564 rfl rfl ?_
        refine q_iconst (v := 1) C dL_law_565 (by decide) ?_
        refine q_iadd C dL_law_566 ?_
        obtain ⟨g108, hF⟩ := grd hF
        refine q_sld C hX hbl hbA (vp_of g108) dL_law_567 ?_
        obtain ⟨q109, h110, hF⟩ := bnd hF
        try dsimp only at hF
        refine q_callVi C [.int (xs ((x3 + (1 : Int32)).toNatClampNeg))] (c_X11_first l D ad ca kz C.2.2.2.2.2.2.1 _ _ _ _ h110) tw_845 gm_X11_first pi_0.1 (pe_10 pi_0.2) rfl ⟨rfl, rfl⟩ ⟨Nat.le_of_ble_eq_true rfl, Nat.le_of_ble_eq_true rfl⟩ rfl (Nat.le_of_ble_eq_true rfl) dL_law_568 hcs ?_
        refine q_aload_n C 2 dL_law_571 rfl rfl ?_
        refine q_aload_n C 0 dL_law_572 rfl rfl ?_
        refine q_iload_n C 3 dL_law_573 rfl rfl ?_
        refine q_iconst (v := 1) C dL_law_574 (by decide) ?_
        refine q_iadd C dL_law_575 ?_
        refine q_sld C hX hbl hbA (vp_of g108) dL_law_576 ?_
        obtain ⟨q111, h112, hF⟩ := bnd hF
        try dsimp only at hF
        refine q_callVi C [.int (xs ((x3 + (1 : Int32)).toNatClampNeg))] (c_X12_first l D ad ca kz C.2.2.2.2.2.2.1 _ _ _ _ h112) tw_1530 gm_X12_first pi_249.1 (pe_11 pi_249.2) rfl ⟨rfl, rfl⟩ ⟨Nat.le_of_ble_eq_true rfl, Nat.le_of_ble_eq_true rfl⟩ rfl (Nat.le_of_ble_eq_true rfl) dL_law_577 hcs ?_
        refine q_icmp_eq (tgt := 1119) C dL_law_580 (by decide) (fun c113 => ?_) (fun c113 => ?_)
        · replace hF := ift c113 hF
          refine q_iinc C 3 [(3, .int (x3 + 6)), (0, .ref b), (1, .ref (ad (0))), (2, .ref (ad (249)))] dL_law_1119 rfl rfl (by decide) rfl ?_
          refine q_goto (tgt := 18) C dL_law_1122 (by decide) ?_
          refine q_sub [1, 2, 3, 0] rfl ?_
          exact ih _ _ hF
        · replace hF := ife c113 hF
          exact nomatch hF
      replace hF := ife c107 hF
      by_cases c114 : ((xs (x3.toNatClampNeg)) &&& (63 : Int32)) = (15 : Int32)
      · replace hF := ift c114 hF
        refine q_tableIn (off := 552) (tgt := 585) C dL_law_33 (by rw [c114]; decide) (by rw [c114]; decide) (by rw [c114] <;> rfl) (by decide) ?_
        refine q_aload_n C 1 dL_law_585 rfl rfl ?_
        refine q_aload_n C 0 dL_law_586 rfl rfl ?_
        refine q_iload_n C 3 dL_law_587 rfl rfl ?_
        refine q_iconst (v := 1) C dL_law_588 (by decide) ?_
        refine q_iadd C dL_law_589 ?_
        obtain ⟨g115, hF⟩ := grd hF
        refine q_sld C hX hbl hbA (vp_of g115) dL_law_590 ?_
        obtain ⟨q116, h117, hF⟩ := bnd hF
        try dsimp only at hF
        refine q_callVi C [.int (xs ((x3 + (1 : Int32)).toNatClampNeg))] (c_X11_way l D ad ca kz C.2.2.2.2.2.2.1 _ _ _ _ h117) tw_925 gm_X11_way pi_0.1 (pe_10 pi_0.2) rfl ⟨rfl, rfl⟩ ⟨Nat.le_of_ble_eq_true rfl, Nat.le_of_ble_eq_true rfl⟩ rfl (Nat.le_of_ble_eq_true rfl) dL_law_591 hcs ?_
        refine q_aload_n C 2 dL_law_594 rfl rfl ?_
        refine q_aload_n C 0 dL_law_595 rfl rfl ?_
        refine q_iload_n C 3 dL_law_596 rfl rfl ?_
        refine q_iconst (v := 1) C dL_law_597 (by decide) ?_
        refine q_iadd C dL_law_598 ?_
        refine q_sld C hX hbl hbA (vp_of g115) dL_law_599 ?_
        obtain ⟨q118, h119, hF⟩ := bnd hF
        try dsimp only at hF
        refine q_callVi C [.int (xs ((x3 + (1 : Int32)).toNatClampNeg))] (c_X12_way l D ad ca kz C.2.2.2.2.2.2.1 _ _ _ _ h119) tw_1534 gm_X12_way pi_249.1 (pe_11 pi_249.2) rfl ⟨rfl, rfl⟩ ⟨Nat.le_of_ble_eq_true rfl, Nat.le_of_ble_eq_true rfl⟩ rfl (Nat.le_of_ble_eq_true rfl) dL_law_600 hcs ?_
        refine q_icmp_eq (tgt := 1119) C dL_law_603 (by decide) (fun c120 => ?_) (fun c120 => ?_)
        · replace hF := ift c120 hF
          refine q_iinc C 3 [(3, .int (x3 + 6)), (0, .ref b), (1, .ref (ad (0))), (2, .ref (ad (249)))] dL_law_1119 rfl rfl (by decide) rfl ?_
          refine q_goto (tgt := 18) C dL_law_1122 (by decide) ?_
          refine q_sub [1, 2, 3, 0] rfl ?_
          exact ih _ _ hF
        · replace hF := ife c120 hF
          exact nomatch hF
      replace hF := ife c114 hF
      by_cases c121 : ((xs (x3.toNatClampNeg)) &&& (63 : Int32)) = (16 : Int32)
      · replace hF := ift c121 hF
        refine q_tableIn (off := 575) (tgt := 608) C dL_law_33 (by rw [c121]; decide) (by rw [c121]; decide) (by rw [c121] <;> rfl) (by decide) ?_
        refine q_aload_n C 1 dL_law_608 rfl rfl ?_
        refine q_aload_n C 0 dL_law_609 rfl rfl ?_
        refine q_iload_n C 3 dL_law_610 rfl rfl ?_
        refine q_iconst (v := 1) C dL_law_611 (by decide) ?_
        refine q_iadd C dL_law_612 ?_
        obtain ⟨g122, hF⟩ := grd hF
        refine q_sld C hX hbl hbA (vp_of g122) dL_law_613 ?_
        obtain ⟨q123, h124, hF⟩ := bnd hF
        try dsimp only at hF
        refine q_callVi C [.int (xs ((x3 + (1 : Int32)).toNatClampNeg))] (c_X11_reach l D ad ca kz C.2.2.2.2.2.2.1 _ _ _ _ h124) tw_930 gm_X11_reach pi_0.1 (pe_10 pi_0.2) rfl ⟨rfl, rfl⟩ ⟨Nat.le_of_ble_eq_true rfl, Nat.le_of_ble_eq_true rfl⟩ rfl (Nat.le_of_ble_eq_true rfl) dL_law_614 hcs ?_
        refine q_aload_n C 2 dL_law_617 rfl rfl ?_
        refine q_aload_n C 0 dL_law_618 rfl rfl ?_
        refine q_iload_n C 3 dL_law_619 rfl rfl ?_
        refine q_iconst (v := 1) C dL_law_620 (by decide) ?_
        refine q_iadd C dL_law_621 ?_
        refine q_sld C hX hbl hbA (vp_of g122) dL_law_622 ?_
        obtain ⟨q125, h126, hF⟩ := bnd hF
        try dsimp only at hF
        refine q_callVi C [.int (xs ((x3 + (1 : Int32)).toNatClampNeg))] (c_X12_reach l D ad ca kz C.2.2.2.2.2.2.1 _ _ _ _ h126) tw_1538 gm_X12_reach pi_249.1 (pe_11 pi_249.2) rfl ⟨rfl, rfl⟩ ⟨Nat.le_of_ble_eq_true rfl, Nat.le_of_ble_eq_true rfl⟩ rfl (Nat.le_of_ble_eq_true rfl) dL_law_623 hcs ?_
        refine q_icmp_eq (tgt := 1119) C dL_law_626 (by decide) (fun c127 => ?_) (fun c127 => ?_)
        · replace hF := ift c127 hF
          refine q_iinc C 3 [(3, .int (x3 + 6)), (0, .ref b), (1, .ref (ad (0))), (2, .ref (ad (249)))] dL_law_1119 rfl rfl (by decide) rfl ?_
          refine q_goto (tgt := 18) C dL_law_1122 (by decide) ?_
          refine q_sub [1, 2, 3, 0] rfl ?_
          exact ih _ _ hF
        · replace hF := ife c127 hF
          exact nomatch hF
      replace hF := ife c121 hF
      by_cases c128 : ((xs (x3.toNatClampNeg)) &&& (63 : Int32)) = (17 : Int32)
      · replace hF := ift c128 hF
        refine q_tableIn (off := 598) (tgt := 631) C dL_law_33 (by rw [c128]; decide) (by rw [c128]; decide) (by rw [c128] <;> rfl) (by decide) ?_
        refine q_aload_n C 1 dL_law_631 rfl rfl ?_
        refine q_aload_n C 0 dL_law_632 rfl rfl ?_
        refine q_iload_n C 3 dL_law_633 rfl rfl ?_
        refine q_iconst (v := 1) C dL_law_634 (by decide) ?_
        refine q_iadd C dL_law_635 ?_
        obtain ⟨g129, hF⟩ := grd hF
        refine q_sld C hX hbl hbA (vp_of g129) dL_law_636 ?_
        obtain ⟨q130, h131, hF⟩ := bnd hF
        try dsimp only at hF
        refine q_callVi C [.int (xs ((x3 + (1 : Int32)).toNatClampNeg))] (c_X11_knowsAll l D ad ca kz C.2.2.2.2.2.2.1 _ _ _ _ h131) tw_853 gm_X11_knowsAll pi_0.1 (pe_10 pi_0.2) rfl ⟨rfl, rfl⟩ ⟨Nat.le_of_ble_eq_true rfl, Nat.le_of_ble_eq_true rfl⟩ rfl (Nat.le_of_ble_eq_true rfl) dL_law_637 hcs ?_
        refine q_aload_n C 2 dL_law_640 rfl rfl ?_
        refine q_aload_n C 0 dL_law_641 rfl rfl ?_
        refine q_iload_n C 3 dL_law_642 rfl rfl ?_
        refine q_iconst (v := 1) C dL_law_643 (by decide) ?_
        refine q_iadd C dL_law_644 ?_
        refine q_sld C hX hbl hbA (vp_of g129) dL_law_645 ?_
        obtain ⟨q132, h133, hF⟩ := bnd hF
        try dsimp only at hF
        refine q_callVi C [.int (xs ((x3 + (1 : Int32)).toNatClampNeg))] (c_X12_knowsAll l D ad ca kz C.2.2.2.2.2.2.1 _ _ _ _ h133) tw_1543 gm_X12_knowsAll pi_249.1 (pe_11 pi_249.2) rfl ⟨rfl, rfl⟩ ⟨Nat.le_of_ble_eq_true rfl, Nat.le_of_ble_eq_true rfl⟩ rfl (Nat.le_of_ble_eq_true rfl) dL_law_646 hcs ?_
        refine q_icmp_eq (tgt := 1119) C dL_law_649 (by decide) (fun c134 => ?_) (fun c134 => ?_)
        · replace hF := ift c134 hF
          refine q_iinc C 3 [(3, .int (x3 + 6)), (0, .ref b), (1, .ref (ad (0))), (2, .ref (ad (249)))] dL_law_1119 rfl rfl (by decide) rfl ?_
          refine q_goto (tgt := 18) C dL_law_1122 (by decide) ?_
          refine q_sub [1, 2, 3, 0] rfl ?_
          exact ih _ _ hF
        · replace hF := ife c134 hF
          exact nomatch hF
      replace hF := ife c128 hF
      by_cases c135 : ((xs (x3.toNatClampNeg)) &&& (63 : Int32)) = (18 : Int32)
      · replace hF := ift c135 hF
        refine q_tableIn (off := 621) (tgt := 654) C dL_law_33 (by rw [c135]; decide) (by rw [c135]; decide) (by rw [c135] <;> rfl) (by decide) ?_
        refine q_aload_n C 1 dL_law_654 rfl rfl ?_
        refine q_aload_n C 0 dL_law_655 rfl rfl ?_
        refine q_iload_n C 3 dL_law_656 rfl rfl ?_
        refine q_iconst (v := 1) C dL_law_657 (by decide) ?_
        refine q_iadd C dL_law_658 ?_
        obtain ⟨g136, hF⟩ := grd hF
        refine q_sld C hX hbl hbA (vp_of g136) dL_law_659 ?_
        refine q_aload_n C 0 dL_law_660 rfl rfl ?_
        refine q_iload_n C 3 dL_law_661 rfl rfl ?_
        refine q_iconst (v := 2) C dL_law_662 (by decide) ?_
        refine q_iadd C dL_law_663 ?_
        obtain ⟨g137, hF⟩ := grd hF
        refine q_sld C hX hbl hbA (vp_of g137) dL_law_664 ?_
        obtain ⟨q138, h139, hF⟩ := bnd hF
        try dsimp only at hF
        refine q_callVi C [.int (xs ((x3 + (1 : Int32)).toNatClampNeg)), .int (xs ((x3 + (2 : Int32)).toNatClampNeg))] (c_X11_most l D ad ca kz C.2.2.2.2.2.2.1 _ _ _ _ _ h139) tw_861 gm_X11_most pi_0.1 (pe_10 pi_0.2) rfl ⟨rfl, rfl⟩ ⟨Nat.le_of_ble_eq_true rfl, Nat.le_of_ble_eq_true rfl⟩ rfl (Nat.le_of_ble_eq_true rfl) dL_law_665 hcs ?_
        refine q_aload_n C 2 dL_law_668 rfl rfl ?_
        refine q_aload_n C 0 dL_law_669 rfl rfl ?_
        refine q_iload_n C 3 dL_law_670 rfl rfl ?_
        refine q_iconst (v := 1) C dL_law_671 (by decide) ?_
        refine q_iadd C dL_law_672 ?_
        refine q_sld C hX hbl hbA (vp_of g136) dL_law_673 ?_
        refine q_aload_n C 0 dL_law_674 rfl rfl ?_
        refine q_iload_n C 3 dL_law_675 rfl rfl ?_
        refine q_iconst (v := 2) C dL_law_676 (by decide) ?_
        refine q_iadd C dL_law_677 ?_
        refine q_sld C hX hbl hbA (vp_of g137) dL_law_678 ?_
        obtain ⟨q140, h141, hF⟩ := bnd hF
        try dsimp only at hF
        refine q_callVi C [.int (xs ((x3 + (1 : Int32)).toNatClampNeg)), .int (xs ((x3 + (2 : Int32)).toNatClampNeg))] (c_X12_most l D ad ca kz C.2.2.2.2.2.2.1 _ _ _ _ _ h141) tw_1547 gm_X12_most pi_249.1 (pe_11 pi_249.2) rfl ⟨rfl, rfl⟩ ⟨Nat.le_of_ble_eq_true rfl, Nat.le_of_ble_eq_true rfl⟩ rfl (Nat.le_of_ble_eq_true rfl) dL_law_679 hcs ?_
        refine q_icmp_eq (tgt := 1119) C dL_law_682 (by decide) (fun c142 => ?_) (fun c142 => ?_)
        · replace hF := ift c142 hF
          refine q_iinc C 3 [(3, .int (x3 + 6)), (0, .ref b), (1, .ref (ad (0))), (2, .ref (ad (249)))] dL_law_1119 rfl rfl (by decide) rfl ?_
          refine q_goto (tgt := 18) C dL_law_1122 (by decide) ?_
          refine q_sub [1, 2, 3, 0] rfl ?_
          exact ih _ _ hF
        · replace hF := ife c142 hF
          exact nomatch hF
      replace hF := ife c135 hF
      by_cases c143 : ((xs (x3.toNatClampNeg)) &&& (63 : Int32)) = (19 : Int32)
      · replace hF := ift c143 hF
        refine q_tableIn (off := 654) (tgt := 687) C dL_law_33 (by rw [c143]; decide) (by rw [c143]; decide) (by rw [c143] <;> rfl) (by decide) ?_
        refine q_aload_n C 1 dL_law_687 rfl rfl ?_
        refine q_aload_n C 0 dL_law_688 rfl rfl ?_
        refine q_iload_n C 3 dL_law_689 rfl rfl ?_
        refine q_iconst (v := 1) C dL_law_690 (by decide) ?_
        refine q_iadd C dL_law_691 ?_
        obtain ⟨g144, hF⟩ := grd hF
        refine q_sld C hX hbl hbA (vp_of g144) dL_law_692 ?_
        refine q_aload_n C 0 dL_law_693 rfl rfl ?_
        refine q_iload_n C 3 dL_law_694 rfl rfl ?_
        refine q_iconst (v := 2) C dL_law_695 (by decide) ?_
        refine q_iadd C dL_law_696 ?_
        obtain ⟨g145, hF⟩ := grd hF
        refine q_sld C hX hbl hbA (vp_of g145) dL_law_697 ?_
        obtain ⟨q146, h147, hF⟩ := bnd hF
        try dsimp only at hF
        refine q_callVi C [.int (xs ((x3 + (1 : Int32)).toNatClampNeg)), .int (xs ((x3 + (2 : Int32)).toNatClampNeg))] (c_X11_cut l D ad ca kz C.2.2.2.2.2.2.1 _ _ _ _ _ h147) tw_938 gm_X11_cut pi_0.1 (pe_10 pi_0.2) rfl ⟨rfl, rfl⟩ ⟨Nat.le_of_ble_eq_true rfl, Nat.le_of_ble_eq_true rfl⟩ rfl (Nat.le_of_ble_eq_true rfl) dL_law_698 hcs ?_
        refine q_aload_n C 2 dL_law_701 rfl rfl ?_
        refine q_aload_n C 0 dL_law_702 rfl rfl ?_
        refine q_iload_n C 3 dL_law_703 rfl rfl ?_
        refine q_iconst (v := 1) C dL_law_704 (by decide) ?_
        refine q_iadd C dL_law_705 ?_
        refine q_sld C hX hbl hbA (vp_of g144) dL_law_706 ?_
        refine q_aload_n C 0 dL_law_707 rfl rfl ?_
        refine q_iload_n C 3 dL_law_708 rfl rfl ?_
        refine q_iconst (v := 2) C dL_law_709 (by decide) ?_
        refine q_iadd C dL_law_710 ?_
        refine q_sld C hX hbl hbA (vp_of g145) dL_law_711 ?_
        obtain ⟨q148, h149, hF⟩ := bnd hF
        try dsimp only at hF
        refine q_callVi C [.int (xs ((x3 + (1 : Int32)).toNatClampNeg)), .int (xs ((x3 + (2 : Int32)).toNatClampNeg))] (c_X12_cut l D ad ca kz C.2.2.2.2.2.2.1 _ _ _ _ _ h149) tw_1551 gm_X12_cut pi_249.1 (pe_11 pi_249.2) rfl ⟨rfl, rfl⟩ ⟨Nat.le_of_ble_eq_true rfl, Nat.le_of_ble_eq_true rfl⟩ rfl (Nat.le_of_ble_eq_true rfl) dL_law_712 hcs ?_
        refine q_icmp_eq (tgt := 1119) C dL_law_715 (by decide) (fun c150 => ?_) (fun c150 => ?_)
        · replace hF := ift c150 hF
          refine q_iinc C 3 [(3, .int (x3 + 6)), (0, .ref b), (1, .ref (ad (0))), (2, .ref (ad (249)))] dL_law_1119 rfl rfl (by decide) rfl ?_
          refine q_goto (tgt := 18) C dL_law_1122 (by decide) ?_
          refine q_sub [1, 2, 3, 0] rfl ?_
          exact ih _ _ hF
        · replace hF := ife c150 hF
          exact nomatch hF
      replace hF := ife c143 hF
      by_cases c151 : ((xs (x3.toNatClampNeg)) &&& (63 : Int32)) = (20 : Int32)
      · replace hF := ift c151 hF
        refine q_tableIn (off := 687) (tgt := 720) C dL_law_33 (by rw [c151]; decide) (by rw [c151]; decide) (by rw [c151] <;> rfl) (by decide) ?_
        refine q_aload_n C 1 dL_law_720 rfl rfl ?_
        refine q_aload_n C 0 dL_law_721 rfl rfl ?_
        refine q_iload_n C 3 dL_law_722 rfl rfl ?_
        refine q_iconst (v := 1) C dL_law_723 (by decide) ?_
        refine q_iadd C dL_law_724 ?_
        obtain ⟨g152, hF⟩ := grd hF
        refine q_sld C hX hbl hbA (vp_of g152) dL_law_725 ?_
        refine q_aload_n C 0 dL_law_726 rfl rfl ?_
        refine q_iload_n C 3 dL_law_727 rfl rfl ?_
        refine q_iconst (v := 2) C dL_law_728 (by decide) ?_
        refine q_iadd C dL_law_729 ?_
        obtain ⟨g153, hF⟩ := grd hF
        refine q_sld C hX hbl hbA (vp_of g153) dL_law_730 ?_
        refine q_aload_n C 0 dL_law_731 rfl rfl ?_
        refine q_iload_n C 3 dL_law_732 rfl rfl ?_
        refine q_iconst (v := 3) C dL_law_733 (by decide) ?_
        refine q_iadd C dL_law_734 ?_
        obtain ⟨g154, hF⟩ := grd hF
        refine q_sld C hX hbl hbA (vp_of g154) dL_law_735 ?_
        obtain ⟨q155, h156, hF⟩ := bnd hF
        try dsimp only at hF
        refine q_callVi C [.int (xs ((x3 + (1 : Int32)).toNatClampNeg)), .int (xs ((x3 + (2 : Int32)).toNatClampNeg)), .int (xs ((x3 + (3 : Int32)).toNatClampNeg))] (c_X11_hide l D ad ca kz C.2.2.2.2.2.2.1 _ _ _ _ _ _ h156) tw_869 gm_X11_hide pi_0.1 (pe_10 pi_0.2) rfl ⟨rfl, rfl⟩ ⟨Nat.le_of_ble_eq_true rfl, Nat.le_of_ble_eq_true rfl⟩ rfl (Nat.le_of_ble_eq_true rfl) dL_law_736 hcs ?_
        refine q_aload_n C 2 dL_law_739 rfl rfl ?_
        refine q_aload_n C 0 dL_law_740 rfl rfl ?_
        refine q_iload_n C 3 dL_law_741 rfl rfl ?_
        refine q_iconst (v := 1) C dL_law_742 (by decide) ?_
        refine q_iadd C dL_law_743 ?_
        refine q_sld C hX hbl hbA (vp_of g152) dL_law_744 ?_
        refine q_aload_n C 0 dL_law_745 rfl rfl ?_
        refine q_iload_n C 3 dL_law_746 rfl rfl ?_
        refine q_iconst (v := 2) C dL_law_747 (by decide) ?_
        refine q_iadd C dL_law_748 ?_
        refine q_sld C hX hbl hbA (vp_of g153) dL_law_749 ?_
        refine q_aload_n C 0 dL_law_750 rfl rfl ?_
        refine q_iload_n C 3 dL_law_751 rfl rfl ?_
        refine q_iconst (v := 3) C dL_law_752 (by decide) ?_
        refine q_iadd C dL_law_753 ?_
        refine q_sld C hX hbl hbA (vp_of g154) dL_law_754 ?_
        obtain ⟨q157, h158, hF⟩ := bnd hF
        try dsimp only at hF
        refine q_callVi C [.int (xs ((x3 + (1 : Int32)).toNatClampNeg)), .int (xs ((x3 + (2 : Int32)).toNatClampNeg)), .int (xs ((x3 + (3 : Int32)).toNatClampNeg))] (c_X12_hide l D ad ca kz C.2.2.2.2.2.2.1 _ _ _ _ _ _ h158) tw_1567 gm_X12_hide pi_249.1 (pe_11 pi_249.2) rfl ⟨rfl, rfl⟩ ⟨Nat.le_of_ble_eq_true rfl, Nat.le_of_ble_eq_true rfl⟩ rfl (Nat.le_of_ble_eq_true rfl) dL_law_755 hcs ?_
        refine q_icmp_eq (tgt := 1119) C dL_law_758 (by decide) (fun c159 => ?_) (fun c159 => ?_)
        · replace hF := ift c159 hF
          refine q_iinc C 3 [(3, .int (x3 + 6)), (0, .ref b), (1, .ref (ad (0))), (2, .ref (ad (249)))] dL_law_1119 rfl rfl (by decide) rfl ?_
          refine q_goto (tgt := 18) C dL_law_1122 (by decide) ?_
          refine q_sub [1, 2, 3, 0] rfl ?_
          exact ih _ _ hF
        · replace hF := ife c159 hF
          exact nomatch hF
      replace hF := ife c151 hF
      by_cases c160 : ((xs (x3.toNatClampNeg)) &&& (63 : Int32)) = (21 : Int32)
      · replace hF := ift c160 hF
        refine q_tableIn (off := 730) (tgt := 763) C dL_law_33 (by rw [c160]; decide) (by rw [c160]; decide) (by rw [c160] <;> rfl) (by decide) ?_
        refine q_aload_n C 1 dL_law_763 rfl rfl ?_
        refine q_aload_n C 0 dL_law_764 rfl rfl ?_
        refine q_iload_n C 3 dL_law_765 rfl rfl ?_
        refine q_iconst (v := 1) C dL_law_766 (by decide) ?_
        refine q_iadd C dL_law_767 ?_
        obtain ⟨g161, hF⟩ := grd hF
        refine q_sld C hX hbl hbA (vp_of g161) dL_law_768 ?_
        refine q_aload_n C 0 dL_law_769 rfl rfl ?_
        refine q_iload_n C 3 dL_law_770 rfl rfl ?_
        refine q_iconst (v := 2) C dL_law_771 (by decide) ?_
        refine q_iadd C dL_law_772 ?_
        obtain ⟨g162, hF⟩ := grd hF
        refine q_sld C hX hbl hbA (vp_of g162) dL_law_773 ?_
        obtain ⟨q163, h164, hF⟩ := bnd hF
        try dsimp only at hF
        refine q_callVi C [.int (xs ((x3 + (1 : Int32)).toNatClampNeg)), .int (xs ((x3 + (2 : Int32)).toNatClampNeg))] (c_X11_wake l D ad ca kz C.2.2.2.2.2.2.1 _ _ _ _ _ h164) tw_877 gm_X11_wake pi_0.1 (pe_10 pi_0.2) rfl ⟨rfl, rfl⟩ ⟨Nat.le_of_ble_eq_true rfl, Nat.le_of_ble_eq_true rfl⟩ rfl (Nat.le_of_ble_eq_true rfl) dL_law_774 hcs ?_
        refine q_aload_n C 2 dL_law_777 rfl rfl ?_
        refine q_aload_n C 0 dL_law_778 rfl rfl ?_
        refine q_iload_n C 3 dL_law_779 rfl rfl ?_
        refine q_iconst (v := 1) C dL_law_780 (by decide) ?_
        refine q_iadd C dL_law_781 ?_
        refine q_sld C hX hbl hbA (vp_of g161) dL_law_782 ?_
        refine q_aload_n C 0 dL_law_783 rfl rfl ?_
        refine q_iload_n C 3 dL_law_784 rfl rfl ?_
        refine q_iconst (v := 2) C dL_law_785 (by decide) ?_
        refine q_iadd C dL_law_786 ?_
        refine q_sld C hX hbl hbA (vp_of g162) dL_law_787 ?_
        obtain ⟨q165, h166, hF⟩ := bnd hF
        try dsimp only at hF
        refine q_callVi C [.int (xs ((x3 + (1 : Int32)).toNatClampNeg)), .int (xs ((x3 + (2 : Int32)).toNatClampNeg))] (c_X12_wake l D ad ca kz C.2.2.2.2.2.2.1 _ _ _ _ _ h166) tw_1572 gm_X12_wake pi_249.1 (pe_11 pi_249.2) rfl ⟨rfl, rfl⟩ ⟨Nat.le_of_ble_eq_true rfl, Nat.le_of_ble_eq_true rfl⟩ rfl (Nat.le_of_ble_eq_true rfl) dL_law_788 hcs ?_
        refine q_icmp_eq (tgt := 1119) C dL_law_791 (by decide) (fun c167 => ?_) (fun c167 => ?_)
        · replace hF := ift c167 hF
          refine q_iinc C 3 [(3, .int (x3 + 6)), (0, .ref b), (1, .ref (ad (0))), (2, .ref (ad (249)))] dL_law_1119 rfl rfl (by decide) rfl ?_
          refine q_goto (tgt := 18) C dL_law_1122 (by decide) ?_
          refine q_sub [1, 2, 3, 0] rfl ?_
          exact ih _ _ hF
        · replace hF := ife c167 hF
          exact nomatch hF
      replace hF := ife c160 hF
      by_cases c168 : ((xs (x3.toNatClampNeg)) &&& (63 : Int32)) = (22 : Int32)
      · replace hF := ift c168 hF
        refine q_tableIn (off := 763) (tgt := 796) C dL_law_33 (by rw [c168]; decide) (by rw [c168]; decide) (by rw [c168] <;> rfl) (by decide) ?_
        refine q_aload_n C 1 dL_law_796 rfl rfl ?_
        refine q_aload_n C 0 dL_law_797 rfl rfl ?_
        refine q_iload_n C 3 dL_law_798 rfl rfl ?_
        refine q_iconst (v := 1) C dL_law_799 (by decide) ?_
        refine q_iadd C dL_law_800 ?_
        obtain ⟨g169, hF⟩ := grd hF
        refine q_sld C hX hbl hbA (vp_of g169) dL_law_801 ?_
        refine q_aload_n C 0 dL_law_802 rfl rfl ?_
        refine q_iload_n C 3 dL_law_803 rfl rfl ?_
        refine q_iconst (v := 2) C dL_law_804 (by decide) ?_
        refine q_iadd C dL_law_805 ?_
        obtain ⟨g170, hF⟩ := grd hF
        refine q_sld C hX hbl hbA (vp_of g170) dL_law_806 ?_
        obtain ⟨q171, h172, hF⟩ := bnd hF
        try dsimp only at hF
        refine q_callVi C [.int (xs ((x3 + (1 : Int32)).toNatClampNeg)), .int (xs ((x3 + (2 : Int32)).toNatClampNeg))] (c_X11_pence l D ad ca kz C.2.2.2.2.2.2.1 _ _ _ _ _ h172) tw_982 gm_X11_pence pi_0.1 (pe_10 pi_0.2) rfl ⟨rfl, rfl⟩ ⟨Nat.le_of_ble_eq_true rfl, Nat.le_of_ble_eq_true rfl⟩ rfl (Nat.le_of_ble_eq_true rfl) dL_law_807 hcs ?_
        refine q_aload_n C 2 dL_law_810 rfl rfl ?_
        refine q_aload_n C 0 dL_law_811 rfl rfl ?_
        refine q_iload_n C 3 dL_law_812 rfl rfl ?_
        refine q_iconst (v := 1) C dL_law_813 (by decide) ?_
        refine q_iadd C dL_law_814 ?_
        refine q_sld C hX hbl hbA (vp_of g169) dL_law_815 ?_
        refine q_aload_n C 0 dL_law_816 rfl rfl ?_
        refine q_iload_n C 3 dL_law_817 rfl rfl ?_
        refine q_iconst (v := 2) C dL_law_818 (by decide) ?_
        refine q_iadd C dL_law_819 ?_
        refine q_sld C hX hbl hbA (vp_of g170) dL_law_820 ?_
        obtain ⟨q173, h174, hF⟩ := bnd hF
        try dsimp only at hF
        refine q_callVi C [.int (xs ((x3 + (1 : Int32)).toNatClampNeg)), .int (xs ((x3 + (2 : Int32)).toNatClampNeg))] (c_X12_pence l D ad ca kz C.2.2.2.2.2.2.1 _ _ _ _ _ h174) tw_1580 gm_X12_pence pi_249.1 (pe_11 pi_249.2) rfl ⟨rfl, rfl⟩ ⟨Nat.le_of_ble_eq_true rfl, Nat.le_of_ble_eq_true rfl⟩ rfl (Nat.le_of_ble_eq_true rfl) dL_law_821 hcs ?_
        refine q_icmp_eq (tgt := 1119) C dL_law_824 (by decide) (fun c175 => ?_) (fun c175 => ?_)
        · replace hF := ift c175 hF
          refine q_iinc C 3 [(3, .int (x3 + 6)), (0, .ref b), (1, .ref (ad (0))), (2, .ref (ad (249)))] dL_law_1119 rfl rfl (by decide) rfl ?_
          refine q_goto (tgt := 18) C dL_law_1122 (by decide) ?_
          refine q_sub [1, 2, 3, 0] rfl ?_
          exact ih _ _ hF
        · replace hF := ife c175 hF
          exact nomatch hF
      replace hF := ife c168 hF
      by_cases c176 : ((xs (x3.toNatClampNeg)) &&& (63 : Int32)) = (23 : Int32)
      · replace hF := ift c176 hF
        refine q_tableIn (off := 796) (tgt := 829) C dL_law_33 (by rw [c176]; decide) (by rw [c176]; decide) (by rw [c176] <;> rfl) (by decide) ?_
        refine q_aload_n C 1 dL_law_829 rfl rfl ?_
        refine q_aload_n C 0 dL_law_830 rfl rfl ?_
        refine q_iload_n C 3 dL_law_831 rfl rfl ?_
        refine q_iconst (v := 1) C dL_law_832 (by decide) ?_
        refine q_iadd C dL_law_833 ?_
        obtain ⟨g177, hF⟩ := grd hF
        refine q_sld C hX hbl hbA (vp_of g177) dL_law_834 ?_
        refine q_aload_n C 0 dL_law_835 rfl rfl ?_
        refine q_iload_n C 3 dL_law_836 rfl rfl ?_
        refine q_iconst (v := 2) C dL_law_837 (by decide) ?_
        refine q_iadd C dL_law_838 ?_
        obtain ⟨g178, hF⟩ := grd hF
        refine q_sld C hX hbl hbA (vp_of g178) dL_law_839 ?_
        refine q_aload_n C 0 dL_law_840 rfl rfl ?_
        refine q_iload_n C 3 dL_law_841 rfl rfl ?_
        refine q_iconst (v := 3) C dL_law_842 (by decide) ?_
        refine q_iadd C dL_law_843 ?_
        obtain ⟨g179, hF⟩ := grd hF
        refine q_sld C hX hbl hbA (vp_of g179) dL_law_844 ?_
        obtain ⟨q180, h181, hF⟩ := bnd hF
        try dsimp only at hF
        refine q_callVi C [.int (xs ((x3 + (1 : Int32)).toNatClampNeg)), .int (xs ((x3 + (2 : Int32)).toNatClampNeg)), .int (xs ((x3 + (3 : Int32)).toNatClampNeg))] (c_X11_game l D ad ca kz C.2.2.2.2.2.2.1 _ _ _ _ _ _ h181) tw_958 gm_X11_game pi_0.1 (pe_10 pi_0.2) rfl ⟨rfl, rfl⟩ ⟨Nat.le_of_ble_eq_true rfl, Nat.le_of_ble_eq_true rfl⟩ rfl (Nat.le_of_ble_eq_true rfl) dL_law_845 hcs ?_
        refine q_aload_n C 2 dL_law_848 rfl rfl ?_
        refine q_aload_n C 0 dL_law_849 rfl rfl ?_
        refine q_iload_n C 3 dL_law_850 rfl rfl ?_
        refine q_iconst (v := 1) C dL_law_851 (by decide) ?_
        refine q_iadd C dL_law_852 ?_
        refine q_sld C hX hbl hbA (vp_of g177) dL_law_853 ?_
        refine q_aload_n C 0 dL_law_854 rfl rfl ?_
        refine q_iload_n C 3 dL_law_855 rfl rfl ?_
        refine q_iconst (v := 2) C dL_law_856 (by decide) ?_
        refine q_iadd C dL_law_857 ?_
        refine q_sld C hX hbl hbA (vp_of g178) dL_law_858 ?_
        refine q_aload_n C 0 dL_law_859 rfl rfl ?_
        refine q_iload_n C 3 dL_law_860 rfl rfl ?_
        refine q_iconst (v := 3) C dL_law_861 (by decide) ?_
        refine q_iadd C dL_law_862 ?_
        refine q_sld C hX hbl hbA (vp_of g179) dL_law_863 ?_
        obtain ⟨q182, h183, hF⟩ := bnd hF
        try dsimp only at hF
        refine q_callVi C [.int (xs ((x3 + (1 : Int32)).toNatClampNeg)), .int (xs ((x3 + (2 : Int32)).toNatClampNeg)), .int (xs ((x3 + (3 : Int32)).toNatClampNeg))] (c_X12_game l D ad ca kz C.2.2.2.2.2.2.1 _ _ _ _ _ _ h183) tw_1585 gm_X12_game pi_249.1 (pe_11 pi_249.2) rfl ⟨rfl, rfl⟩ ⟨Nat.le_of_ble_eq_true rfl, Nat.le_of_ble_eq_true rfl⟩ rfl (Nat.le_of_ble_eq_true rfl) dL_law_864 hcs ?_
        refine q_icmp_eq (tgt := 1119) C dL_law_867 (by decide) (fun c184 => ?_) (fun c184 => ?_)
        · replace hF := ift c184 hF
          refine q_iinc C 3 [(3, .int (x3 + 6)), (0, .ref b), (1, .ref (ad (0))), (2, .ref (ad (249)))] dL_law_1119 rfl rfl (by decide) rfl ?_
          refine q_goto (tgt := 18) C dL_law_1122 (by decide) ?_
          refine q_sub [1, 2, 3, 0] rfl ?_
          exact ih _ _ hF
        · replace hF := ife c184 hF
          exact nomatch hF
      replace hF := ife c176 hF
      by_cases c185 : ((xs (x3.toNatClampNeg)) &&& (63 : Int32)) = (24 : Int32)
      · replace hF := ift c185 hF
        refine q_tableIn (off := 839) (tgt := 872) C dL_law_33 (by rw [c185]; decide) (by rw [c185]; decide) (by rw [c185] <;> rfl) (by decide) ?_
        refine q_aload_n C 1 dL_law_872 rfl rfl ?_
        refine q_aload_n C 0 dL_law_873 rfl rfl ?_
        refine q_iload_n C 3 dL_law_874 rfl rfl ?_
        refine q_iconst (v := 1) C dL_law_875 (by decide) ?_
        refine q_iadd C dL_law_876 ?_
        obtain ⟨g186, hF⟩ := grd hF
        refine q_sld C hX hbl hbA (vp_of g186) dL_law_877 ?_
        obtain ⟨q187, h188, hF⟩ := bnd hF
        try dsimp only at hF
        refine q_callVi C [.int (xs ((x3 + (1 : Int32)).toNatClampNeg))] (c_X11_ring l D ad ca kz C.2.2.2.2.2.2.1 _ _ _ _ h188) tw_887 gm_X11_ring pi_0.1 (pe_10 pi_0.2) rfl ⟨rfl, rfl⟩ ⟨Nat.le_of_ble_eq_true rfl, Nat.le_of_ble_eq_true rfl⟩ rfl (Nat.le_of_ble_eq_true rfl) dL_law_878 hcs ?_
        refine q_aload_n C 2 dL_law_881 rfl rfl ?_
        refine q_aload_n C 0 dL_law_882 rfl rfl ?_
        refine q_iload_n C 3 dL_law_883 rfl rfl ?_
        refine q_iconst (v := 1) C dL_law_884 (by decide) ?_
        refine q_iadd C dL_law_885 ?_
        refine q_sld C hX hbl hbA (vp_of g186) dL_law_886 ?_
        obtain ⟨q189, h190, hF⟩ := bnd hF
        try dsimp only at hF
        refine q_callVi C [.int (xs ((x3 + (1 : Int32)).toNatClampNeg))] (c_X12_ring l D ad ca kz C.2.2.2.2.2.2.1 _ _ _ _ h190) tw_1610 gm_X12_ring pi_249.1 (pe_11 pi_249.2) rfl ⟨rfl, rfl⟩ ⟨Nat.le_of_ble_eq_true rfl, Nat.le_of_ble_eq_true rfl⟩ rfl (Nat.le_of_ble_eq_true rfl) dL_law_887 hcs ?_
        refine q_icmp_eq (tgt := 1119) C dL_law_890 (by decide) (fun c191 => ?_) (fun c191 => ?_)
        · replace hF := ift c191 hF
          refine q_iinc C 3 [(3, .int (x3 + 6)), (0, .ref b), (1, .ref (ad (0))), (2, .ref (ad (249)))] dL_law_1119 rfl rfl (by decide) rfl ?_
          refine q_goto (tgt := 18) C dL_law_1122 (by decide) ?_
          refine q_sub [1, 2, 3, 0] rfl ?_
          exact ih _ _ hF
        · replace hF := ife c191 hF
          exact nomatch hF
      replace hF := ife c185 hF
      by_cases c192 : ((xs (x3.toNatClampNeg)) &&& (63 : Int32)) = (25 : Int32)
      · replace hF := ift c192 hF
        refine q_tableIn (off := 862) (tgt := 895) C dL_law_33 (by rw [c192]; decide) (by rw [c192]; decide) (by rw [c192] <;> rfl) (by decide) ?_
        refine q_aload_n C 1 dL_law_895 rfl rfl ?_
        refine q_aload_n C 0 dL_law_896 rfl rfl ?_
        refine q_iload_n C 3 dL_law_897 rfl rfl ?_
        refine q_iconst (v := 1) C dL_law_898 (by decide) ?_
        refine q_iadd C dL_law_899 ?_
        obtain ⟨g193, hF⟩ := grd hF
        refine q_sld C hX hbl hbA (vp_of g193) dL_law_900 ?_
        refine q_aload_n C 0 dL_law_901 rfl rfl ?_
        refine q_iload_n C 3 dL_law_902 rfl rfl ?_
        refine q_iconst (v := 2) C dL_law_903 (by decide) ?_
        refine q_iadd C dL_law_904 ?_
        obtain ⟨g194, hF⟩ := grd hF
        refine q_sld C hX hbl hbA (vp_of g194) dL_law_905 ?_
        obtain ⟨q195, h196, hF⟩ := bnd hF
        try dsimp only at hF
        refine q_callVi C [.int (xs ((x3 + (1 : Int32)).toNatClampNeg)), .int (xs ((x3 + (2 : Int32)).toNatClampNeg))] (c_X11_note l D ad ca kz C.2.2.2.2.2.2.1 _ _ _ _ _ h196) tw_991 gm_X11_note pi_0.1 (pe_10 pi_0.2) rfl ⟨rfl, rfl⟩ ⟨Nat.le_of_ble_eq_true rfl, Nat.le_of_ble_eq_true rfl⟩ rfl (Nat.le_of_ble_eq_true rfl) dL_law_906 hcs ?_
        refine q_aload_n C 2 dL_law_909 rfl rfl ?_
        refine q_aload_n C 0 dL_law_910 rfl rfl ?_
        refine q_iload_n C 3 dL_law_911 rfl rfl ?_
        refine q_iconst (v := 1) C dL_law_912 (by decide) ?_
        refine q_iadd C dL_law_913 ?_
        refine q_sld C hX hbl hbA (vp_of g193) dL_law_914 ?_
        refine q_aload_n C 0 dL_law_915 rfl rfl ?_
        refine q_iload_n C 3 dL_law_916 rfl rfl ?_
        refine q_iconst (v := 2) C dL_law_917 (by decide) ?_
        refine q_iadd C dL_law_918 ?_
        refine q_sld C hX hbl hbA (vp_of g194) dL_law_919 ?_
        obtain ⟨q197, h198, hF⟩ := bnd hF
        try dsimp only at hF
        refine q_callVi C [.int (xs ((x3 + (1 : Int32)).toNatClampNeg)), .int (xs ((x3 + (2 : Int32)).toNatClampNeg))] (c_X12_note l D ad ca kz C.2.2.2.2.2.2.1 _ _ _ _ _ h198) tw_1618 gm_X12_note pi_249.1 (pe_11 pi_249.2) rfl ⟨rfl, rfl⟩ ⟨Nat.le_of_ble_eq_true rfl, Nat.le_of_ble_eq_true rfl⟩ rfl (Nat.le_of_ble_eq_true rfl) dL_law_920 hcs ?_
        refine q_icmp_eq (tgt := 1119) C dL_law_923 (by decide) (fun c199 => ?_) (fun c199 => ?_)
        · replace hF := ift c199 hF
          refine q_iinc C 3 [(3, .int (x3 + 6)), (0, .ref b), (1, .ref (ad (0))), (2, .ref (ad (249)))] dL_law_1119 rfl rfl (by decide) rfl ?_
          refine q_goto (tgt := 18) C dL_law_1122 (by decide) ?_
          refine q_sub [1, 2, 3, 0] rfl ?_
          exact ih _ _ hF
        · replace hF := ife c199 hF
          exact nomatch hF
      replace hF := ife c192 hF
      by_cases c200 : ((xs (x3.toNatClampNeg)) &&& (63 : Int32)) = (26 : Int32)
      · replace hF := ift c200 hF
        refine q_tableIn (off := 895) (tgt := 928) C dL_law_33 (by rw [c200]; decide) (by rw [c200]; decide) (by rw [c200] <;> rfl) (by decide) ?_
        refine q_aload_n C 1 dL_law_928 rfl rfl ?_
        refine q_aload_n C 0 dL_law_929 rfl rfl ?_
        refine q_iload_n C 3 dL_law_930 rfl rfl ?_
        refine q_iconst (v := 1) C dL_law_931 (by decide) ?_
        refine q_iadd C dL_law_932 ?_
        obtain ⟨g201, hF⟩ := grd hF
        refine q_sld C hX hbl hbA (vp_of g201) dL_law_933 ?_
        obtain ⟨q202, h203, hF⟩ := bnd hF
        try dsimp only at hF
        refine q_callVi C [.int (xs ((x3 + (1 : Int32)).toNatClampNeg))] (c_X11_ruled l D ad ca kz C.2.2.2.2.2.2.1 _ _ _ _ h203) tw_999 gm_X11_ruled pi_0.1 (pe_10 pi_0.2) rfl ⟨rfl, rfl⟩ ⟨Nat.le_of_ble_eq_true rfl, Nat.le_of_ble_eq_true rfl⟩ rfl (Nat.le_of_ble_eq_true rfl) dL_law_934 hcs ?_
        refine q_aload_n C 2 dL_law_937 rfl rfl ?_
        refine q_aload_n C 0 dL_law_938 rfl rfl ?_
        refine q_iload_n C 3 dL_law_939 rfl rfl ?_
        refine q_iconst (v := 1) C dL_law_940 (by decide) ?_
        refine q_iadd C dL_law_941 ?_
        refine q_sld C hX hbl hbA (vp_of g201) dL_law_942 ?_
        obtain ⟨q204, h205, hF⟩ := bnd hF
        try dsimp only at hF
        refine q_callVi C [.int (xs ((x3 + (1 : Int32)).toNatClampNeg))] (c_X12_ruled l D ad ca kz C.2.2.2.2.2.2.1 _ _ _ _ h205) tw_1623 gm_X12_ruled pi_249.1 (pe_11 pi_249.2) rfl ⟨rfl, rfl⟩ ⟨Nat.le_of_ble_eq_true rfl, Nat.le_of_ble_eq_true rfl⟩ rfl (Nat.le_of_ble_eq_true rfl) dL_law_943 hcs ?_
        refine q_icmp_eq (tgt := 1119) C dL_law_946 (by decide) (fun c206 => ?_) (fun c206 => ?_)
        · replace hF := ift c206 hF
          refine q_iinc C 3 [(3, .int (x3 + 6)), (0, .ref b), (1, .ref (ad (0))), (2, .ref (ad (249)))] dL_law_1119 rfl rfl (by decide) rfl ?_
          refine q_goto (tgt := 18) C dL_law_1122 (by decide) ?_
          refine q_sub [1, 2, 3, 0] rfl ?_
          exact ih _ _ hF
        · replace hF := ife c206 hF
          exact nomatch hF
      replace hF := ife c200 hF
      by_cases c207 : ((xs (x3.toNatClampNeg)) &&& (63 : Int32)) = (27 : Int32)
      · replace hF := ift c207 hF
        refine q_tableIn (off := 918) (tgt := 951) C dL_law_33 (by rw [c207]; decide) (by rw [c207]; decide) (by rw [c207] <;> rfl) (by decide) ?_
        refine q_aload_n C 1 dL_law_951 rfl rfl ?_
        refine q_aload_n C 0 dL_law_952 rfl rfl ?_
        refine q_iload_n C 3 dL_law_953 rfl rfl ?_
        refine q_iconst (v := 1) C dL_law_954 (by decide) ?_
        refine q_iadd C dL_law_955 ?_
        obtain ⟨g208, hF⟩ := grd hF
        refine q_sld C hX hbl hbA (vp_of g208) dL_law_956 ?_
        obtain ⟨q209, h210, hF⟩ := bnd hF
        try dsimp only at hF
        refine q_callVi C [.int (xs ((x3 + (1 : Int32)).toNatClampNeg))] (c_X11_look l D ad ca kz C.2.2.2.2.2.2.1 _ _ _ _ h210) tw_1021 gm_X11_look pi_0.1 (pe_10 pi_0.2) rfl ⟨rfl, rfl⟩ ⟨Nat.le_of_ble_eq_true rfl, Nat.le_of_ble_eq_true rfl⟩ rfl (Nat.le_of_ble_eq_true rfl) dL_law_957 hcs ?_
        refine q_aload_n C 2 dL_law_960 rfl rfl ?_
        refine q_aload_n C 0 dL_law_961 rfl rfl ?_
        refine q_iload_n C 3 dL_law_962 rfl rfl ?_
        refine q_iconst (v := 1) C dL_law_963 (by decide) ?_
        refine q_iadd C dL_law_964 ?_
        refine q_sld C hX hbl hbA (vp_of g208) dL_law_965 ?_
        obtain ⟨q211, h212, hF⟩ := bnd hF
        try dsimp only at hF
        refine q_callVi C [.int (xs ((x3 + (1 : Int32)).toNatClampNeg))] (c_X12_look l D ad ca kz C.2.2.2.2.2.2.1 _ _ _ _ h212) tw_1638 gm_X12_look pi_249.1 (pe_11 pi_249.2) rfl ⟨rfl, rfl⟩ ⟨Nat.le_of_ble_eq_true rfl, Nat.le_of_ble_eq_true rfl⟩ rfl (Nat.le_of_ble_eq_true rfl) dL_law_966 hcs ?_
        refine q_icmp_eq (tgt := 1119) C dL_law_969 (by decide) (fun c213 => ?_) (fun c213 => ?_)
        · replace hF := ift c213 hF
          refine q_iinc C 3 [(3, .int (x3 + 6)), (0, .ref b), (1, .ref (ad (0))), (2, .ref (ad (249)))] dL_law_1119 rfl rfl (by decide) rfl ?_
          refine q_goto (tgt := 18) C dL_law_1122 (by decide) ?_
          refine q_sub [1, 2, 3, 0] rfl ?_
          exact ih _ _ hF
        · replace hF := ife c213 hF
          exact nomatch hF
      replace hF := ife c207 hF
      by_cases c214 : ((xs (x3.toNatClampNeg)) &&& (63 : Int32)) = (28 : Int32)
      · replace hF := ift c214 hF
        refine q_tableIn (off := 941) (tgt := 974) C dL_law_33 (by rw [c214]; decide) (by rw [c214]; decide) (by rw [c214] <;> rfl) (by decide) ?_
        refine q_aload_n C 1 dL_law_974 rfl rfl ?_
        refine q_aload_n C 0 dL_law_975 rfl rfl ?_
        refine q_iload_n C 3 dL_law_976 rfl rfl ?_
        refine q_iconst (v := 1) C dL_law_977 (by decide) ?_
        refine q_iadd C dL_law_978 ?_
        obtain ⟨g215, hF⟩ := grd hF
        refine q_sld C hX hbl hbA (vp_of g215) dL_law_979 ?_
        obtain ⟨q216, h217, hF⟩ := bnd hF
        try dsimp only at hF
        refine q_callVi C [.int (xs ((x3 + (1 : Int32)).toNatClampNeg))] (c_X11_seed l D ad ca kz C.2.2.2.2.2.2.1 _ _ _ _ h217) tw_921 gm_X11_seed pi_0.1 (pe_10 pi_0.2) rfl ⟨rfl, rfl⟩ ⟨Nat.le_of_ble_eq_true rfl, Nat.le_of_ble_eq_true rfl⟩ rfl (Nat.le_of_ble_eq_true rfl) dL_law_980 hcs ?_
        refine q_aload_n C 2 dL_law_983 rfl rfl ?_
        refine q_aload_n C 0 dL_law_984 rfl rfl ?_
        refine q_iload_n C 3 dL_law_985 rfl rfl ?_
        refine q_iconst (v := 1) C dL_law_986 (by decide) ?_
        refine q_iadd C dL_law_987 ?_
        refine q_sld C hX hbl hbA (vp_of g215) dL_law_988 ?_
        obtain ⟨q218, h219, hF⟩ := bnd hF
        try dsimp only at hF
        refine q_callVi C [.int (xs ((x3 + (1 : Int32)).toNatClampNeg))] (c_X12_seed l D ad ca kz C.2.2.2.2.2.2.1 _ _ _ _ h219) tw_1646 gm_X12_seed pi_249.1 (pe_11 pi_249.2) rfl ⟨rfl, rfl⟩ ⟨Nat.le_of_ble_eq_true rfl, Nat.le_of_ble_eq_true rfl⟩ rfl (Nat.le_of_ble_eq_true rfl) dL_law_989 hcs ?_
        refine q_icmp_eq (tgt := 1119) C dL_law_992 (by decide) (fun c220 => ?_) (fun c220 => ?_)
        · replace hF := ift c220 hF
          refine q_iinc C 3 [(3, .int (x3 + 6)), (0, .ref b), (1, .ref (ad (0))), (2, .ref (ad (249)))] dL_law_1119 rfl rfl (by decide) rfl ?_
          refine q_goto (tgt := 18) C dL_law_1122 (by decide) ?_
          refine q_sub [1, 2, 3, 0] rfl ?_
          exact ih _ _ hF
        · replace hF := ife c220 hF
          exact nomatch hF
      replace hF := ife c214 hF
      by_cases c221 : ((xs (x3.toNatClampNeg)) &&& (63 : Int32)) = (29 : Int32)
      · replace hF := ift c221 hF
        refine q_tableIn (off := 964) (tgt := 997) C dL_law_33 (by rw [c221]; decide) (by rw [c221]; decide) (by rw [c221] <;> rfl) (by decide) ?_
        refine q_aload_n C 1 dL_law_997 rfl rfl ?_
        refine q_aload_n C 0 dL_law_998 rfl rfl ?_
        refine q_iload_n C 3 dL_law_999 rfl rfl ?_
        refine q_iconst (v := 1) C dL_law_1000 (by decide) ?_
        refine q_iadd C dL_law_1001 ?_
        obtain ⟨g222, hF⟩ := grd hF
        refine q_sld C hX hbl hbA (vp_of g222) dL_law_1002 ?_
        refine q_aload_n C 0 dL_law_1003 rfl rfl ?_
        refine q_iload_n C 3 dL_law_1004 rfl rfl ?_
        refine q_iconst (v := 2) C dL_law_1005 (by decide) ?_
        refine q_iadd C dL_law_1006 ?_
        obtain ⟨g223, hF⟩ := grd hF
        refine q_sld C hX hbl hbA (vp_of g223) dL_law_1007 ?_
        refine q_aload_n C 0 dL_law_1008 rfl rfl ?_
        refine q_iload_n C 3 dL_law_1009 rfl rfl ?_
        refine q_iconst (v := 3) C dL_law_1010 (by decide) ?_
        refine q_iadd C dL_law_1011 ?_
        obtain ⟨g224, hF⟩ := grd hF
        refine q_sld C hX hbl hbA (vp_of g224) dL_law_1012 ?_
        refine q_aload_n C 0 dL_law_1013 rfl rfl ?_
        refine q_iload_n C 3 dL_law_1014 rfl rfl ?_
        refine q_iconst (v := 4) C dL_law_1015 (by decide) ?_
        refine q_iadd C dL_law_1016 ?_
        obtain ⟨g225, hF⟩ := grd hF
        refine q_sld C hX hbl hbA (vp_of g225) dL_law_1017 ?_
        obtain ⟨q226, h227, hF⟩ := bnd hF
        try dsimp only at hF
        refine q_callVi C [.int (xs ((x3 + (1 : Int32)).toNatClampNeg)), .int (xs ((x3 + (2 : Int32)).toNatClampNeg)), .int (xs ((x3 + (3 : Int32)).toNatClampNeg)), .int (xs ((x3 + (4 : Int32)).toNatClampNeg))] (c_X11_winds l D ad ca kz C.2.2.2.2.2.2.1 _ _ _ _ _ _ _ h227) tw_899 gm_X11_winds pi_0.1 (pe_10 pi_0.2) rfl ⟨rfl, rfl⟩ ⟨Nat.le_of_ble_eq_true rfl, Nat.le_of_ble_eq_true rfl⟩ rfl (Nat.le_of_ble_eq_true rfl) dL_law_1018 hcs ?_
        refine q_aload_n C 2 dL_law_1021 rfl rfl ?_
        refine q_aload_n C 0 dL_law_1022 rfl rfl ?_
        refine q_iload_n C 3 dL_law_1023 rfl rfl ?_
        refine q_iconst (v := 1) C dL_law_1024 (by decide) ?_
        refine q_iadd C dL_law_1025 ?_
        refine q_sld C hX hbl hbA (vp_of g222) dL_law_1026 ?_
        refine q_aload_n C 0 dL_law_1027 rfl rfl ?_
        refine q_iload_n C 3 dL_law_1028 rfl rfl ?_
        refine q_iconst (v := 2) C dL_law_1029 (by decide) ?_
        refine q_iadd C dL_law_1030 ?_
        refine q_sld C hX hbl hbA (vp_of g223) dL_law_1031 ?_
        refine q_aload_n C 0 dL_law_1032 rfl rfl ?_
        refine q_iload_n C 3 dL_law_1033 rfl rfl ?_
        refine q_iconst (v := 3) C dL_law_1034 (by decide) ?_
        refine q_iadd C dL_law_1035 ?_
        refine q_sld C hX hbl hbA (vp_of g224) dL_law_1036 ?_
        refine q_aload_n C 0 dL_law_1037 rfl rfl ?_
        refine q_iload_n C 3 dL_law_1038 rfl rfl ?_
        refine q_iconst (v := 4) C dL_law_1039 (by decide) ?_
        refine q_iadd C dL_law_1040 ?_
        refine q_sld C hX hbl hbA (vp_of g225) dL_law_1041 ?_
        obtain ⟨q228, h229, hF⟩ := bnd hF
        try dsimp only at hF
        refine q_callVi C [.int (xs ((x3 + (1 : Int32)).toNatClampNeg)), .int (xs ((x3 + (2 : Int32)).toNatClampNeg)), .int (xs ((x3 + (3 : Int32)).toNatClampNeg)), .int (xs ((x3 + (4 : Int32)).toNatClampNeg))] (c_X12_winds l D ad ca kz C.2.2.2.2.2.2.1 _ _ _ _ _ _ _ h229) tw_1650 gm_X12_winds pi_249.1 (pe_11 pi_249.2) rfl ⟨rfl, rfl⟩ ⟨Nat.le_of_ble_eq_true rfl, Nat.le_of_ble_eq_true rfl⟩ rfl (Nat.le_of_ble_eq_true rfl) dL_law_1042 hcs ?_
        refine q_icmp_eq (tgt := 1119) C dL_law_1045 (by decide) (fun c230 => ?_) (fun c230 => ?_)
        · replace hF := ift c230 hF
          refine q_iinc C 3 [(3, .int (x3 + 6)), (0, .ref b), (1, .ref (ad (0))), (2, .ref (ad (249)))] dL_law_1119 rfl rfl (by decide) rfl ?_
          refine q_goto (tgt := 18) C dL_law_1122 (by decide) ?_
          refine q_sub [1, 2, 3, 0] rfl ?_
          exact ih _ _ hF
        · replace hF := ife c230 hF
          exact nomatch hF
      replace hF := ife c221 hF
      by_cases c231 : ((xs (x3.toNatClampNeg)) &&& (63 : Int32)) = (30 : Int32)
      · replace hF := ift c231 hF
        refine q_tableIn (off := 1017) (tgt := 1050) C dL_law_33 (by rw [c231]; decide) (by rw [c231]; decide) (by rw [c231] <;> rfl) (by decide) ?_
        refine q_aload_n C 1 dL_law_1050 rfl rfl ?_
        refine q_aload_n C 0 dL_law_1051 rfl rfl ?_
        refine q_iload_n C 3 dL_law_1052 rfl rfl ?_
        refine q_iconst (v := 1) C dL_law_1053 (by decide) ?_
        refine q_iadd C dL_law_1054 ?_
        obtain ⟨g232, hF⟩ := grd hF
        refine q_sld C hX hbl hbA (vp_of g232) dL_law_1055 ?_
        obtain ⟨q233, h234, hF⟩ := bnd hF
        try dsimp only at hF
        refine q_callVi C [.int (xs ((x3 + (1 : Int32)).toNatClampNeg))] (c_X11_count l D ad ca kz C.2.2.2.2.2.2.1 _ _ _ _ h234) tw_683 gm_X11_count pi_0.1 (pe_10 pi_0.2) rfl ⟨rfl, rfl⟩ ⟨Nat.le_of_ble_eq_true rfl, Nat.le_of_ble_eq_true rfl⟩ rfl (Nat.le_of_ble_eq_true rfl) dL_law_1056 hcs ?_
        refine q_aload_n C 2 dL_law_1059 rfl rfl ?_
        refine q_aload_n C 0 dL_law_1060 rfl rfl ?_
        refine q_iload_n C 3 dL_law_1061 rfl rfl ?_
        refine q_iconst (v := 1) C dL_law_1062 (by decide) ?_
        refine q_iadd C dL_law_1063 ?_
        refine q_sld C hX hbl hbA (vp_of g232) dL_law_1064 ?_
        obtain ⟨q235, h236, hF⟩ := bnd hF
        try dsimp only at hF
        refine q_callVi C [.int (xs ((x3 + (1 : Int32)).toNatClampNeg))] (c_X12_count l D ad ca kz C.2.2.2.2.2.2.1 _ _ _ _ h236) tw_1667 gm_X12_count pi_249.1 (pe_11 pi_249.2) rfl ⟨rfl, rfl⟩ ⟨Nat.le_of_ble_eq_true rfl, Nat.le_of_ble_eq_true rfl⟩ rfl (Nat.le_of_ble_eq_true rfl) dL_law_1065 hcs ?_
        refine q_icmp_eq (tgt := 1119) C dL_law_1068 (by decide) (fun c237 => ?_) (fun c237 => ?_)
        · replace hF := ift c237 hF
          refine q_iinc C 3 [(3, .int (x3 + 6)), (0, .ref b), (1, .ref (ad (0))), (2, .ref (ad (249)))] dL_law_1119 rfl rfl (by decide) rfl ?_
          refine q_goto (tgt := 18) C dL_law_1122 (by decide) ?_
          refine q_sub [1, 2, 3, 0] rfl ?_
          exact ih _ _ hF
        · replace hF := ife c237 hF
          exact nomatch hF
      replace hF := ife c231 hF
      by_cases c238 : ((xs (x3.toNatClampNeg)) &&& (63 : Int32)) = (31 : Int32)
      · replace hF := ift c238 hF
        refine q_tableIn (off := 1040) (tgt := 1073) C dL_law_33 (by rw [c238]; decide) (by rw [c238]; decide) (by rw [c238] <;> rfl) (by decide) ?_
        refine q_aload_n C 1 dL_law_1073 rfl rfl ?_
        refine q_aload_n C 0 dL_law_1074 rfl rfl ?_
        refine q_iload_n C 3 dL_law_1075 rfl rfl ?_
        refine q_iconst (v := 1) C dL_law_1076 (by decide) ?_
        refine q_iadd C dL_law_1077 ?_
        obtain ⟨g239, hF⟩ := grd hF
        refine q_sld C hX hbl hbA (vp_of g239) dL_law_1078 ?_
        obtain ⟨q240, h241, hF⟩ := bnd hF
        try dsimp only at hF
        refine q_callVi C [.int (xs ((x3 + (1 : Int32)).toNatClampNeg))] (c_X11_image l D ad ca kz C.2.2.2.2.2.2.1 _ _ _ _ h241) tw_1034 gm_X11_image pi_0.1 (pe_10 pi_0.2) rfl ⟨rfl, rfl⟩ ⟨Nat.le_of_ble_eq_true rfl, Nat.le_of_ble_eq_true rfl⟩ rfl (Nat.le_of_ble_eq_true rfl) dL_law_1079 hcs ?_
        refine q_aload_n C 2 dL_law_1082 rfl rfl ?_
        refine q_aload_n C 0 dL_law_1083 rfl rfl ?_
        refine q_iload_n C 3 dL_law_1084 rfl rfl ?_
        refine q_iconst (v := 1) C dL_law_1085 (by decide) ?_
        refine q_iadd C dL_law_1086 ?_
        refine q_sld C hX hbl hbA (vp_of g239) dL_law_1087 ?_
        obtain ⟨q242, h243, hF⟩ := bnd hF
        try dsimp only at hF
        refine q_callVi C [.int (xs ((x3 + (1 : Int32)).toNatClampNeg))] (c_X12_image l D ad ca kz C.2.2.2.2.2.2.1 _ _ _ _ h243) tw_1671 gm_X12_image pi_249.1 (pe_11 pi_249.2) rfl ⟨rfl, rfl⟩ ⟨Nat.le_of_ble_eq_true rfl, Nat.le_of_ble_eq_true rfl⟩ rfl (Nat.le_of_ble_eq_true rfl) dL_law_1088 hcs ?_
        refine q_icmp_eq (tgt := 1119) C dL_law_1091 (by decide) (fun c244 => ?_) (fun c244 => ?_)
        · replace hF := ift c244 hF
          refine q_iinc C 3 [(3, .int (x3 + 6)), (0, .ref b), (1, .ref (ad (0))), (2, .ref (ad (249)))] dL_law_1119 rfl rfl (by decide) rfl ?_
          refine q_goto (tgt := 18) C dL_law_1122 (by decide) ?_
          refine q_sub [1, 2, 3, 0] rfl ?_
          exact ih _ _ hF
        · replace hF := ife c244 hF
          exact nomatch hF
      replace hF := ife c238 hF
      by_cases c245 : ((xs (x3.toNatClampNeg)) &&& (63 : Int32)) = (32 : Int32)
      · replace hF := ift c245 hF
        refine q_tableIn (off := 1063) (tgt := 1096) C dL_law_33 (by rw [c245]; decide) (by rw [c245]; decide) (by rw [c245] <;> rfl) (by decide) ?_
        refine q_aload_n C 1 dL_law_1096 rfl rfl ?_
        refine q_aload_n C 0 dL_law_1097 rfl rfl ?_
        refine q_iload_n C 3 dL_law_1098 rfl rfl ?_
        refine q_iconst (v := 1) C dL_law_1099 (by decide) ?_
        refine q_iadd C dL_law_1100 ?_
        obtain ⟨g246, hF⟩ := grd hF
        refine q_sld C hX hbl hbA (vp_of g246) dL_law_1101 ?_
        obtain ⟨q247, h248, hF⟩ := bnd hF
        try dsimp only at hF
        refine q_callVi C [.int (xs ((x3 + (1 : Int32)).toNatClampNeg))] (c_X11_back l D ad ca kz C.2.2.2.2.2.2.1 _ _ _ _ h248) tw_1043 gm_X11_back pi_0.1 (pe_10 pi_0.2) rfl ⟨rfl, rfl⟩ ⟨Nat.le_of_ble_eq_true rfl, Nat.le_of_ble_eq_true rfl⟩ rfl (Nat.le_of_ble_eq_true rfl) dL_law_1102 hcs ?_
        refine q_aload_n C 2 dL_law_1105 rfl rfl ?_
        refine q_aload_n C 0 dL_law_1106 rfl rfl ?_
        refine q_iload_n C 3 dL_law_1107 rfl rfl ?_
        refine q_iconst (v := 1) C dL_law_1108 (by decide) ?_
        refine q_iadd C dL_law_1109 ?_
        refine q_sld C hX hbl hbA (vp_of g246) dL_law_1110 ?_
        obtain ⟨q249, h250, hF⟩ := bnd hF
        try dsimp only at hF
        refine q_callVi C [.int (xs ((x3 + (1 : Int32)).toNatClampNeg))] (c_X12_back l D ad ca kz C.2.2.2.2.2.2.1 _ _ _ _ h250) tw_1675 gm_X12_back pi_249.1 (pe_11 pi_249.2) rfl ⟨rfl, rfl⟩ ⟨Nat.le_of_ble_eq_true rfl, Nat.le_of_ble_eq_true rfl⟩ rfl (Nat.le_of_ble_eq_true rfl) dL_law_1111 hcs ?_
        refine q_icmp_eq (tgt := 1119) C dL_law_1114 (by decide) (fun c251 => ?_) (fun c251 => ?_)
        · replace hF := ift c251 hF
          refine q_iinc C 3 [(3, .int (x3 + 6)), (0, .ref b), (1, .ref (ad (0))), (2, .ref (ad (249)))] dL_law_1119 rfl rfl (by decide) rfl ?_
          refine q_goto (tgt := 18) C dL_law_1122 (by decide) ?_
          refine q_sub [1, 2, 3, 0] rfl ?_
          exact ih _ _ hF
        · replace hF := ife c251 hF
          exact nomatch hF
      replace hF := ife c245 hF
      refine q_tableOut (tgt := 1119) C dL_law_33 (by have ec3 := sw_ne c3; have ec14 := sw_ne c14; have ec21 := sw_ne c21; have ec27 := sw_ne c27; have ec33 := sw_ne c33; have ec40 := sw_ne c40; have ec48 := sw_ne c48; have ec56 := sw_ne c56; have ec62 := sw_ne c62; have ec69 := sw_ne c69; have ec77 := sw_ne c77; have ec85 := sw_ne c85; have ec92 := sw_ne c92; have ec98 := sw_ne c98; have ec107 := sw_ne c107; have ec114 := sw_ne c114; have ec121 := sw_ne c121; have ec128 := sw_ne c128; have ec135 := sw_ne c135; have ec143 := sw_ne c143; have ec151 := sw_ne c151; have ec160 := sw_ne c160; have ec168 := sw_ne c168; have ec176 := sw_ne c176; have ec185 := sw_ne c185; have ec192 := sw_ne c192; have ec200 := sw_ne c200; have ec207 := sw_ne c207; have ec214 := sw_ne c214; have ec221 := sw_ne c221; have ec231 := sw_ne c231; have ec238 := sw_ne c238; have ec245 := sw_ne c245; simp only [sw_lit] at ec3 ec14 ec21 ec27 ec33 ec40 ec48 ec56 ec62 ec69 ec77 ec85 ec92 ec98 ec107 ec114 ec121 ec128 ec135 ec143 ec151 ec160 ec168 ec176 ec185 ec192 ec200 ec207 ec214 ec221 ec231 ec238 ec245; omega) (by decide) ?_
      refine q_iinc C 3 [(3, .int (x3 + 6)), (0, .ref b), (1, .ref (ad (0))), (2, .ref (ad (249)))] dL_law_1119 rfl rfl (by decide) rfl ?_
      refine q_goto (tgt := 18) C dL_law_1122 (by decide) ?_
      refine q_sub [1, 2, 3, 0] rfl ?_
      exact ih _ _ hF
