theorem pure_main (L : Nat) (xs : Nat → Int32) (hL : L ≤ 3072) : ∃ (n : Nat) (o : PS), LL n xs L n 0 s0 = some o := pure_of (fun _ a b _ hn hi => K_cut hn a b hi) L xs hL
