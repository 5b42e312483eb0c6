theorem jz_law (xs : Nat → Int) (L : Int) (hxs : ∀ k, jx_in (xs k)) (h0 : 0 ≤ L) (hL : L ≤ 3584) : jx_AW 191 10 jm_l [] (jm_1 xs L) (fun z _ => z = 1) := sorry
