/-! THE REFERENCE'S ENDINGS: rows -/
theorem nX12_reached_23 {mc ms : Nat} {X : Nat → zV} {Q : zQt} {M : zM} {x1 x2 : Int32} (h : X 63 0 0 [] [.int (-1)] M) : aX12_reached_23 mc ms X Q 0 0 [some (.ref 71), some (.int x1), some (.int x2), none] [.null] M := h
theorem nkX12_reached_23 {mc ms : Nat} {X : Nat → zV} {Q : zQt} {M : zM} {x1 x2 : Int32} (h : X 23 0 0 [.ref 71, .int x1, .int x2] [.null] M) : kX12_reached_23 mc ms X Q 0 0 [some (.ref 71), some (.int x1), some (.int x2), none] [.null] M := h
theorem nX12_rowOf_52 {mc ms : Nat} {X : Nat → zV} {Q : zQt} {M : zM} (h : Q (some .null) M) : aX12_rowOf_52 mc ms X Q 0 0 [none, none] [.null] M := h
