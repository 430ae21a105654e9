/-! CONSTRUCTORS: memories -/
theorem nwR_len (M : zM) (e j c n : Nat) : (nwR M e j c n).2.2.2 = M.2.2.2 ++ [(c, n)] := rfl
theorem m2_sh : m2.2.2.2 = List.replicate 16 (7, 0) ++ [(0, 11), (0, 1), (2, 64), (2, 64), (2, 128), (2, 512), (2, 64), (2, 64)] := rfl
