theorem pb_whole (x : pb_E) (hL : x.2.2.2.2.2.1 ≤ 2048) : pb_WJ x i_W_law 0 (fun v _ => v = .inl 1) 0 [some (.inr 1000000), none, none, none] [] 0 (fun _ _ _ => 0) := pb_whole0 hL (fun _ => rfl)
