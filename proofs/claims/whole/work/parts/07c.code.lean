/-! code words: put together -/
theorem xcode_ok {k : Nat} (h : k < 429) : Cond.code (xY k) (xB k) (xM k) (xR k) ∈ xTS := by
  by_cases h0 : k < 40
  · exact xcds_0 k (by simp only [List.mem_cons, List.not_mem_nil, or_false]; omega)
  by_cases h1 : k < 80
  · exact xcds_1 k (by simp only [List.mem_cons, List.not_mem_nil, or_false]; omega)
  by_cases h2 : k < 120
  · exact xcds_2 k (by simp only [List.mem_cons, List.not_mem_nil, or_false]; omega)
  by_cases h3 : k < 160
  · exact xcds_3 k (by simp only [List.mem_cons, List.not_mem_nil, or_false]; omega)
  by_cases h4 : k < 200
  · exact xcds_4 k (by simp only [List.mem_cons, List.not_mem_nil, or_false]; omega)
  by_cases h5 : k < 240
  · exact xcds_5 k (by simp only [List.mem_cons, List.not_mem_nil, or_false]; omega)
  by_cases h6 : k < 280
  · exact xcds_6 k (by simp only [List.mem_cons, List.not_mem_nil, or_false]; omega)
  by_cases h7 : k < 320
  · exact xcds_7 k (by simp only [List.mem_cons, List.not_mem_nil, or_false]; omega)
  by_cases h8 : k < 360
  · exact xcds_8 k (by simp only [List.mem_cons, List.not_mem_nil, or_false]; omega)
  by_cases h9 : k < 400
  · exact xcds_9 k (by simp only [List.mem_cons, List.not_mem_nil, or_false]; omega)
  by_cases h10 : k < 429
  · exact xcds_10 k (by simp only [List.mem_cons, List.not_mem_nil, or_false]; omega)
  omega
