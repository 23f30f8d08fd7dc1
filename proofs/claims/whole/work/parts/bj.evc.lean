/-! THE START: each object, by evaluation -/
theorem ckO_236 : ckO hS 236 0 = true := by decide +kernel
theorem ckO_257 : ckO hS 257 1 = true := by decide +kernel
theorem ckO_258 : ckO hS 258 0 = true := by decide +kernel
theorem ckO_279 : ckO hS 279 3 = true := by decide +kernel
theorem ckO_280 : ckO hS 280 0 = true := by decide +kernel
theorem ckO_294 : ckO hS 294 7 = true := by decide +kernel
theorem ckO_299 : ckO hS 299 6 = true := by decide +kernel
theorem ckO_302 : ckO hS 302 2 = true := by decide +kernel
theorem ckO_305 : ckO hS 305 13 = true := by decide +kernel
