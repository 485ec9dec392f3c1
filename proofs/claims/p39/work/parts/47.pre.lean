/-! contracts -/
def zaI : zV := .inr (.inr (.inr (.inl (-2147483648, 2147483647))))
