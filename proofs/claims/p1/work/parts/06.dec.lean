/-! (the decode rows stand with the methods) -/
