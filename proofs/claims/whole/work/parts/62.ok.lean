/-! (its rows stand in 01n) -/
