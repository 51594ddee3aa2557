theorem law_pure : LawPure := law_pure_ok
