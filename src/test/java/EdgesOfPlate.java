/** Promises 19 to 24: each sentence that names a boundary case has a test of its own. */
public final class EdgesOfPlate extends Edge {
  private static final int PLATE = 0, WHOLE = 1, WEAR = 2, LEAST = 3;

  private static Setup crewAnd(int crew, Setup more) {
    return x -> {
      x.crew(crew);
      more.on(x);
    };
  }

  private static Setup allLots(int what, int v) {
    return x -> { for (int lot = 0; lot < 4; lot++) x.lot(lot, what, v); };
  }

  private static void lot() {
    range(19, "lot", 0, 3, UNKNOWN, (x, v) -> x.lot(v, PLATE, 5));
    range(19, "what", 0, 3, OUTSIDE, (x, v) -> x.lot(0, v, 5));
    String[] name = {"PLATE", "FULL", "WEAR", "LEAST"};
    int[] low = {0, 1, 0, 0}, high = {200, 200, 99, 100}, first = {100, 100, 10, 20};
    for (int what = 0; what < 4; what++) {
      int w = what;
      range(19, name[w], low[w], high[w], OUTSIDE, (x, v) -> x.lot(1, w, v));
      for (int lot = 0; lot < 4; lot++) {
        int l = lot;
        holds(19, name[w] + " at first, LOT " + l, first[w], NOTHING, x -> x.lot(l, w, 5));
        holds(19, name[w] + " is its own, LOT " + l, 11 * l + w + 1, x -> {
          for (int i = 0; i < 16; i++) x.lot(i / 4, i % 4, 11 * (i / 4) + i % 4 + 1);
        }, x -> x.lot(l, w, 5));
      }
      holds(19, name[w] + ": what it was, the lower end", low[w], x -> x.lot(3, w, low[w]), x -> x.lot(3, w, high[w]));
      holds(19, name[w] + ": what it was, the upper end", high[w], x -> x.lot(3, w, high[w]), x -> x.lot(3, w, low[w]));
    }
    refuses(19, "UNKNOWN goes ahead of OUTSIDE (what)", UNKNOWN, SOMETHING, x -> x.lot(4, 4, 5));
    refuses(19, "UNKNOWN goes ahead of OUTSIDE (v)", UNKNOWN, SOMETHING, x -> x.lot(-1, 0, 201));
    holds(19, "PLATE may be above FULL: taken", 100, x -> x.lot(0, WHOLE, 1), x -> x.lot(0, PLATE, 200));
    holds(19, "PLATE may be above FULL: stays", 200, x -> {
      x.lot(0, PLATE, 200);
      x.lot(0, WHOLE, 1);
    }, x -> x.lot(0, PLATE, 5));
    holds(19, "LEAST may be above FULL", 20, x -> x.lot(0, WHOLE, 1), x -> x.lot(0, LEAST, 100));
  }

  private static void crew() {
    range(20, "n", 0, 4, OUTSIDE, (x, v) -> x.crew(v));
    holds(20, "1 at first", 1, NOTHING, x -> x.crew(3));
    holds(20, "what it was, 0", 0, x -> x.crew(0), x -> x.crew(4));
    holds(20, "what it was, 4", 4, x -> x.crew(4), x -> x.crew(0));
    for (int n = 0; n <= 4; n++) {
      int crew = n;
      holds(20, "at most: a CREW of " + n + " for as many", n, crewAnd(n, x -> {
        for (int lot = 0; lot < crew; lot++) x.lot(lot, PLATE, 0);
      }), x -> x.plan(1));
      if (n == 4) continue;
      holds(20, "at most: a CREW of " + n + " for one more", NONE, crewAnd(n, x -> {
        for (int lot = 0; lot <= crew; lot++) x.lot(lot, PLATE, 0);
      }), x -> x.plan(1));
    }
  }

  /** One LOT that is not as at first. */
  private static Setup one(int plate, int whole, int wear, int least) {
    return x -> {
      x.lot(2, PLATE, plate);
      x.lot(2, WHOLE, whole);
      x.lot(2, WEAR, wear);
      x.lot(2, LEAST, least);
    };
  }

  private static void plan() {
    range(21, "months", 1, 8, OUTSIDE, (x, v) -> x.plan(v));
    holds(21, "as at first eight months are just enough", 0, NOTHING, x -> x.plan(8));
    holds(21, "1 less PLATE is not", 1, x -> x.lot(0, PLATE, 99), x -> x.plan(8));
    holds(21, "1 less PLATE is enough for seven", 0, x -> x.lot(0, PLATE, 99), x -> x.plan(7));
    holds(21, "1 more LEAST is not", 1, x -> x.lot(0, LEAST, 21), x -> x.plan(8));
    holds(21, "PLATE is LEAST after the month", 0, one(30, 100, 10, 20), x -> x.plan(1));
    holds(21, "PLATE is 1 below LEAST after the month", 1, one(29, 100, 10, 20), x -> x.plan(1));
    holds(21, "FULL is LEAST after the month", 1, one(0, 30, 10, 20), x -> x.plan(1));
    holds(21, "FULL is 1 below LEAST after the month", NONE, one(0, 29, 10, 20), x -> x.plan(1));
    holds(21, "FULL is too little, but PLATE lasts", 0, one(40, 29, 10, 20), x -> x.plan(2));
    holds(21, "FULL is too little, and PLATE lasts no more", NONE, one(40, 29, 10, 20), x -> x.plan(3));
    holds(21, "never below 0: LEAST 0 is met by PLATE 0", 0, one(0, 1, 99, 0), x -> x.plan(8));
    holds(21, "never below 0: LEAST 1 is not", 1, one(0, 200, 24, 1), x -> x.plan(8));
    holds(21, "a WEAR of 1, PLATE is 1 above LEAST: one month", 0, one(21, 100, 1, 20), x -> x.plan(1));
    holds(21, "a WEAR of 1, PLATE is 1 above LEAST: two months", 1, one(21, 100, 1, 20), x -> x.plan(2));
    holds(21, "no WEAR, PLATE is LEAST", 0, one(20, 100, 0, 20), x -> x.plan(8));
    holds(21, "no WEAR, PLATE is below LEAST", 1, one(19, 100, 0, 20), x -> x.plan(8));
    holds(21, "the greatest LEAST and WEAR, FULL is just enough", 8, one(0, 199, 99, 100), x -> x.plan(8));
    holds(21, "the greatest LEAST and WEAR, FULL is 1 less", NONE, one(0, 198, 99, 100), x -> x.plan(1));
    holds(21, "PLATE above FULL lasts longer: not replated", 0, one(200, 30, 10, 20), x -> x.plan(8));
    holds(21, "a CREW of 0, nothing needed", 0, x -> x.crew(0), x -> x.plan(8));
    holds(21, "a CREW of 0, one needed", NONE, crewAnd(0, x -> x.lot(0, PLATE, 99)), x -> x.plan(8));
    holds(21, "two in one month, one goes early", 2, x -> {
      x.lot(0, PLATE, 30);
      x.lot(1, PLATE, 30);
    }, x -> x.plan(2));
    holds(21, "two in the first month are too many for one", NONE, x -> {
      x.lot(0, PLATE, 29);
      x.lot(1, PLATE, 29);
    }, x -> x.plan(1));
    holds(21, "all four each month", 32, crewAnd(4, x -> {
      allLots(PLATE, 0).on(x);
      allLots(WHOLE, 30).on(x);
    }), x -> x.plan(8));
    holds(21, "all four each month, but a CREW of three", NONE, crewAnd(3, x -> {
      allLots(PLATE, 0).on(x);
      allLots(WHOLE, 30).on(x);
    }), x -> x.plan(8));
    holds(21, "one month of all four", 4, crewAnd(4, allLots(PLATE, 0)), x -> x.plan(1));
    holds(21, "a PLAN is only thought of", 30, x -> {
      x.lot(0, PLATE, 30);
      x.plan(8);
    }, x -> x.lot(0, PLATE, 5));
    // LOT 0 lasts two months ahead of and behind each change; what changes is how long it lasts when replated.
    Setup asked = x -> {
      x.lot(0, PLATE, 40);
      x.plan(8);
    };
    holds(21, "LOT 0 lasts two months, then eight", 1, asked, x -> x.plan(8));
    holds(21, "what was asked ahead of a change of PLATE is not answered again", 0, x -> {
      asked.on(x);
      x.lot(0, PLATE, 100);
    }, x -> x.plan(8));
    holds(21, "nor ahead of a change of FULL", 3, x -> {
      asked.on(x);
      x.lot(0, WHOLE, 40);
    }, x -> x.plan(8));
    holds(21, "nor ahead of a change of WEAR", 2, x -> {
      asked.on(x);
      x.lot(0, WEAR, 20);
      x.lot(0, PLATE, 60);
    }, x -> x.plan(8));
    holds(21, "nor ahead of a change of LEAST", 2, x -> {
      asked.on(x);
      x.lot(0, LEAST, 60);
      x.lot(0, PLATE, 80);
    }, x -> x.plan(8));
    holds(21, "nor ahead of a change of CREW", NONE, x -> {
      asked.on(x);
      x.crew(0);
    }, x -> x.plan(8));
    holds(21, "nor ahead of a month", 4, crewAnd(4, x -> {
      x.plan(8);
      x.month(0);
    }), x -> x.plan(8));
  }

  private static void planned() {
    range(22, "months", 1, 8, OUTSIDE, (x, v) -> x.planned(v, 0));
    range(22, "i of one month", 0, 0, OUTSIDE, (x, v) -> x.planned(1, v));
    range(22, "i of three months", 0, 2, OUTSIDE, (x, v) -> x.planned(3, v));
    range(22, "i of eight months", 0, 7, OUTSIDE, (x, v) -> x.planned(8, v));
    refuses(22, "months 0 has no month at all", OUTSIDE, SOMETHING, x -> x.planned(0, 0));
    refuses(22, "months -1 and i -2", OUTSIDE, SOMETHING, x -> x.planned(-1, -2));
    refuses(22, "months wrap around", OUTSIDE, SOMETHING, x -> x.planned(MIN, MAX));
    Setup noPlan = crewAnd(0, allLots(PLATE, 0));
    for (int i = 0; i < 8; i++) {
      int month = i;
      holds(22, "there is no PLAN, month " + i, NONE, noPlan, x -> x.planned(8, month));
    }
    holds(22, "a PLAN that fails only in its last month is none from the first on", NONE,
        crewAnd(0, x -> x.lot(0, PLATE, 99)), x -> x.planned(8, 0));
    refuses(22, "OUTSIDE goes ahead of NONE", OUTSIDE, noPlan, x -> x.planned(8, 8));
    holds(22, "nothing needed: the empty set", 0, NOTHING, x -> x.planned(8, 7));
    holds(22, "needed in the last month only", 1, x -> x.lot(0, PLATE, 99), x -> x.planned(8, 7));
    holds(22, "needed in the last month only: not in the month ahead", 0, x -> x.lot(0, PLATE, 99), x -> x.planned(8, 6));
    holds(22, "the last LOT", 8, x -> x.lot(3, PLATE, 29), x -> x.planned(1, 0));
    holds(22, "all LOTS", 15, crewAnd(4, allLots(PLATE, 0)), x -> x.planned(8, 0));
    holds(22, "all LOTS in the last month", 15, crewAnd(4, allLots(PLATE, 99)), x -> x.planned(8, 7));
    Setup oneThree = x -> {
      x.lot(1, PLATE, 30);
      x.lot(3, PLATE, 30);
    };
    holds(22, "of like ones the least set of month 0", 2, oneThree, x -> x.planned(2, 0));
    holds(22, "then what is left in month 1", 8, oneThree, x -> x.planned(2, 1));
    holds(22, "a CREW of two: the least set of month 0 is empty", 0, crewAnd(2, oneThree), x -> x.planned(2, 0));
    holds(22, "a CREW of two: both in month 1", 10, crewAnd(2, oneThree), x -> x.planned(2, 1));
    Setup threeOfTwo = crewAnd(2, x -> {
      x.lot(0, PLATE, 30);
      x.lot(1, PLATE, 30);
      x.lot(2, PLATE, 30);
    });
    holds(22, "three for a CREW of two: the least one goes early", 1, threeOfTwo, x -> x.planned(2, 0));
    holds(22, "three for a CREW of two: the others then", 6, threeOfTwo, x -> x.planned(2, 1));
    // LOTS 0 and 1 must be replated in month 0 or 1; LOT 0 then lasts two months only, so LOT 1 has to go first.
    Setup lesserLastsLess = x -> {
      x.lot(0, PLATE, 30);
      x.lot(0, WHOLE, 40);
      x.lot(1, PLATE, 30);
    };
    holds(22, "the fewest goes ahead of the least set: month 0", 2, lesserLastsLess, x -> x.planned(3, 0));
    holds(22, "the fewest goes ahead of the least set: month 1", 1, lesserLastsLess, x -> x.planned(3, 1));
    holds(22, "replated again when it must be: month 2", 4, one(29, 40, 10, 20), x -> x.planned(4, 2));
    holds(22, "replated again when it must be: not ahead of it", 0, one(29, 40, 10, 20), x -> x.planned(4, 1));
    holds(22, "month by month, not the sets together", 0, x -> {
      x.lot(0, PLATE, 30);
      x.lot(1, PLATE, 40);
    }, x -> x.planned(3, 0));
  }

  private static void month() {
    range(23, "set", 0, 15, OUTSIDE, crewAnd(4, NOTHING), (x, v) -> x.month(v));
    for (int bit = 4; bit < 32; bit++) {
      int b = bit;
      refuses(23, "bit " + bit + " is no LOT", OUTSIDE, SOMETHING, x -> x.month(1 << b));
    }
    refuses(23, "a bit is no LOT among others that are", OUTSIDE, crewAnd(4, NOTHING), x -> x.month(17));
    refuses(23, "OUTSIDE goes ahead of STATE", OUTSIDE, x -> x.crew(0), x -> x.month(31));
    for (int crew = 0; crew <= 4; crew++) {
      int n = crew;
      holds(23, "as many as a CREW of " + n, 0, x -> x.crew(n), x -> x.month((1 << n) - 1));
      if (n < 4) refuses(23, "one more than a CREW of " + n, STATE, x -> x.crew(n), x -> x.month((2 << n) - 1));
    }
    refuses(23, "the last LOTS are more than CREW", STATE, NOTHING, x -> x.month(12));
    holds(23, "a refused month does not go by", 100, x -> x.month(3), x -> x.lot(0, PLATE, 5));
    holds(23, "PLATE is LEAST then: not below", 0, one(30, 100, 10, 20), x -> x.month(0));
    holds(23, "PLATE is 1 below LEAST then", 1, one(29, 100, 10, 20), x -> x.month(0));
    holds(23, "below LEAST ahead of it, not then", 0, one(0, 100, 10, 20), x -> x.month(4));
    holds(23, "all four are below", 4, allLots(PLATE, 29), x -> x.month(0));
    holds(23, "all four but one that is replated", 3, allLots(PLATE, 29), x -> x.month(8));
    holds(23, "PLATE loses its WEAR", 0, one(10, 100, 10, 20), x -> { x.month(0); return x.lot(2, PLATE, 5); });
    holds(23, "PLATE is never below 0", 0, one(9, 100, 10, 20), x -> { x.month(0); return x.lot(2, PLATE, 5); });
    holds(23, "PLATE 0 stays 0", 0, one(0, 100, 99, 20), x -> { x.month(0); return x.lot(2, PLATE, 5); });
    holds(23, "0 is not below a LEAST of 0", 0, one(0, 100, 99, 0), x -> x.month(0));
    holds(23, "0 is below a LEAST of 1", 1, one(0, 100, 99, 1), x -> x.month(0));
    holds(23, "replated first, then worn", 90, one(5, 100, 10, 20), x -> { x.month(4); return x.lot(2, PLATE, 5); });
    holds(23, "replated from above FULL", 20, one(200, 30, 10, 20), x -> { x.month(4); return x.lot(2, PLATE, 5); });
    holds(23, "not replated, above FULL", 190, one(200, 30, 10, 20), x -> { x.month(0); return x.lot(2, PLATE, 5); });
    holds(23, "replated, but FULL is less than WEAR", 0, one(50, 1, 99, 0), x -> { x.month(4); return x.lot(2, PLATE, 5); });
    holds(23, "no WEAR", 57, one(57, 100, 0, 20), x -> { x.month(0); return x.lot(2, PLATE, 5); });
    holds(23, "FULL stays as it is", 100, one(57, 100, 10, 20), x -> { x.month(4); return x.lot(2, WHOLE, 5); });
    for (int lot = 0; lot < 4; lot++) {
      int l = lot;
      holds(23, "bit " + l + " is LOT " + l, 90, allLots(PLATE, 50), x -> { x.month(1 << l); return x.lot(l, PLATE, 5); });
    }
  }

  private static Setup apart(int one, int other) {
    return x -> {
      x.lot(1, PLATE, one);
      x.lot(2, PLATE, other);
    };
  }

  private static void match() {
    range(24, "a", 0, 3, UNKNOWN, (x, v) -> x.match(v, 0, 5));
    range(24, "b", 0, 3, UNKNOWN, (x, v) -> x.match(0, v, 5));
    range(24, "apart", 0, 200, OUTSIDE, (x, v) -> x.match(0, 1, v));
    refuses(24, "UNKNOWN (a) goes ahead of OUTSIDE", UNKNOWN, SOMETHING, x -> x.match(4, 0, 201));
    refuses(24, "UNKNOWN (b) goes ahead of OUTSIDE", UNKNOWN, SOMETHING, x -> x.match(0, -1, -1));
    holds(24, "so much apart at most: just so", 1, apart(50, 70), x -> x.match(1, 2, 20));
    holds(24, "1 more apart", 0, apart(50, 71), x -> x.match(1, 2, 20));
    holds(24, "just so, the other way round", 1, apart(70, 50), x -> x.match(1, 2, 20));
    holds(24, "1 more apart, the other way round", 0, apart(71, 50), x -> x.match(1, 2, 20));
    holds(24, "0 apart, like ones", 1, apart(70, 70), x -> x.match(1, 2, 0));
    holds(24, "0 apart, 1 is too far", 0, apart(70, 71), x -> x.match(1, 2, 0));
    holds(24, "200 apart, as far as can be", 1, apart(0, 200), x -> x.match(1, 2, 200));
    holds(24, "199 apart, as far as can be", 0, apart(0, 200), x -> x.match(1, 2, 199));
    holds(24, "a LOT and itself", 1, NOTHING, x -> x.match(3, 3, 0));
    holds(24, "PLATES count, not FULL, WEAR or LEAST", 1, x -> {
      x.lot(1, WHOLE, 1);
      x.lot(1, WEAR, 99);
      x.lot(1, LEAST, 100);
    }, x -> x.match(0, 1, 0));
  }

  public static void main(String[] args) {
    lot();
    crew();
    plan();
    planned();
    month();
    match();
    end(19, 24);
  }
}
