/** Promises 13 to 18: each sentence that names a boundary case has a test of its own. */
public final class EdgesOfEvents extends Edge {

  private static Setup both(Setup one, Setup other) {
    return x -> {
      one.on(x);
      other.on(x);
    };
  }

  private static Setup kindsAnd(Setup more) {
    return both(TWO_KINDS, more);
  }

  /** Ten pieces of KIND 0 in HOUSE 0, none elsewhere. */
  private static Setup tenAnd(Setup more) {
    return kindsAnd(x -> {
      x.book(0, 0, 10);
      more.on(x);
    });
  }

  private static final Setup TWELVE_EVENTS = kindsAnd(x -> {
    for (int i = 0; i < 12; i++) x.event(50 - i, i % 5, i % 2, 7);
  });

  private static void farness() {
    range(13, "a", 0, 4, UNKNOWN, (x, v) -> x.farness(v, v == 0 ? 1 : 0, 5));
    range(13, "b", 0, 4, UNKNOWN, (x, v) -> x.farness(v == 0 ? 1 : 0, v, 5));
    range(13, "n", 0, 99, OUTSIDE, (x, v) -> x.farness(3, 1, v));
    for (int house = 0; house < 5; house++) {
      int h = house;
      refuses(13, "HOUSE " + h + " and itself are one", STATE, SOMETHING, x -> x.farness(h, h, 5));
    }
    refuses(13, "0, as it is, is STATE too", STATE, SOMETHING, x -> x.farness(2, 2, 0));
    refuses(13, "UNKNOWN goes ahead of OUTSIDE", UNKNOWN, SOMETHING, x -> x.farness(0, 5, 100));
    refuses(13, "UNKNOWN goes ahead of STATE", UNKNOWN, SOMETHING, x -> x.farness(5, 5, 5));
    refuses(13, "OUTSIDE goes ahead of STATE", OUTSIDE, SOMETHING, x -> x.farness(4, 4, 100));
    for (int a = 0; a < 5; a++) {
      for (int b = 0; b < 5; b++) {
        if (a == b) continue;
        int one = a, other = b;
        holds(13, "1 at first, " + a + " and " + b, 1, NOTHING, x -> x.farness(one, other, 5));
        holds(13, "told both ways at once, " + a + " and " + b, 99, x -> x.farness(one, other, 99), x -> x.farness(other, one, 0));
      }
    }
    holds(13, "what it was, 0", 0, x -> x.farness(0, 1, 0), x -> x.farness(0, 1, 99));
    holds(13, "others stay as they are", 1, x -> x.farness(0, 1, 99), x -> x.farness(0, 2, 5));
    holds(13, "0 of one and itself: what stays costs nothing", 0, tenAnd(x -> x.event(5, 0, 0, 10)), x -> x.carried(0));
    holds(13, "0 of two HOUSES: what is carried costs nothing", 0, tenAnd(x -> {
      x.farness(0, 1, 0);
      x.event(5, 1, 0, 10);
    }), x -> x.carried(0));
    holds(13, "99 of two HOUSES", 990, tenAnd(x -> {
      x.farness(0, 1, 99);
      x.event(5, 1, 0, 10);
    }), x -> x.carried(0));
  }

  private static void event() {
    range(14, "house", 0, 4, UNKNOWN, (x, v) -> x.event(5, v, 0, 5));
    range(14, "kind", 0, 1, UNKNOWN, (x, v) -> x.event(5, 0, v, 5));
    range(14, "day", 0, 999, OUTSIDE, (x, v) -> x.event(v, 0, 0, 5));
    range(14, "need", 1, 500, OUTSIDE, (x, v) -> x.event(5, 0, 0, v));
    refuses(14, "no KIND at all", UNKNOWN, NOTHING, x -> x.event(5, 0, 0, 5));
    refuses(14, "UNKNOWN (house) goes ahead of OUTSIDE", UNKNOWN, SOMETHING, x -> x.event(1000, 5, 0, 5));
    refuses(14, "UNKNOWN (kind) goes ahead of OUTSIDE", UNKNOWN, SOMETHING, x -> x.event(5, 0, 2, 0));
    holds(14, "the first is 0", 0, TWO_KINDS, x -> x.event(999, 4, 1, 500));
    holds(14, "the twelfth is 11", 11, kindsAnd(x -> { for (int i = 0; i < 11; i++) x.event(i, 0, 0, 1); }), x -> x.event(5, 0, 0, 1));
    refuses(14, "a 13th is FULL", FULL, TWELVE_EVENTS, x -> x.event(5, 0, 0, 5));
    refuses(14, "a 13th is FULL, of a KIND that has none", FULL,
        kindsAnd(x -> { for (int i = 0; i < 12; i++) x.event(i, 0, 0, 1); }), x -> x.event(5, 0, 1, 5));
    refuses(14, "UNKNOWN goes ahead of FULL", UNKNOWN, TWELVE_EVENTS, x -> x.event(5, 5, 0, 5));
    refuses(14, "OUTSIDE goes ahead of FULL", OUTSIDE, TWELVE_EVENTS, x -> x.event(5, 0, 0, 501));
    refuses(14, "those that are off keep their numbers, so it is FULL still", FULL,
        both(TWELVE_EVENTS, x -> { for (int i = 0; i < 12; i++) x.off(i); }), x -> x.event(5, 0, 0, 5));
    holds(14, "a refused one takes no number", 0, kindsAnd(x -> x.event(5, 0, 0, 501)), x -> x.event(5, 0, 0, 5));
    holds(14, "two that are alike are two", 1, kindsAnd(x -> x.event(5, 0, 0, 5)), x -> x.event(5, 0, 0, 5));
    holds(14, "DAYS come in any order: the later first", 20, tenAnd(x -> {
      x.event(999, 0, 0, 10);
      x.event(0, 1, 0, 10);
    }), x -> x.carried(0));
    holds(14, "DAYS come in any order: the earlier first", 20, tenAnd(x -> {
      x.event(0, 1, 0, 10);
      x.event(999, 0, 0, 10);
    }), x -> x.carried(0));
    holds(14, "the greatest NEED", 500, kindsAnd(x -> {
      x.book(0, 0, 500);
      x.event(0, 1, 0, 500);
    }), x -> x.carried(0));
  }

  private static void off() {
    refuses(15, "there is none", UNKNOWN, TWO_KINDS, x -> x.off(0));
    refuses(15, "-1", UNKNOWN, SOMETHING, x -> x.off(-1));
    refuses(15, "behind the last one", UNKNOWN, SOMETHING, x -> x.off(4));
    refuses(15, "far off below", UNKNOWN, SOMETHING, x -> x.off(MIN));
    refuses(15, "far off above", UNKNOWN, SOMETHING, x -> x.off(MAX));
    refuses(15, "behind the last one there may be", UNKNOWN, TWELVE_EVENTS, x -> x.off(12));
    holds(15, "the last one there may be", 1, TWELVE_EVENTS, x -> x.off(11));
    holds(15, "the first one", 1, TWELVE_EVENTS, x -> x.off(0));
    refuses(15, "it is off already", STATE, SOMETHING, x -> x.off(3));
    holds(15, "for good: it is off after another one came", STATE, both(SOMETHING, x -> x.event(3, 3, 1, 1)), x -> x.off(3));
    holds(15, "its number stays its own", 4, SOMETHING, x -> x.event(3, 3, 1, 1));
    Setup gone = tenAnd(x -> {
      x.event(5, 1, 0, 11);
      x.off(0);
    });
    holds(15, "it needs nothing more: THE LEAST CARRIED", 0, gone, x -> x.carried(0));
    holds(15, "it needs nothing more: IN NEED", NONE, gone, x -> x.inNeed(0));
    holds(15, "it is not counted", 0, gone, x -> x.count(2));
    holds(15, "others are on still", 4, tenAnd(x -> {
      x.event(5, 1, 0, 4);
      x.event(5, 2, 0, 3);
      x.off(1);
    }), x -> x.carried(0));
  }

  private static void carriedOnOneDay() {
    range(16, "kind", 0, 1, UNKNOWN, (x, v) -> x.carried(v));
    refuses(16, "no KIND at all", UNKNOWN, NOTHING, x -> x.carried(0));
    holds(16, "no EVENT", 0, tenAnd(NOTHING), x -> x.carried(0));
    holds(16, "no EVENT and no piece", 0, TWO_KINDS, x -> x.carried(0));
    holds(16, "no piece and NEED 1", NONE, kindsAnd(x -> x.event(0, 0, 0, 1)), x -> x.carried(0));
    holds(16, "all pieces are needed", 10, tenAnd(x -> x.event(5, 1, 0, 10)), x -> x.carried(0));
    holds(16, "one more is needed", NONE, tenAnd(x -> x.event(5, 1, 0, 11)), x -> x.carried(0));
    holds(16, "one more is needed where all are", NONE, tenAnd(x -> x.event(5, 0, 0, 11)), x -> x.carried(0));
    holds(16, "ahead of DAY 0 pieces are carried too", 3, tenAnd(x -> x.event(0, 1, 0, 3)), x -> x.carried(0));
    holds(16, "ahead of DAY 999", 3, tenAnd(x -> x.event(999, 1, 0, 3)), x -> x.carried(0));
    holds(16, "only what is lacking is carried", 1, tenAnd(x -> {
      x.book(1, 0, 2);
      x.event(5, 1, 0, 3);
    }), x -> x.carried(0));
    holds(16, "EVENTS of one HOUSE on one DAY together: all", 10, tenAnd(x -> {
      x.event(5, 1, 0, 4);
      x.event(5, 1, 0, 6);
    }), x -> x.carried(0));
    holds(16, "EVENTS of one HOUSE on one DAY together: one too many", NONE, tenAnd(x -> {
      x.event(5, 1, 0, 4);
      x.event(5, 1, 0, 7);
    }), x -> x.carried(0));
    holds(16, "two HOUSES on one DAY: all", 10, tenAnd(x -> {
      x.event(5, 1, 0, 4);
      x.event(5, 2, 0, 6);
    }), x -> x.carried(0));
    holds(16, "two HOUSES on one DAY: one too many", NONE, tenAnd(x -> {
      x.event(5, 1, 0, 4);
      x.event(5, 2, 0, 7);
    }), x -> x.carried(0));
    holds(16, "twelve EVENTS of 500 on one DAY are above all pieces there may be", NONE, kindsAnd(x -> {
      for (int h = 0; h < 5; h++) x.book(h, 0, 999);
      for (int i = 0; i < 12; i++) x.event(5, i % 5, 0, 500);
    }), x -> x.carried(0));
    holds(16, "THE BOOK tells, not the LEDGER or a WEIGHING", 10, tenAnd(x -> {
      x.ledger(0, 0, 0, 10);
      x.weigh(0, 0, 0, 0);
      x.event(5, 1, 0, 10);
    }), x -> x.carried(0));
    holds(16, "pieces of another KIND serve nothing", NONE, tenAnd(x -> {
      x.book(0, 1, 99);
      x.event(5, 1, 0, 11);
    }), x -> x.carried(0));
    holds(16, "another KIND that can't be served plays no part", 3, tenAnd(x -> {
      x.event(5, 1, 0, 3);
      x.event(5, 1, 1, 3);
    }), x -> x.carried(0));
    holds(16, "THE LEAST, not the nearest first", 5, kindsAnd(x -> {
      x.book(0, 0, 1);
      x.book(1, 0, 1);
      x.farness(0, 3, 2);
      x.farness(1, 2, 3);
      x.farness(1, 3, 9);
      x.event(0, 2, 0, 1);
      x.event(0, 3, 0, 1);
    }), x -> x.carried(0));
  }

  /** HOUSE 0 has 20 and is 1, 1, 2 from HOUSES 2, 3, 4; HOUSE 1 has 30 and is 3, 20, 50 from them: all on one DAY. */
  private static Setup fromTwo(int... housesAndNeeds) {
    return kindsAnd(x -> {
      x.book(0, 0, 20);
      x.book(1, 0, 30);
      x.farness(0, 1, 99);
      x.farness(0, 4, 2);
      x.farness(1, 2, 3);
      x.farness(1, 3, 20);
      x.farness(1, 4, 50);
      for (int i = 0; i < housesAndNeeds.length; i += 2) x.event(5, housesAndNeeds[i], 0, housesAndNeeds[i + 1]);
    });
  }

  private static void carriedTheLeast() {
    holds(16, "THE LEAST: the nearest HOUSE serves the first two", 20, fromTwo(2, 10, 3, 10), x -> x.carried(0));
    // 10 at 3 from HOUSE 1, 10 at 1 and 10 at 2 from HOUSE 0.
    holds(16, "THE LEAST: the first is served from afar for the third's sake", 60, fromTwo(2, 10, 3, 10, 4, 10), x -> x.carried(0));
    // 10 at 3 and 5 at 20 from HOUSE 1, 5 at 1 and 15 at 2 from HOUSE 0.
    holds(16, "THE LEAST: the second in part", 165, fromTwo(2, 10, 3, 10, 4, 15), x -> x.carried(0));
    holds(16, "THE LEAST: in any order", 165, fromTwo(4, 15, 3, 10, 2, 10), x -> x.carried(0));
    holds(16, "THE LEAST: one more that is near HOUSE 1", 90, fromTwo(2, 10, 3, 10, 4, 10, 2, 10), x -> x.carried(0));
    // 10 at 3, 10 at 20 and 10 at 50 from HOUSE 1; 5 at 2 from HOUSE 0, where 15 stay.
    holds(16, "THE LEAST: what HOUSE 0 gave in parts it keeps", 740, fromTwo(2, 10, 3, 10, 4, 15, 0, 15), x -> x.carried(0));
    // 20 at 3 and 10 at 20 from HOUSE 1, 20 at 2 from HOUSE 0.
    holds(16, "THE LEAST: all pieces", 300, fromTwo(2, 10, 3, 10, 4, 10, 2, 10, 4, 10), x -> x.carried(0));
    holds(16, "one piece more than all", NONE, fromTwo(2, 10, 3, 10, 4, 10, 2, 10, 4, 11), x -> x.carried(0));
  }

  /** HOUSES 0 and 1 are 7 apart; by way of another HOUSE it would be 2. */
  private static Setup longWayAnd(Setup more) {
    return tenAnd(x -> {
      x.farness(0, 1, 7);
      x.event(5, 1, 0, 4);
      more.on(x);
    });
  }

  private static void carriedOverDays() {
    holds(16, "each piece once at most ahead of a DAY: one DAY", 28, longWayAnd(NOTHING), x -> x.carried(0));
    holds(16, "each piece once at most ahead of a DAY: two DAYS", 8, longWayAnd(x -> x.event(4, 0, 0, 1)), x -> x.carried(0));
    holds(16, "ahead of each DAY that has EVENTS: one behind gives no go", 28, longWayAnd(x -> x.event(6, 0, 0, 1)), x -> x.carried(0));
    holds(16, "two EVENTS on one DAY are one DAY", 28, longWayAnd(x -> x.event(5, 0, 0, 1)), x -> x.carried(0));
    holds(16, "EVENTS of it: a DAY of another KIND gives no go", 28, longWayAnd(x -> x.event(4, 0, 1, 1)), x -> x.carried(0));
    holds(16, "a DAY whose EVENT is off gives no go", 28, longWayAnd(x -> {
      x.event(4, 0, 0, 1);
      x.off(1);
    }), x -> x.carried(0));
    holds(16, "pieces that a DAY needs where they are do not go", 8 + 2 * 5, longWayAnd(x -> {
      x.event(4, 0, 0, 8);
    }), x -> x.carried(0));
    holds(16, "on another DAY the same pieces serve", 10, tenAnd(x -> {
      x.event(5, 1, 0, 10);
      x.event(6, 1, 0, 10);
    }), x -> x.carried(0));
    holds(16, "NEEDS of two DAYS together may be above all pieces", 20, tenAnd(x -> {
      x.event(5, 1, 0, 10);
      x.event(6, 2, 0, 10);
    }), x -> x.carried(0));
    holds(16, "some DAY can't be served: the first", NONE, tenAnd(x -> {
      x.event(5, 1, 0, 11);
      x.event(6, 1, 0, 1);
    }), x -> x.carried(0));
    holds(16, "some DAY can't be served: the last", NONE, tenAnd(x -> {
      x.event(5, 1, 0, 1);
      x.event(6, 1, 0, 11);
    }), x -> x.carried(0));
    holds(16, "twelve DAYS there and back", 12 * 500 * 99, kindsAnd(x -> {
      x.book(0, 0, 500);
      for (int a = 0; a < 5; a++) for (int b = 0; b < a; b++) x.farness(a, b, 99);
      for (int i = 0; i < 12; i++) x.event(988 + i, 1 - i % 2, 0, 500);
    }), x -> x.carried(0));
    for (int goes = 1; goes <= 6; goes++) {
      int n = goes;
      holds(16, "HOUSES in a row, ahead of " + n + " DAYS", n < 4 ? 99 : 8, inRow(n), x -> x.carried(0));
    }
    holds(16, "asked twice", 8, longWayAnd(x -> {
      x.event(4, 0, 0, 1);
      x.carried(0);
      x.carried(1);
    }), x -> x.carried(0));
  }

  /** A go of 2 brings a piece one HOUSE on, any other go costs 99; one piece goes from HOUSE 0 to 4 ahead of n DAYS. */
  private static Setup inRow(int n) {
    return kindsAnd(x -> {
      x.book(0, 0, 2);
      for (int a = 0; a < 5; a++) for (int b = 0; b < a; b++) x.farness(a, b, a - b == 1 ? 2 : 99);
      x.event(900, 4, 0, 1);
      for (int i = 1; i < n; i++) x.event(900 - i, 0, 0, 1);
    });
  }

  private static void inNeed() {
    range(17, "kind", 0, 1, UNKNOWN, (x, v) -> x.inNeed(v));
    refuses(17, "no KIND at all", UNKNOWN, NOTHING, x -> x.inNeed(0));
    holds(17, "no EVENT", NONE, TWO_KINDS, x -> x.inNeed(0));
    holds(17, "NEEDS are all pieces", NONE, tenAnd(x -> x.event(5, 1, 0, 10)), x -> x.inNeed(0));
    holds(17, "NEEDS are 1 above all pieces", 5, tenAnd(x -> x.event(5, 1, 0, 11)), x -> x.inNeed(0));
    holds(17, "no piece at all and NEED 1", 5, kindsAnd(x -> x.event(5, 1, 0, 1)), x -> x.inNeed(0));
    holds(17, "DAY 0", 0, kindsAnd(x -> x.event(0, 1, 0, 1)), x -> x.inNeed(0));
    holds(17, "DAY 999", 999, kindsAnd(x -> x.event(999, 1, 0, 1)), x -> x.inNeed(0));
    holds(17, "NEEDS together: two HOUSES, all pieces", NONE, tenAnd(x -> {
      x.event(5, 1, 0, 4);
      x.event(5, 2, 0, 6);
    }), x -> x.inNeed(0));
    holds(17, "NEEDS together: two HOUSES, 1 above", 5, tenAnd(x -> {
      x.event(5, 1, 0, 5);
      x.event(5, 2, 0, 6);
    }), x -> x.inNeed(0));
    holds(17, "NEEDS of two DAYS are not together", NONE, tenAnd(x -> {
      x.event(5, 1, 0, 10);
      x.event(6, 1, 0, 10);
    }), x -> x.inNeed(0));
    holds(17, "an EVENT of another DAY lies between by number", 5, tenAnd(x -> {
      x.event(5, 1, 0, 5);
      x.event(6, 1, 0, 1);
      x.event(5, 1, 0, 6);
    }), x -> x.inNeed(0));
    holds(17, "the first DAY, told last", 3, tenAnd(x -> {
      x.event(7, 1, 0, 11);
      x.event(5, 1, 0, 11);
      x.event(3, 1, 0, 11);
    }), x -> x.inNeed(0));
    holds(17, "an earlier DAY that is served is not it", 7, tenAnd(x -> {
      x.event(7, 1, 0, 11);
      x.event(3, 1, 0, 10);
    }), x -> x.inNeed(0));
    holds(17, "all pieces: of all five HOUSES", NONE, kindsAnd(x -> {
      for (int h = 0; h < 5; h++) x.book(h, 0, 2);
      x.event(5, 1, 0, 10);
    }), x -> x.inNeed(0));
    holds(17, "all pieces of the KIND, not of another", 5, tenAnd(x -> {
      x.book(0, 1, 99);
      x.event(5, 1, 0, 11);
    }), x -> x.inNeed(0));
    holds(17, "an EVENT of another KIND needs nothing of it", NONE, tenAnd(x -> {
      x.event(5, 1, 0, 10);
      x.event(5, 1, 1, 1);
    }), x -> x.inNeed(0));
    holds(17, "an EVENT that is off needs nothing", NONE, tenAnd(x -> {
      x.event(5, 1, 0, 10);
      x.event(5, 1, 0, 1);
      x.off(1);
    }), x -> x.inNeed(0));
  }

  private static void costs() {
    refuses(18, "there is none", UNKNOWN, TWO_KINDS, x -> x.costs(0));
    refuses(18, "-1", UNKNOWN, SOMETHING, x -> x.costs(-1));
    refuses(18, "behind the last one", UNKNOWN, SOMETHING, x -> x.costs(4));
    refuses(18, "far off below", UNKNOWN, SOMETHING, x -> x.costs(MIN));
    refuses(18, "far off above", UNKNOWN, SOMETHING, x -> x.costs(MAX));
    refuses(18, "behind the last one there may be", UNKNOWN, TWELVE_EVENTS, x -> x.costs(12));
    refuses(18, "it is off", STATE, SOMETHING, x -> x.costs(3));
    refuses(18, "it is off: ahead of NONE", STATE, tenAnd(x -> {
      x.event(5, 1, 0, 3);
      x.event(5, 1, 0, 11);
      x.off(0);
    }), x -> x.costs(0));
    holds(18, "the only EVENT: all that is carried", 3, tenAnd(x -> x.event(5, 1, 0, 3)), x -> x.costs(0));
    holds(18, "nothing would be less", 0, tenAnd(x -> x.event(5, 0, 0, 3)), x -> x.costs(0));
    holds(18, "the last one there may be", 2, tenAnd(x -> {
      for (int i = 0; i < 11; i++) x.event(i, 0, 0, 1);
      x.event(500, 3, 0, 2);
    }), x -> x.costs(11));
    holds(18, "it can't be served with it", NONE, tenAnd(x -> x.event(5, 1, 0, 11)), x -> x.costs(0));
    holds(18, "it just can be served with it", 10, tenAnd(x -> x.event(5, 1, 0, 10)), x -> x.costs(0));
    holds(18, "it can't be served for another EVENT's sake", NONE, tenAnd(x -> {
      x.event(5, 1, 0, 3);
      x.event(9, 1, 0, 11);
    }), x -> x.costs(0));
    holds(18, "of its KIND: another KIND can't be served", 3, tenAnd(x -> {
      x.event(5, 1, 0, 3);
      x.event(5, 1, 1, 1);
    }), x -> x.costs(0));
    holds(18, "of its KIND: its KIND can't be served", NONE, tenAnd(x -> {
      x.event(5, 1, 0, 3);
      x.event(5, 1, 1, 1);
    }), x -> x.costs(1));
    holds(18, "without it its DAY is gone, and a go: it is below 0", 8 - 28, longWayAnd(x -> x.event(4, 0, 0, 1)), x -> x.costs(1));
    holds(18, "without it its DAY is there by another EVENT", 0, longWayAnd(x -> {
      x.event(4, 0, 0, 1);
      x.event(4, 0, 0, 1);
    }), x -> x.costs(1));
    holds(18, "it is asked, not put off", 3, tenAnd(x -> {
      x.event(5, 1, 0, 3);
      x.costs(0);
    }), x -> x.carried(0));
  }

  public static void main(String[] args) {
    farness();
    event();
    off();
    carriedOnOneDay();
    carriedTheLeast();
    carriedOverDays();
    inNeed();
    costs();
    end(13, 18);
  }
}
