/** Promises 2 to 12: each sentence that names a boundary case has a test of its own. */
public final class EdgesOfCounts extends Edge {

  /** A KIND of its own, the only one, and one WEIGHING of it in HOUSE 0. */
  private static Setup weighed(int low, int high, int weight, int give) {
    return x -> {
      x.kind(low, high);
      x.weigh(0, 0, weight, give);
    };
  }

  private static Setup twice(int low, int high) {
    return x -> {
      x.kind(low, high);
      x.kind(low, high);
    };
  }

  private static Setup both(Setup one, Setup other) {
    return x -> {
      one.on(x);
      other.on(x);
    };
  }

  private static final Setup SIX_KINDS = x -> {
    for (int i = 0; i < 6; i++) x.kind(5, 9);
  };

  /** All WEIGHINGS that there may be, of several HOUSES and both KINDS. */
  private static final Setup FORTY_WEIGHINGS = x -> {
    TWO_KINDS.on(x);
    for (int i = 0; i < 40; i++) x.weigh(i % 5, i % 2, 900, 500);
  };

  private static void kind() {
    range(2, "low", 1, 2000, OUTSIDE, (x, v) -> x.kind(v, 2000));
    range(2, "high", 1, 2000, OUTSIDE, (x, v) -> x.kind(1, v));
    refuses(2, "high is below low by 1", OUTSIDE, SOMETHING, x -> x.kind(7, 6));
    refuses(2, "high is below low, both at the upper end", OUTSIDE, SOMETHING, x -> x.kind(2000, 1999));
    refuses(2, "high is below low, both at the lower end", OUTSIDE, SOMETHING, x -> x.kind(2, 1));
    refuses(2, "low and high are as far off as can be", OUTSIDE, SOMETHING, x -> x.kind(MIN, MAX));
    refuses(2, "low and high the other way round", OUTSIDE, SOMETHING, x -> x.kind(MAX, MIN));
    holds(2, "high may be low", 2, SOMETHING, x -> x.kind(7, 7));
    holds(2, "high may be low, 1", 2, SOMETHING, x -> x.kind(1, 1));
    holds(2, "high may be low, 2000", 2, SOMETHING, x -> x.kind(2000, 2000));
    holds(2, "the first is 0", 0, NOTHING, x -> x.kind(1, 2000));
    holds(2, "the sixth is 5", 5, x -> { for (int i = 0; i < 5; i++) x.kind(5, 9); }, x -> x.kind(5, 9));
    refuses(2, "a seventh is FULL", FULL, SIX_KINDS, x -> x.kind(5, 9));
    refuses(2, "OUTSIDE goes ahead of FULL", OUTSIDE, SIX_KINDS, x -> x.kind(9, 5));
    holds(2, "a refused one takes no number", 0, x -> x.kind(0, 5), x -> x.kind(5, 5));
    holds(2, "KINDS that are alike are two", 1, x -> x.kind(5, 9), x -> x.kind(5, 9));
    holds(2, "a piece of the lightest KIND weighs 1", 2000, weighed(1, 1, 2000, 0), x -> x.sure(0, 0, false));
    holds(2, "a piece of the heaviest KIND weighs 2000", 1000, weighed(2000, 2000, 2000000, 0), x -> x.sure(0, 0, true));
  }

  private static void book() {
    range(3, "house", 0, 4, UNKNOWN, (x, v) -> x.book(v, 0, 5));
    range(3, "kind", 0, 1, UNKNOWN, (x, v) -> x.book(0, v, 5));
    range(3, "n", 0, 999, OUTSIDE, (x, v) -> x.book(0, 0, v));
    refuses(3, "UNKNOWN (house) goes ahead of OUTSIDE", UNKNOWN, SOMETHING, x -> x.book(5, 0, 1000));
    refuses(3, "UNKNOWN (kind) goes ahead of OUTSIDE", UNKNOWN, SOMETHING, x -> x.book(0, 2, -1));
    refuses(3, "no KIND at all", UNKNOWN, NOTHING, x -> x.book(0, 0, 1));
    holds(3, "the last HOUSE and KIND there may be", 0, SIX_KINDS, x -> x.book(4, 5, 1));
    refuses(3, "behind the last KIND there may be", UNKNOWN, SIX_KINDS, x -> x.book(4, 6, 1));
    for (int house = 0; house < 5; house++) {
      int h = house;
      holds(3, "0 at first in HOUSE " + h, 0, TWO_KINDS, x -> x.book(h, 1, 7));
      holds(3, "each HOUSE and KIND has its own, HOUSE " + h, 101 + 10 * h, x -> {
        TWO_KINDS.on(x);
        for (int i = 0; i < 10; i++) x.book(i / 2, i % 2, 100 + 10 * (i / 2) + i % 2);
      }, x -> x.book(h, 1, 0));
    }
    holds(3, "what it was, 999", 999, both(TWO_KINDS, x -> x.book(0, 0, 999)), x -> x.book(0, 0, 0));
    holds(3, "what it was, 0 again", 0, both(TWO_KINDS, x -> {
      x.book(0, 0, 999);
      x.book(0, 0, 0);
    }), x -> x.book(0, 0, 3));
  }

  private static void weigh() {
    range(4, "house", 0, 4, UNKNOWN, (x, v) -> x.weigh(v, 0, 5, 5));
    range(4, "kind", 0, 1, UNKNOWN, (x, v) -> x.weigh(0, v, 5, 5));
    range(4, "weight", 0, 2000000, OUTSIDE, (x, v) -> x.weigh(0, 0, v, 5));
    range(4, "give", 0, 500, OUTSIDE, (x, v) -> x.weigh(0, 0, 5, v));
    refuses(4, "weight and give together are as told, but one is not", OUTSIDE, SOMETHING, x -> x.weigh(0, 0, -1, 1));
    refuses(4, "UNKNOWN (house) goes ahead of OUTSIDE", UNKNOWN, SOMETHING, x -> x.weigh(-1, 0, -1, 0));
    refuses(4, "UNKNOWN (kind) goes ahead of OUTSIDE", UNKNOWN, SOMETHING, x -> x.weigh(0, 2, 0, 501));
    holds(4, "the first is 0", 0, TWO_KINDS, x -> x.weigh(4, 1, 0, 0));
    holds(4, "the fortieth is 39", 39, x -> {
      TWO_KINDS.on(x);
      for (int i = 0; i < 39; i++) x.weigh(0, 0, 5, 5);
    }, x -> x.weigh(0, 0, 5, 5));
    refuses(4, "a 41st is FULL", FULL, FORTY_WEIGHINGS, x -> x.weigh(0, 0, 5, 5));
    refuses(4, "a 41st is FULL in a HOUSE that has none", FULL, x -> {
      TWO_KINDS.on(x);
      for (int i = 0; i < 40; i++) x.weigh(0, 0, 5, 5);
    }, x -> x.weigh(4, 1, 5, 5));
    refuses(4, "OUTSIDE goes ahead of FULL", OUTSIDE, FORTY_WEIGHINGS, x -> x.weigh(0, 0, 5, 501));
    refuses(4, "UNKNOWN goes ahead of FULL", UNKNOWN, FORTY_WEIGHINGS, x -> x.weigh(5, 0, 5, 5));
    refuses(4, "those that count no more keep their numbers, so it is FULL still", FULL,
        both(FORTY_WEIGHINGS, x -> { for (int i = 0; i < 40; i++) x.drop(i); }), x -> x.weigh(0, 0, 5, 5));
    holds(4, "a refused one takes no number", 0, both(TWO_KINDS, x -> x.weigh(0, 0, 5, 501)), x -> x.weigh(0, 0, 5, 5));
  }

  /** Which numbers a WEIGHING lets, on and next to each edge. */
  private static void lets() {
    holds(4, "n times LOW is the weight: let", 10, weighed(40, 2000, 400, 0), x -> x.sure(0, 0, true));
    holds(4, "n times LOW is 1 above the weight: not let", 9, weighed(40, 2000, 399, 0), x -> x.sure(0, 0, true));
    holds(4, "n times LOW is the weight and give: let", 10, weighed(40, 2000, 390, 10), x -> x.sure(0, 0, true));
    holds(4, "n times LOW is 1 above both: not let", 9, weighed(40, 2000, 390, 9), x -> x.sure(0, 0, true));
    holds(4, "n times HIGH is the weight: let", 10, weighed(1, 42, 420, 0), x -> x.sure(0, 0, false));
    holds(4, "n times HIGH is 1 below the weight: not let", 11, weighed(1, 42, 421, 0), x -> x.sure(0, 0, false));
    holds(4, "n times HIGH is the weight less give: let", 10, weighed(1, 42, 430, 10), x -> x.sure(0, 0, false));
    holds(4, "n times HIGH is 1 below that: not let", 11, weighed(1, 42, 430, 9), x -> x.sure(0, 0, false));
    holds(4, "weight 0, give 0: 0 is let", 0, weighed(1, 2000, 0, 0), x -> x.sure(0, 0, false));
    holds(4, "weight 0, give 0: only 0 is let", 0, weighed(1, 2000, 0, 0), x -> x.sure(0, 0, true));
    holds(4, "the weight less give is 0: 0 is let", 0, weighed(1, 2000, 500, 500), x -> x.sure(0, 0, false));
    holds(4, "the weight less give is 1: 0 is not let", 1, weighed(1, 2000, 501, 500), x -> x.sure(0, 0, false));
    holds(4, "the weight less give is below 0: 0 is let", 0, weighed(1, 2000, 0, 500), x -> x.sure(0, 0, false));
    holds(4, "weight 0, give 500: 500 is let", 500, weighed(1, 2000, 0, 500), x -> x.sure(0, 0, true));
    holds(4, "no number between two that are near: least", NONE, weighed(40, 42, 430, 9), x -> x.sure(0, 0, false));
    holds(4, "both that are near: least", 10, weighed(40, 42, 430, 10), x -> x.sure(0, 0, false));
    holds(4, "both that are near: greatest", 11, weighed(40, 42, 430, 10), x -> x.sure(0, 0, true));
    holds(4, "the greatest weight and give: least", 1000, weighed(1, 2000, 2000000, 500), x -> x.sure(0, 0, false));
    holds(4, "the greatest weight and give: greatest", 2000, weighed(1, 2000, 2000000, 500), x -> x.sure(0, 0, true));
  }

  private static void drop() {
    refuses(5, "there is none", UNKNOWN, TWO_KINDS, x -> x.drop(0));
    refuses(5, "-1", UNKNOWN, SOMETHING, x -> x.drop(-1));
    refuses(5, "behind the last one", UNKNOWN, SOMETHING, x -> x.drop(3));
    refuses(5, "far off below", UNKNOWN, SOMETHING, x -> x.drop(MIN));
    refuses(5, "far off above", UNKNOWN, SOMETHING, x -> x.drop(MAX));
    refuses(5, "behind the last one there may be", UNKNOWN, FORTY_WEIGHINGS, x -> x.drop(40));
    holds(5, "the last one there may be", 1, FORTY_WEIGHINGS, x -> x.drop(39));
    holds(5, "the first one", 1, FORTY_WEIGHINGS, x -> x.drop(0));
    refuses(5, "it counts no more already", STATE, SOMETHING, x -> x.drop(2));
    holds(5, "for good: it does not count after another one came", STATE,
        both(SOMETHING, x -> x.weigh(2, 0, 100, 0)), x -> x.drop(2));
    holds(5, "its number stays its own", 3, SOMETHING, x -> x.weigh(2, 0, 100, 0));
    holds(5, "its number stays its own, the only one", 1,
        both(TWO_KINDS, x -> { x.weigh(0, 0, 5, 5); x.drop(0); }), x -> x.weigh(0, 0, 5, 5));
    Setup dropped = both(weighed(10, 10, 100, 0), x -> { x.book(0, 0, 30); x.drop(0); });
    holds(5, "it counts no more for what is SURE: least", 0, dropped, x -> x.sure(0, 0, false));
    holds(5, "it counts no more for what is SURE: greatest", 2000, dropped, x -> x.sure(0, 0, true));
    holds(5, "it counts no more for what is MISSING", 30, dropped, x -> x.missing(0, 0, true));
    holds(5, "it counts no more for worst()", NONE, dropped, x -> x.worst());
    holds(5, "it counts no more in count()", 0, dropped, x -> x.count(1));
    holds(5, "others count on", 10, x -> {
      x.kind(10, 10);
      x.weigh(0, 0, 100, 10);
      x.weigh(0, 0, 100, 0);
      x.weigh(0, 0, 120, 20);
      x.drop(0);
      x.drop(2);
    }, x -> x.sure(0, 0, true));
  }

  private static void sure() {
    range(6, "house", 0, 4, UNKNOWN, (x, v) -> x.sure(v, 0, true));
    range(6, "kind", 0, 1, UNKNOWN, (x, v) -> x.sure(0, v, false));
    refuses(6, "no KIND at all", UNKNOWN, NOTHING, x -> x.sure(0, 0, true));
    holds(6, "all, if there is no WEIGHING: least", 0, TWO_KINDS, x -> x.sure(4, 1, false));
    holds(6, "all, if there is no WEIGHING: greatest", 2000, TWO_KINDS, x -> x.sure(4, 1, true));
    holds(6, "2000 is a number: least", 2000, weighed(1, 1, 2000, 0), x -> x.sure(0, 0, false));
    holds(6, "2000 is a number: greatest", 2000, weighed(1, 1, 2000, 0), x -> x.sure(0, 0, true));
    holds(6, "2001 is none: least", NONE, weighed(1, 1, 2001, 0), x -> x.sure(0, 0, false));
    holds(6, "2001 is none: greatest", NONE, weighed(1, 1, 2001, 0), x -> x.sure(0, 0, true));
    holds(6, "of 2000 to 2002 only 2000: least", 2000, weighed(1, 1, 2001, 1), x -> x.sure(0, 0, false));
    holds(6, "of 2000 to 2002 only 2000: greatest", 2000, weighed(1, 1, 2001, 1), x -> x.sure(0, 0, true));
    holds(6, "2000 of 1000 are the greatest weight", 2000, weighed(1000, 1000, 2000000, 0), x -> x.sure(0, 0, false));
    holds(6, "2002 of 999 are within give of it, but above 2000", NONE, weighed(999, 999, 2000000, 500), x -> x.sure(0, 0, true));
    Setup nineToEleven = weighed(10, 10, 100, 10);
    holds(6, "two WEIGHINGS that have one number: least", 11, both(nineToEleven, x -> x.weigh(0, 0, 130, 20)), x -> x.sure(0, 0, false));
    holds(6, "two WEIGHINGS that have one number: greatest", 11, both(nineToEleven, x -> x.weigh(0, 0, 130, 20)), x -> x.sure(0, 0, true));
    holds(6, "two WEIGHINGS that just have none: least", NONE, both(nineToEleven, x -> x.weigh(0, 0, 140, 20)), x -> x.sure(0, 0, false));
    holds(6, "two WEIGHINGS that just have none: greatest", NONE, both(nineToEleven, x -> x.weigh(0, 0, 140, 20)), x -> x.sure(0, 0, true));
    holds(6, "one WEIGHING that lets none", NONE, weighed(10, 10, 5, 4), x -> x.sure(0, 0, true));
    holds(6, "a WEIGHING in another HOUSE plays no part", 2000, both(TWO_KINDS, x -> x.weigh(0, 0, 5, 5)), x -> x.sure(1, 0, true));
    holds(6, "a WEIGHING of another KIND plays no part", 2000, both(TWO_KINDS, x -> x.weigh(0, 0, 5, 5)), x -> x.sure(0, 1, true));
    holds(6, "all forty play a part", 500, x -> {
      x.kind(1, 2000);
      for (int i = 0; i < 39; i++) x.weigh(0, 0, 1000 - i, 0);
      x.weigh(0, 0, 400, 100);
    }, x -> x.sure(0, 0, true));
  }

  private static void quarrel() {
    range(7, "house", 0, 4, UNKNOWN, (x, v) -> x.quarrel(v, 0));
    range(7, "kind", 0, 1, UNKNOWN, (x, v) -> x.quarrel(0, v));
    refuses(7, "no KIND at all", UNKNOWN, NOTHING, x -> x.quarrel(0, 0));
    holds(7, "there is no WEIGHING", NONE, TWO_KINDS, x -> x.quarrel(0, 0));
    holds(7, "one number is left", NONE, both(weighed(10, 10, 100, 10), x -> x.weigh(0, 0, 130, 20)), x -> x.quarrel(0, 0));
    holds(7, "0 is a number", NONE, weighed(1, 2000, 0, 0), x -> x.quarrel(0, 0));
    holds(7, "2000 is a number", NONE, weighed(1, 1, 2000, 0), x -> x.quarrel(0, 0));
    holds(7, "no number is left", 1, both(weighed(10, 10, 100, 10), x -> x.weigh(0, 0, 140, 20)), x -> x.quarrel(0, 0));
    holds(7, "one alone that lets none", 0, weighed(10, 10, 5, 4), x -> x.quarrel(0, 0));
    holds(7, "one alone that lets none up to 2000", 0, weighed(1, 1, 2001, 0), x -> x.quarrel(0, 0));
    holds(7, "the first of two such", 1, x -> {
      x.kind(10, 10);
      x.weigh(0, 0, 100, 0);
      x.weigh(0, 0, 110, 0);
      x.weigh(0, 0, 120, 0);
    }, x -> x.quarrel(0, 0));
    Setup third = x -> {
      x.kind(10, 10);
      x.weigh(0, 0, 100, 0);
      x.weigh(0, 0, 100, 20);
      x.weigh(0, 0, 110, 0);
    };
    holds(7, "not the second, which agrees", 2, third, x -> x.quarrel(0, 0));
    holds(7, "one that counts no more is none", NONE, both(third, x -> x.drop(2)), x -> x.quarrel(0, 0));
    holds(7, "those ahead that count no more play no part", NONE, both(third, x -> x.drop(0)), x -> x.quarrel(0, 0));
    holds(7, "WEIGHINGS of others lie between", 3, x -> {
      twice(10, 10).on(x);
      x.weigh(0, 0, 100, 0);
      x.weigh(1, 0, 110, 0);
      x.weigh(0, 1, 110, 0);
      x.weigh(0, 0, 110, 0);
    }, x -> x.quarrel(0, 0));
    holds(7, "WEIGHINGS of others are no quarrel", NONE, x -> {
      twice(10, 10).on(x);
      x.weigh(0, 0, 100, 0);
      x.weigh(1, 0, 110, 0);
      x.weigh(0, 1, 110, 0);
    }, x -> x.quarrel(0, 0));
    holds(7, "the last WEIGHING there may be", 39, x -> {
      x.kind(10, 10);
      for (int i = 0; i < 39; i++) x.weigh(0, 0, 100, 0);
      x.weigh(0, 0, 110, 0);
    }, x -> x.quarrel(0, 0));
  }

  private static void tray() {
    range(8, "one", 0, 1, UNKNOWN, (x, v) -> x.tray(v, v == 0 ? 1 : 0, 130, 2));
    range(8, "other", 0, 1, UNKNOWN, (x, v) -> x.tray(v == 0 ? 1 : 0, v, 130, 2));
    range(8, "weight", 0, 2000000, OUTSIDE, (x, v) -> x.tray(0, 1, v, 2));
    range(8, "give", 0, 500, OUTSIDE, (x, v) -> x.tray(0, 1, 130, v));
    refuses(8, "no KIND at all", UNKNOWN, NOTHING, x -> x.tray(0, 1, 0, 0));
    refuses(8, "both KINDS are one, the first", STATE, SOMETHING, x -> x.tray(0, 0, 130, 2));
    refuses(8, "both KINDS are one, the last", STATE, SOMETHING, x -> x.tray(1, 1, 130, 2));
    holds(8, "two KINDS that are alike are not one", 1, twice(10, 10), x -> x.tray(0, 1, 0, 0));
    refuses(8, "UNKNOWN goes ahead of STATE", UNKNOWN, SOMETHING, x -> x.tray(2, 2, 130, 2));
    refuses(8, "UNKNOWN goes ahead of OUTSIDE", UNKNOWN, SOMETHING, x -> x.tray(0, 2, -1, 2));
    refuses(8, "OUTSIDE goes ahead of STATE", OUTSIDE, SOMETHING, x -> x.tray(1, 1, 130, 501));
    Setup tens = twice(10, 10);
    holds(8, "nothing on it is a pair", 1, tens, x -> x.tray(0, 1, 0, 0));
    holds(8, "0 and 200 are numbers, at both sides", 201, tens, x -> x.tray(0, 1, 2000, 0));
    holds(8, "201 is none, at both sides", 200, tens, x -> x.tray(0, 1, 2010, 0));
    holds(8, "200 of each", 1, tens, x -> x.tray(0, 1, 4000, 0));
    holds(8, "one piece above 200 of each", 0, tens, x -> x.tray(0, 1, 4010, 0));
    holds(8, "give just does not reach a pair", 0, tens, x -> x.tray(0, 1, 5, 4));
    holds(8, "give just reaches pairs below and above", 3, tens, x -> x.tray(0, 1, 5, 5));
    Setup tensToTwenties = twice(10, 20);
    holds(8, "LOW together is 1 above the weight", 0, tensToTwenties, x -> x.tray(0, 1, 9, 0));
    holds(8, "LOW together is the weight", 2, tensToTwenties, x -> x.tray(0, 1, 10, 0));
    holds(8, "LOW together is 1 above, for two pieces", 2, tensToTwenties, x -> x.tray(0, 1, 19, 0));
    holds(8, "HIGH together is the weight", 5, tensToTwenties, x -> x.tray(0, 1, 20, 0));
    holds(8, "HIGH together is 1 below the weight", 3, tensToTwenties, x -> x.tray(0, 1, 21, 0));
    Setup heaviest = twice(2000, 2000);
    holds(8, "200 of each of the heaviest", 1, heaviest, x -> x.tray(0, 1, 800000, 0));
    holds(8, "1 above that", 0, heaviest, x -> x.tray(0, 1, 800001, 0));
    holds(8, "above that by give", 1, heaviest, x -> x.tray(0, 1, 800500, 500));
    holds(8, "above that by give and 1", 0, heaviest, x -> x.tray(0, 1, 800501, 500));
    holds(8, "the greatest weight and give", 0, heaviest, x -> x.tray(0, 1, 2000000, 500));
    holds(8, "every pair", 201 * 201, twice(1, 2000), x -> x.tray(0, 1, 400, 400));
    holds(8, "every pair but the last", 201 * 201 - 1, twice(1, 2000), x -> x.tray(0, 1, 199, 200));
    holds(8, "every pair but the first", 201 * 201 - 1, twice(1, 2000), x -> x.tray(0, 1, 401, 400));
    holds(8, "each KIND has its own LOW and HIGH", 1, TWO_KINDS, x -> x.tray(0, 1, 130, 2));
  }

  private static void trayPair() {
    range(9, "one", 0, 1, UNKNOWN, (x, v) -> x.trayPair(v, v == 0 ? 1 : 0, 130, 2, 0));
    range(9, "other", 0, 1, UNKNOWN, (x, v) -> x.trayPair(v == 0 ? 1 : 0, v, 130, 2, 0));
    range(9, "weight", 0, 2000000, OUTSIDE, (x, v) -> x.trayPair(0, 1, v, 2, 0));
    range(9, "give", 0, 500, OUTSIDE, (x, v) -> x.trayPair(0, 1, 130, v, 0));
    refuses(9, "both KINDS are one", STATE, SOMETHING, x -> x.trayPair(1, 1, 130, 2, 0));
    refuses(9, "UNKNOWN goes ahead of STATE", UNKNOWN, SOMETHING, x -> x.trayPair(-1, -1, 130, 2, 0));
    refuses(9, "UNKNOWN goes ahead of OUTSIDE", UNKNOWN, SOMETHING, x -> x.trayPair(2, 0, 130, 501, 0));
    refuses(9, "OUTSIDE goes ahead of STATE", OUTSIDE, SOMETHING, x -> x.trayPair(1, 1, -1, 2, 0));
    refuses(9, "a refusal goes ahead of NONE", STATE, SOMETHING, x -> x.trayPair(1, 1, 130, 2, -1));
    Setup tens = twice(10, 10);
    holds(9, "the pair of nothing is 0", 0, tens, x -> x.trayPair(0, 1, 0, 0, 0));
    holds(9, "behind the only pair", NONE, tens, x -> x.trayPair(0, 1, 0, 0, 1));
    holds(9, "ahead of the only pair", NONE, tens, x -> x.trayPair(0, 1, 0, 0, -1));
    holds(9, "far ahead", NONE, tens, x -> x.trayPair(0, 1, 0, 0, MIN));
    holds(9, "far behind", NONE, tens, x -> x.trayPair(0, 1, 0, 0, MAX));
    holds(9, "there is no pair", NONE, tens, x -> x.trayPair(0, 1, 5, 4, 0));
    holds(9, "by a: the first has none of the first KIND", 200, tens, x -> x.trayPair(0, 1, 2000, 0, 0));
    holds(9, "by a: the last has none of the second KIND", 200000, tens, x -> x.trayPair(0, 1, 2000, 0, 200));
    holds(9, "behind the last", NONE, tens, x -> x.trayPair(0, 1, 2000, 0, 201));
    holds(9, "200 of each", 200200, tens, x -> x.trayPair(0, 1, 4000, 0, 0));
    holds(9, "no number is 201: the first", 1200, tens, x -> x.trayPair(0, 1, 2010, 0, 0));
    holds(9, "no number is 201: the last", 200001, tens, x -> x.trayPair(0, 1, 2010, 0, 199));
    holds(9, "then by b: the second", 1, tens, x -> x.trayPair(0, 1, 5, 5, 1));
    holds(9, "then by b: the third", 1000, tens, x -> x.trayPair(0, 1, 5, 5, 2));
    holds(9, "every pair: the last with a = 0", 200, twice(1, 2000), x -> x.trayPair(0, 1, 400, 400, 200));
    holds(9, "every pair: the first with a = 1", 1000, twice(1, 2000), x -> x.trayPair(0, 1, 400, 400, 201));
    holds(9, "every pair: the last", 200200, twice(1, 2000), x -> x.trayPair(0, 1, 400, 400, 201 * 201 - 1));
    holds(9, "every pair: behind the last", NONE, twice(1, 2000), x -> x.trayPair(0, 1, 400, 400, 201 * 201));
    holds(9, "the KINDS the other way round", 3, TWO_KINDS, x -> x.trayPair(1, 0, 128, 2, 0));
  }

  private static void ledger() {
    range(10, "house", 0, 4, UNKNOWN, (x, v) -> x.ledger(v, 0, 0, 5));
    range(10, "kind", 0, 1, UNKNOWN, (x, v) -> x.ledger(0, v, 0, 5));
    range(10, "what", 0, 2, OUTSIDE, (x, v) -> x.ledger(0, 0, v, 5));
    range(10, "n in BINS", 0, 999, OUTSIDE, (x, v) -> x.ledger(0, 0, 0, v));
    range(10, "n taken by GUESTS", 0, 999, OUTSIDE, (x, v) -> x.ledger(0, 0, 1, v));
    range(10, "n on LOAN", 0, 999, OUTSIDE, (x, v) -> x.ledger(0, 0, 2, v));
    refuses(10, "UNKNOWN (house) goes ahead of OUTSIDE", UNKNOWN, SOMETHING, x -> x.ledger(5, 0, 3, 1000));
    refuses(10, "UNKNOWN (kind) goes ahead of OUTSIDE", UNKNOWN, SOMETHING, x -> x.ledger(0, -1, -1, -1));
    refuses(10, "no KIND at all", UNKNOWN, NOTHING, x -> x.ledger(0, 0, 0, 0));
    for (int what = 0; what < 3; what++) {
      int w = what;
      holds(10, "0 at first, what " + w, 0, SIX_KINDS, x -> x.ledger(4, 5, w, 9));
      holds(10, "what it was, what " + w, 999, both(TWO_KINDS, x -> x.ledger(1, 1, w, 999)), x -> x.ledger(1, 1, w, 0));
      holds(10, "each has its own, what " + w, 30 + w, both(TWO_KINDS, x -> {
        for (int i = 0; i < 3; i++) x.ledger(2, 0, i, 30 + i);
        for (int i = 0; i < 3; i++) x.ledger(2, 1, i, 40 + i);
        for (int i = 0; i < 3; i++) x.ledger(3, 0, i, 50 + i);
      }), x -> x.ledger(2, 0, w, 0));
    }
    holds(10, "the three together may be above THE BOOK", 0, TWO_KINDS, x -> x.ledger(0, 0, 0, 999));
  }

  /** THE BOOK n; 9 to 11 are SURE. */
  private static Setup missingOf(int n) {
    return both(weighed(10, 10, 100, 10), x -> x.book(0, 0, n));
  }

  private static void missing() {
    range(11, "house", 0, 4, UNKNOWN, (x, v) -> x.missing(v, 0, true));
    range(11, "kind", 0, 1, UNKNOWN, (x, v) -> x.missing(0, v, false));
    refuses(11, "no KIND at all", UNKNOWN, NOTHING, x -> x.missing(0, 0, true));
    holds(11, "AT LEAST: LOST is the greatest that is SURE", 0, missingOf(11), x -> x.missing(0, 0, false));
    holds(11, "AT LEAST: LOST is 1 above it", 1, missingOf(12), x -> x.missing(0, 0, false));
    holds(11, "AT LEAST: LOST is below it: 0", 0, missingOf(10), x -> x.missing(0, 0, false));
    holds(11, "AT MOST: LOST is the least that is SURE", 0, missingOf(9), x -> x.missing(0, 0, true));
    holds(11, "AT MOST: LOST is 1 above it", 1, missingOf(10), x -> x.missing(0, 0, true));
    holds(11, "AT MOST: LOST is below it: 0", 0, missingOf(8), x -> x.missing(0, 0, true));
    Setup allParted = both(missingOf(0), x -> { for (int i = 0; i < 3; i++) x.ledger(0, 0, i, 999); });
    holds(11, "LOST is far below 0, AT LEAST", 0, allParted, x -> x.missing(0, 0, false));
    holds(11, "LOST is far below 0, AT MOST", 0, allParted, x -> x.missing(0, 0, true));
    for (int what = 0; what < 3; what++) {
      int w = what;
      holds(11, "LOST is less what " + w, 5, both(missingOf(20), x -> x.ledger(0, 0, w, 4)), x -> x.missing(0, 0, false));
    }
    holds(11, "the LEDGER of another KIND plays no part", 9, both(missingOf(20), x -> {
      x.kind(1, 1);
      x.ledger(0, 1, 0, 4);
      x.ledger(1, 0, 0, 4);
    }), x -> x.missing(0, 0, false));
    Setup notWeighed = both(TWO_KINDS, x -> x.book(0, 0, 999));
    holds(11, "no WEIGHING, AT LEAST", 0, notWeighed, x -> x.missing(0, 0, false));
    holds(11, "no WEIGHING, AT MOST", 999, notWeighed, x -> x.missing(0, 0, true));
    holds(11, "none is there, AT LEAST", 999, both(notWeighed, x -> x.weigh(0, 0, 0, 0)), x -> x.missing(0, 0, false));
    Setup quarrelling = both(missingOf(20), x -> x.weigh(0, 0, 140, 20));
    refuses(11, "nothing is SURE, AT LEAST", STATE, quarrelling, x -> x.missing(0, 0, false));
    refuses(11, "nothing is SURE, AT MOST", STATE, quarrelling, x -> x.missing(0, 0, true));
    refuses(11, "nothing is SURE, THE BOOK is 0", STATE, both(quarrelling, x -> x.book(0, 0, 0)), x -> x.missing(0, 0, true));
    refuses(11, "nothing is SURE of one WEIGHING alone", STATE, weighed(1, 1, 2001, 0), x -> x.missing(0, 0, true));
    holds(11, "something is SURE again", 9, both(quarrelling, x -> x.drop(1)), x -> x.missing(0, 0, false));
    holds(11, "nothing is SURE of another HOUSE", 0, quarrelling, x -> x.missing(1, 0, true));
  }

  /** So many MISSING AT LEAST of a KIND in a HOUSE. */
  private static void lose(HotelSilver x, int house, int kind, int n) {
    x.book(house, kind, n);
    x.weigh(house, kind, 0, 0);
  }

  private static void worst() {
    holds(12, "there is no KIND", NONE, NOTHING, x -> x.worst());
    holds(12, "it is 0 in all", NONE, TWO_KINDS, x -> x.worst());
    holds(12, "AT MOST is above 0, but AT LEAST is 0", NONE, both(TWO_KINDS, x -> x.book(2, 0, 999)), x -> x.worst());
    holds(12, "1 in the first HOUSE", 0, both(TWO_KINDS, x -> lose(x, 0, 0, 1)), x -> x.worst());
    holds(12, "1 in the last HOUSE", 4, both(TWO_KINDS, x -> lose(x, 4, 1, 1)), x -> x.worst());
    holds(12, "of like ones the least", 1, both(TWO_KINDS, x -> {
      lose(x, 3, 0, 7);
      lose(x, 1, 1, 7);
    }), x -> x.worst());
    holds(12, "1 more is the greatest", 3, both(TWO_KINDS, x -> {
      lose(x, 1, 0, 7);
      lose(x, 3, 1, 8);
    }), x -> x.worst());
    holds(12, "all five alike", 0, both(TWO_KINDS, x -> { for (int h = 4; h >= 0; h--) lose(x, h, 0, 3); }), x -> x.worst());
    holds(12, "all KINDS together, like", 1, both(TWO_KINDS, x -> {
      lose(x, 1, 0, 9);
      lose(x, 2, 0, 4);
      lose(x, 2, 1, 5);
    }), x -> x.worst());
    holds(12, "all KINDS together, 1 more", 2, both(TWO_KINDS, x -> {
      lose(x, 1, 0, 9);
      lose(x, 2, 0, 5);
      lose(x, 2, 1, 5);
    }), x -> x.worst());
    holds(12, "the last KIND there may be", 2, both(SIX_KINDS, x -> {
      lose(x, 1, 0, 9);
      lose(x, 2, 5, 10);
    }), x -> x.worst());
    holds(12, "nothing SURE counts 0", NONE, both(TWO_KINDS, x -> {
      lose(x, 2, 0, 9);
      x.weigh(2, 0, 400, 0);
    }), x -> x.worst());
    holds(12, "nothing SURE counts 0, not below", 2, both(TWO_KINDS, x -> {
      lose(x, 2, 0, 9);
      x.weigh(2, 0, 400, 0);
      lose(x, 2, 1, 1);
    }), x -> x.worst());
    holds(12, "more in the LEDGER than in THE BOOK counts 0, not below", 2, both(TWO_KINDS, x -> {
      lose(x, 2, 0, 0);
      x.ledger(2, 0, 0, 999);
      lose(x, 2, 1, 1);
    }), x -> x.worst());
  }

  public static void main(String[] args) {
    kind();
    book();
    weigh();
    lets();
    drop();
    sure();
    quarrel();
    tray();
    trayPair();
    ledger();
    missing();
    worst();
    end(2, 12);
  }
}
