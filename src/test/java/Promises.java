/** Promise by promise: ordinary inputs, the edges that the document names, wrong inputs; worked out by hand. */
public final class Promises {
  private static final int UNKNOWN = -1, OUTSIDE = -2, STATE = -3, FULL = -4, NONE = -9;
  private static final int MIN = Integer.MIN_VALUE, MAX = Integer.MAX_VALUE;
  private static int wrong = 0;
  private static int asked = 0;

  private static void due(int promise, String call, int got, int want) {
    asked++;
    if (got != want) {
      wrong++;
      System.out.println("promise " + promise + ": " + call + " answered " + got + ", due is " + want);
    }
  }

  /** Two KINDS: 0 weighs 40 to 42, 1 weighs 85 to 90. */
  private static HotelSilver withKinds() {
    HotelSilver x = new HotelSilver();
    x.kind(40, 42);
    x.kind(85, 90);
    return x;
  }

  private static void newObject() {
    HotelSilver x = new HotelSilver();
    for (int what = 0; what <= 6; what++) due(1, "count(" + what + ")", x.count(what), 0);
    int[] first = {100, 100, 10, 20};
    for (int lot = 0; lot < 4; lot++)
      for (int what = 0; what < 4; what++) due(1, "lot at first", x.lot(lot, what, 50), first[what]);
    due(1, "crew at first", x.crew(1), 1);
    due(1, "no kind", x.sure(0, 0, true), UNKNOWN);
    due(1, "worst()", x.worst(), NONE);
    for (int a = 0; a < 5; a++)
      for (int b = 0; b < 5; b++) due(1, "farness at first", x.farness(a, b, 1), a == b ? STATE : 1);
    HotelSilver y = new HotelSilver();
    due(1, "objects are apart", y.lot(0, 0, 1), 100);
  }

  private static void kind() {
    HotelSilver x = new HotelSilver();
    due(2, "low 0", x.kind(0, 1), OUTSIDE);
    due(2, "low 2001", x.kind(2001, 2001), OUTSIDE);
    due(2, "high 2001", x.kind(1, 2001), OUTSIDE);
    due(2, "high below low", x.kind(7, 6), OUTSIDE);
    due(2, "far off", x.kind(MIN, MAX), OUTSIDE);
    due(2, "the lightest", x.kind(1, 1), 0);
    due(2, "the widest", x.kind(1, 2000), 1);
    due(2, "the heaviest", x.kind(2000, 2000), 2);
    for (int i = 3; i < 6; i++) due(2, "its number", x.kind(5, 9), i);
    due(2, "a seventh", x.kind(5, 9), FULL);
    due(2, "a seventh, outside", x.kind(9, 5), OUTSIDE);
    due(2, "count", x.count(0), 6);
  }

  private static void book() {
    HotelSilver x = withKinds();
    due(3, "first", x.book(0, 0, 999), 0);
    due(3, "second", x.book(0, 0, 0), 999);
    due(3, "third", x.book(0, 0, 12), 0);
    due(3, "another house", x.book(4, 0, 3), 0);
    due(3, "another kind", x.book(0, 1, 4), 0);
    due(3, "house -1", x.book(-1, 0, 1), UNKNOWN);
    due(3, "house 5", x.book(5, 0, 1), UNKNOWN);
    due(3, "kind -1", x.book(0, -1, 1), UNKNOWN);
    due(3, "kind 2", x.book(0, 2, 1), UNKNOWN);
    due(3, "n -1", x.book(0, 0, -1), OUTSIDE);
    due(3, "n 1000", x.book(0, 0, 1000), OUTSIDE);
    due(3, "unknown first", x.book(5, 0, 1000), UNKNOWN);
    due(3, "nothing changed", x.book(0, 0, 1), 12);
    due(3, "kept apart", x.book(4, 0, 1), 3);
    due(3, "kept apart", x.book(0, 1, 1), 4);
  }

  private static void weigh() {
    HotelSilver x = withKinds();
    due(4, "house 5", x.weigh(5, 0, 0, 0), UNKNOWN);
    due(4, "house -1", x.weigh(-1, 0, 0, 0), UNKNOWN);
    due(4, "kind 2", x.weigh(0, 2, 0, 0), UNKNOWN);
    due(4, "kind -1", x.weigh(0, -1, 0, 0), UNKNOWN);
    due(4, "unknown first", x.weigh(0, 2, -1, -1), UNKNOWN);
    due(4, "weight -1", x.weigh(0, 0, -1, 0), OUTSIDE);
    due(4, "weight 2000001", x.weigh(0, 0, 2000001, 0), OUTSIDE);
    due(4, "give -1", x.weigh(0, 0, 0, -1), OUTSIDE);
    due(4, "give 501", x.weigh(0, 0, 0, 501), OUTSIDE);
    due(4, "far off", x.weigh(0, 0, MAX, MIN), OUTSIDE);
    due(4, "count", x.count(1), 0);
    due(4, "edges", x.weigh(0, 0, 0, 0), 0);
    due(4, "edges", x.weigh(4, 1, 2000000, 500), 1);
    for (int i = 2; i < 40; i++) due(4, "its number", x.weigh(1, 0, 100, 500), i);
    due(4, "a 41st", x.weigh(1, 0, 100, 500), FULL);
    due(4, "a 41st, outside", x.weigh(1, 0, 100, 501), OUTSIDE);
    due(4, "drop", x.drop(3), 1);
    due(4, "a dropped one keeps its number", x.weigh(1, 0, 100, 500), FULL);
    due(4, "count", x.count(1), 39);
  }

  private static void drop() {
    HotelSilver x = withKinds();
    due(5, "none yet", x.drop(0), UNKNOWN);
    x.weigh(0, 0, 400, 0);
    x.weigh(0, 0, 5000, 0);
    due(5, "both", x.sure(0, 0, false), NONE);
    due(5, "-1", x.drop(-1), UNKNOWN);
    due(5, "2", x.drop(2), UNKNOWN);
    due(5, "drop", x.drop(1), 1);
    due(5, "again", x.drop(1), STATE);
    due(5, "one left", x.sure(0, 0, false), 10);
    due(5, "next number", x.weigh(0, 0, 400, 0), 2);
    due(5, "still dropped", x.drop(1), STATE);
    due(5, "the first", x.drop(0), 1);
    due(5, "the third", x.drop(2), 1);
    due(5, "nothing weighed", x.sure(0, 0, true), 2000);
    due(5, "count", x.count(1), 0);
  }

  private static void sure() {
    HotelSilver x = withKinds();
    due(6, "no weighing, least", x.sure(2, 1, false), 0);
    due(6, "no weighing, greatest", x.sure(2, 1, true), 2000);
    // 420: ten of 42 reach it just so, ten of 40 are 400, eleven of 40 are 440.
    x.weigh(2, 0, 420, 0);
    due(6, "just reached", x.sure(2, 0, false), 10);
    due(6, "just not above", x.sure(2, 0, true), 10);
    // 440: eleven of 40 just so; ten of 42 are 420 and not enough.
    x.weigh(3, 0, 440, 0);
    due(6, "just 11", x.sure(3, 0, false), 11);
    due(6, "just 11", x.sure(3, 0, true), 11);
    // 430 right to 9: 421 to 439: ten of 42 are 420, eleven of 40 are 440: no number.
    x.weigh(4, 0, 430, 9);
    due(6, "between", x.sure(4, 0, false), NONE);
    due(6, "between", x.sure(4, 0, true), NONE);
    x.drop(2);
    // Right to 10: 420 to 440: both.
    x.weigh(4, 0, 430, 10);
    due(6, "give, least", x.sure(4, 0, false), 10);
    due(6, "give, greatest", x.sure(4, 0, true), 11);
    due(6, "other houses untold", x.sure(0, 0, true), 2000);
    due(6, "other kinds untold", x.sure(4, 1, true), 2000);
    // 80 right to 500: below nothing at the least.
    x.weigh(1, 0, 80, 500);
    due(6, "give above the weight", x.sure(1, 0, false), 0);
    due(6, "give above the weight", x.sure(1, 0, true), 14);
    x.weigh(1, 0, 210, 0);
    due(6, "both let", x.sure(1, 0, false), 5);
    due(6, "both let", x.sure(1, 0, true), 5);
    due(6, "house 5", x.sure(5, 0, true), UNKNOWN);
    due(6, "house -1", x.sure(-1, 0, true), UNKNOWN);
    due(6, "kind 2", x.sure(0, 2, true), UNKNOWN);
    HotelSilver y = new HotelSilver();
    y.kind(1, 1);
    y.kind(1, 2000);
    y.weigh(0, 0, 2000, 0);
    due(6, "2000", y.sure(0, 0, false), 2000);
    y.weigh(1, 0, 2001, 0);
    due(6, "2001 is none", y.sure(1, 0, false), NONE);
    y.weigh(0, 1, 2000000, 0);
    due(6, "wide, least", y.sure(0, 1, false), 1000);
    due(6, "wide, greatest", y.sure(0, 1, true), 2000);
  }

  private static void quarrel() {
    HotelSilver x = withKinds();
    due(7, "none", x.quarrel(0, 0), NONE);
    x.weigh(0, 0, 400, 0);
    x.weigh(1, 0, 9000, 0);
    due(7, "another house", x.quarrel(0, 0), NONE);
    x.weigh(0, 0, 400, 100);
    x.weigh(0, 0, 440, 0);
    due(7, "the fourth", x.quarrel(0, 0), 3);
    x.weigh(0, 0, 9000, 0);
    due(7, "still the fourth", x.quarrel(0, 0), 3);
    x.drop(0);
    due(7, "the fifth", x.quarrel(0, 0), 4);
    x.drop(4);
    due(7, "none", x.quarrel(0, 0), NONE);
    x.weigh(0, 1, 1, 0);
    due(7, "one alone", x.quarrel(0, 1), 5);
    due(7, "house 5", x.quarrel(5, 0), UNKNOWN);
    due(7, "house -1", x.quarrel(-1, 0), UNKNOWN);
    due(7, "kind 2", x.quarrel(0, 2), UNKNOWN);
  }

  private static void trays() {
    HotelSilver x = withKinds();
    // 125 to 132 is one of each; alone 3 of the first (120 to 126) reach 125; of the second none.
    due(8, "one of each", x.tray(0, 1, 130, 2), 1);
    due(9, "one of each", x.trayPair(0, 1, 130, 2, 0), 1001);
    due(8, "both", x.tray(0, 1, 128, 2), 2);
    due(9, "first", x.trayPair(0, 1, 128, 2, 0), 1001);
    due(9, "second", x.trayPair(0, 1, 128, 2, 1), 3000);
    due(9, "no third", x.trayPair(0, 1, 128, 2, 2), NONE);
    due(9, "other way round", x.trayPair(1, 0, 128, 2, 0), 3);
    due(9, "other way round", x.trayPair(1, 0, 128, 2, 1), 1001);
    due(9, "before the first", x.trayPair(0, 1, 128, 2, -1), NONE);
    due(9, "far off", x.trayPair(0, 1, 128, 2, MIN), NONE);
    due(9, "far off", x.trayPair(0, 1, 128, 2, MAX), NONE);
    due(8, "nothing", x.tray(0, 1, 0, 0), 1);
    due(9, "nothing", x.trayPair(0, 1, 0, 0, 0), 0);
    due(8, "no pair", x.tray(0, 1, 20, 19), 0);
    due(9, "no pair", x.trayPair(0, 1, 20, 19, 0), NONE);
    // 26400 is 200 of each at their heaviest.
    due(8, "the most", x.tray(0, 1, 26400, 0), 1);
    due(9, "the most", x.trayPair(0, 1, 26400, 0, 0), 200200);
    due(8, "above the most", x.tray(0, 1, 26401, 0), 0);
    due(8, "above the most, give", x.tray(0, 1, 26901, 500), 0);
    due(8, "above the most, give", x.tray(0, 1, 26900, 500), 1);
    due(8, "heaviest", x.tray(0, 1, 2000000, 500), 0);
    HotelSilver y = new HotelSilver();
    y.kind(1, 2000);
    y.kind(1, 2000);
    due(8, "all but one", y.tray(0, 1, 500, 499), 201 * 201 - 1);
    due(8, "all", y.tray(0, 1, 400, 400), 201 * 201);
    due(9, "by a, then b", y.trayPair(0, 1, 400, 400, 201), 1000);
    due(9, "the last", y.trayPair(0, 1, 400, 400, 201 * 201 - 1), 200200);
    int[][] calls = {{2, 1, 0, 0}, {-1, 1, 0, 0}, {0, 2, 0, 0}, {0, -1, 0, 0}, {2, 2, -1, 0}, {0, 1, -1, 0},
        {0, 1, 2000001, 0}, {0, 1, 0, -1}, {0, 1, 0, 501}, {0, 0, -1, 0}, {0, 0, 0, 0}, {1, 1, 5, 5}};
    int[] refusals = {UNKNOWN, UNKNOWN, UNKNOWN, UNKNOWN, UNKNOWN, OUTSIDE,
        OUTSIDE, OUTSIDE, OUTSIDE, OUTSIDE, STATE, STATE};
    for (int i = 0; i < calls.length; i++) {
      int[] c = calls[i];
      due(8, "refusal " + i, x.tray(c[0], c[1], c[2], c[3]), refusals[i]);
      due(9, "refusal " + i, x.trayPair(c[0], c[1], c[2], c[3], 0), refusals[i]);
      due(9, "refusal " + i, x.trayPair(c[0], c[1], c[2], c[3], -1), refusals[i]);
    }
  }

  private static void ledger() {
    HotelSilver x = withKinds();
    for (int what = 0; what < 3; what++) due(10, "at first", x.ledger(1, 1, what, 10 + what), 0);
    for (int what = 0; what < 3; what++) due(10, "then", x.ledger(1, 1, what, 999), 10 + what);
    due(10, "another house", x.ledger(0, 1, 0, 0), 0);
    due(10, "another kind", x.ledger(1, 0, 0, 0), 0);
    due(10, "house 5", x.ledger(5, 0, 0, 0), UNKNOWN);
    due(10, "house -1", x.ledger(-1, 0, 0, 0), UNKNOWN);
    due(10, "kind 2", x.ledger(0, 2, 0, 0), UNKNOWN);
    due(10, "unknown first", x.ledger(0, 2, 3, 0), UNKNOWN);
    due(10, "what -1", x.ledger(1, 1, -1, 0), OUTSIDE);
    due(10, "what 3", x.ledger(1, 1, 3, 0), OUTSIDE);
    due(10, "n -1", x.ledger(1, 1, 0, -1), OUTSIDE);
    due(10, "n 1000", x.ledger(1, 1, 0, 1000), OUTSIDE);
    due(10, "nothing changed", x.ledger(1, 1, 0, 0), 999);
  }

  private static void missing() {
    HotelSilver x = withKinds();
    due(11, "nothing", x.missing(0, 0, true), 0);
    x.book(0, 0, 50);
    due(11, "not weighed, at least", x.missing(0, 0, false), 0);
    due(11, "not weighed, at most", x.missing(0, 0, true), 50);
    x.weigh(0, 0, 430, 10);
    due(11, "weighed, at least", x.missing(0, 0, false), 39);
    due(11, "weighed, at most", x.missing(0, 0, true), 40);
    x.ledger(0, 0, 0, 1);
    x.ledger(0, 0, 1, 2);
    x.ledger(0, 0, 2, 4);
    due(11, "parted, at least", x.missing(0, 0, false), 32);
    due(11, "parted, at most", x.missing(0, 0, true), 33);
    x.ledger(0, 0, 2, 36);
    due(11, "just so, at least", x.missing(0, 0, false), 0);
    due(11, "just so, at most", x.missing(0, 0, true), 1);
    x.ledger(0, 0, 2, 999);
    due(11, "never below 0", x.missing(0, 0, false), 0);
    due(11, "never below 0", x.missing(0, 0, true), 0);
    x.weigh(0, 0, 9000, 0);
    due(11, "nothing sure", x.missing(0, 0, false), STATE);
    due(11, "nothing sure", x.missing(0, 0, true), STATE);
    due(11, "house 5", x.missing(5, 0, true), UNKNOWN);
    due(11, "house -1", x.missing(-1, 0, true), UNKNOWN);
    due(11, "kind 2", x.missing(0, 2, true), UNKNOWN);
  }

  private static void worst() {
    HotelSilver x = withKinds();
    due(12, "nothing", x.worst(), NONE);
    x.book(1, 0, 5);
    due(12, "at most is not at least", x.worst(), NONE);
    x.weigh(1, 0, 0, 0);
    due(12, "five", x.worst(), 1);
    x.book(3, 0, 3);
    x.weigh(3, 0, 0, 0);
    x.book(3, 1, 2);
    x.weigh(3, 1, 0, 0);
    due(12, "like ones: the least", x.worst(), 1);
    x.book(3, 1, 3);
    due(12, "of all kinds together", x.worst(), 3);
    x.weigh(3, 1, 9000, 0);
    due(12, "nothing sure counts 0", x.worst(), 1);
    x.ledger(1, 0, 1, 3);
    due(12, "guests took three", x.worst(), 3);
    x.ledger(3, 0, 0, 3);
    x.ledger(1, 0, 2, 2);
    due(12, "0 in all", x.worst(), NONE);
    x.book(4, 1, 1);
    x.weigh(4, 1, 0, 0);
    due(12, "the last house", x.worst(), 4);
    x.book(0, 1, 2);
    x.weigh(0, 1, 0, 0);
    due(12, "the first house", x.worst(), 0);
  }

  private static void farness() {
    HotelSilver x = withKinds();
    due(13, "at first", x.farness(0, 4, 99), 1);
    due(13, "both ways", x.farness(4, 0, 0), 99);
    due(13, "then", x.farness(0, 4, 5), 0);
    due(13, "others", x.farness(0, 3, 5), 1);
    due(13, "a -1", x.farness(-1, 0, 1), UNKNOWN);
    due(13, "a 5", x.farness(5, 0, 1), UNKNOWN);
    due(13, "b -1", x.farness(0, -1, 1), UNKNOWN);
    due(13, "b 5", x.farness(0, 5, 1), UNKNOWN);
    due(13, "unknown first", x.farness(5, 5, 100), UNKNOWN);
    due(13, "n -1", x.farness(0, 1, -1), OUTSIDE);
    due(13, "n 100", x.farness(0, 1, 100), OUTSIDE);
    due(13, "outside first", x.farness(2, 2, 100), OUTSIDE);
    due(13, "one", x.farness(2, 2, 3), STATE);
    due(13, "nothing changed", x.farness(1, 0, 1), 1);
    x.book(2, 0, 5);
    x.event(0, 2, 0, 5);
    due(13, "one and itself is 0", x.carried(0), 0);
  }

  private static void event() {
    HotelSilver x = withKinds();
    due(14, "house 5", x.event(0, 5, 0, 1), UNKNOWN);
    due(14, "house -1", x.event(0, -1, 0, 1), UNKNOWN);
    due(14, "kind 2", x.event(0, 0, 2, 1), UNKNOWN);
    due(14, "kind -1", x.event(0, 0, -1, 1), UNKNOWN);
    due(14, "unknown first", x.event(-1, 0, 2, 0), UNKNOWN);
    due(14, "day -1", x.event(-1, 0, 0, 1), OUTSIDE);
    due(14, "day 1000", x.event(1000, 0, 0, 1), OUTSIDE);
    due(14, "need 0", x.event(0, 0, 0, 0), OUTSIDE);
    due(14, "need 501", x.event(0, 0, 0, 501), OUTSIDE);
    due(14, "count", x.count(2), 0);
    due(14, "edges", x.event(0, 0, 0, 1), 0);
    due(14, "edges", x.event(999, 4, 1, 500), 1);
    for (int i = 2; i < 12; i++) due(14, "its number", x.event(5, 1, 1, 7), i);
    due(14, "a 13th", x.event(5, 1, 1, 7), FULL);
    due(14, "a 13th, outside", x.event(5, 1, 1, 0), OUTSIDE);
    x.off(4);
    due(14, "one that is off keeps its number", x.event(5, 1, 1, 7), FULL);
    due(14, "count", x.count(2), 11);
  }

  private static void off() {
    HotelSilver x = withKinds();
    due(15, "none yet", x.off(0), UNKNOWN);
    x.event(3, 0, 0, 1);
    x.event(3, 1, 0, 2);
    due(15, "-1", x.off(-1), UNKNOWN);
    due(15, "2", x.off(2), UNKNOWN);
    due(15, "needed", x.inNeed(0), 3);
    due(15, "off", x.off(0), 1);
    due(15, "again", x.off(0), STATE);
    due(15, "count", x.count(2), 1);
    due(15, "off", x.off(1), 1);
    due(15, "nothing is needed", x.inNeed(0), NONE);
    due(15, "nothing is carried", x.carried(0), 0);
    due(15, "next number", x.event(3, 1, 0, 2), 2);
    due(15, "still off", x.off(0), STATE);
  }

  private static void carried() {
    HotelSilver x = withKinds();
    due(16, "no event", x.carried(0), 0);
    due(16, "kind 2", x.carried(2), UNKNOWN);
    due(16, "kind -1", x.carried(-1), UNKNOWN);
    x.book(0, 0, 10);
    x.event(5, 1, 0, 4);
    due(16, "four go", x.carried(0), 4);
    due(16, "the other kind", x.carried(1), 0);
    x.farness(0, 1, 7);
    due(16, "four go far", x.carried(0), 28);
    // Two goes of 1 by way of HOUSE 2 are only there once there is a DAY ahead.
    x.event(2, 4, 1, 1);
    due(16, "a day of another kind is none", x.carried(0), 28);
    x.event(2, 0, 0, 1);
    due(16, "once ahead of each day", x.carried(0), 8);
    x.off(2);
    due(16, "off again", x.carried(0), 28);
    x.event(5, 1, 0, 6);
    due(16, "one house on one day together", x.carried(0), 70);
    x.event(5, 3, 0, 1);
    due(16, "eleven of ten", x.carried(0), NONE);
    x.book(3, 0, 1);
    // The one in HOUSE 3 goes to HOUSE 1, one of HOUSE 0 takes its place, nine go far.
    due(16, "one more piece", x.carried(0), 1 + 1 + 63);
    x.event(6, 0, 0, 11);
    due(16, "all back", x.carried(0), 65 + 70 + 1);

    HotelSilver y = withKinds();
    // The nearer HOUSE serves the one that is far from all others.
    y.book(0, 0, 1);
    y.book(1, 0, 1);
    y.farness(0, 2, 1);
    y.farness(0, 3, 2);
    y.farness(1, 2, 3);
    y.farness(1, 3, 9);
    y.event(0, 2, 0, 1);
    y.event(0, 3, 0, 1);
    due(16, "not the nearest first", y.carried(0), 5);
    y.book(1, 0, 0);
    due(16, "one piece for two", y.carried(0), NONE);
    y.book(0, 0, 2);
    due(16, "both from one house", y.carried(0), 3);
    HotelSilver z = withKinds();
    z.book(0, 1, 999);
    z.farness(0, 1, 99);
    for (int i = 0; i < 12; i++) z.event(999 - i, i % 2, 1, 500);
    // HOUSES 1 and 0 by turns need 500 of 999: 500 go ahead of the first DAY, when there is no way but straight;
    // then one ahead of each of the 11 DAYS that follow, as all others are needed where they are.
    due(16, "there and back", z.carried(1), 500 * 99 + 11 * 99);
    z.book(4, 1, 1);
    // With one piece more nobody has to come back; it lies 1 from both.
    due(16, "one piece more", z.carried(1), 499 * 99 + 1);
    // HOUSES in a row: a go of 2 brings a piece one HOUSE on, any other go costs 99. Each EVENT in HOUSE 0 is a DAY more.
    HotelSilver row = withKinds();
    row.book(0, 0, 2);
    for (int a = 0; a < 5; a++)
      for (int b = 0; b < a; b++) row.farness(a, b, a - b == 1 ? 2 : 99);
    row.event(990, 4, 0, 1);
    int[] inGoes = {99, 99, 99, 8, 8, 8};
    for (int more = 0; more < 6; more++) {
      due(16, "in " + (more + 1) + " goes", row.carried(0), inGoes[more]);
      row.event(100 - more, 0, 0, 1);
    }
    row.event(991, 0, 0, 2);
    due(16, "and back in one", row.carried(0), 8 + 99);
  }

  private static void inNeed() {
    HotelSilver x = withKinds();
    due(17, "no event", x.inNeed(0), NONE);
    due(17, "kind 2", x.inNeed(2), UNKNOWN);
    due(17, "kind -1", x.inNeed(-1), UNKNOWN);
    x.book(0, 0, 5);
    x.book(4, 0, 5);
    x.event(9, 0, 0, 11);
    x.event(7, 0, 0, 10);
    due(17, "above all", x.inNeed(0), 9);
    x.event(7, 3, 0, 1);
    due(17, "together", x.inNeed(0), 7);
    x.event(0, 3, 1, 1);
    due(17, "another kind", x.inNeed(0), 7);
    due(17, "another kind", x.inNeed(1), 0);
    x.book(1, 0, 1);
    due(17, "just enough", x.inNeed(0), NONE);
    x.off(2);
    x.book(1, 0, 0);
    due(17, "off", x.inNeed(0), 9);
  }

  private static void costs() {
    HotelSilver x = withKinds();
    due(18, "none yet", x.costs(0), UNKNOWN);
    x.book(0, 0, 10);
    x.farness(0, 1, 7);
    x.event(5, 1, 0, 4);
    due(18, "-1", x.costs(-1), UNKNOWN);
    due(18, "1", x.costs(1), UNKNOWN);
    due(18, "all of it", x.costs(0), 28);
    x.event(5, 2, 0, 1);
    due(18, "one of two", x.costs(0), 28);
    due(18, "the other", x.costs(1), 1);
    x.event(2, 0, 0, 1);
    // With DAY 2 the four go by HOUSE 2 or others in two goes of 1: 8 and not 28.
    due(18, "without its day it costs more", x.costs(2), 9 - 29);
    x.event(1, 3, 0, 11);
    due(18, "can't be served", x.costs(0), NONE);
    due(18, "can't be served with it", x.costs(3), NONE);
    x.off(3);
    due(18, "off", x.costs(3), STATE);
    x.event(3, 3, 1, 1);
    due(18, "another kind can't", x.costs(4), NONE);
    due(18, "this one can", x.costs(1), 1);
  }

  private static void lot() {
    HotelSilver x = new HotelSilver();
    int[] least = {0, 1, 0, 0}, most = {200, 200, 99, 100}, first = {100, 100, 10, 20};
    for (int what = 0; what < 4; what++) {
      due(19, "at first", x.lot(3, what, least[what]), first[what]);
      due(19, "least", x.lot(3, what, most[what]), least[what]);
      due(19, "below", x.lot(3, what, least[what] - 1), OUTSIDE);
      due(19, "above", x.lot(3, what, most[what] + 1), OUTSIDE);
      due(19, "most, nothing changed", x.lot(3, what, 7), most[what]);
      due(19, "another lot", x.lot(2, what, 9), first[what]);
    }
    for (int what = 0; what < 4; what++) due(19, "kept", x.lot(3, what, 8), 7);
    due(19, "lot 4", x.lot(4, 0, 0), UNKNOWN);
    due(19, "lot -1", x.lot(-1, 0, 0), UNKNOWN);
    due(19, "unknown first", x.lot(4, 4, 201), UNKNOWN);
    due(19, "what 4", x.lot(0, 4, 5), OUTSIDE);
    due(19, "what -1", x.lot(0, -1, 5), OUTSIDE);
    x.lot(0, 1, 50);
    due(19, "plate above full", x.lot(0, 0, 60), 100);
    due(19, "plate above full", x.lot(0, 0, 60), 60);
  }

  private static void crew() {
    HotelSilver x = new HotelSilver();
    due(20, "at first", x.crew(4), 1);
    due(20, "-1", x.crew(-1), OUTSIDE);
    due(20, "5", x.crew(5), OUTSIDE);
    due(20, "then", x.crew(0), 4);
    due(20, "then", x.crew(2), 0);
    due(20, "three are more than the crew", x.month(7), STATE);
    due(20, "two are not", x.month(6), 0);
  }

  private static void plans() {
    HotelSilver x = new HotelSilver();
    int[] wrongMonths = {0, 9, -1, MIN, MAX};
    for (int months : wrongMonths) {
      due(21, "months " + months, x.plan(months), OUTSIDE);
      due(22, "months " + months, x.planned(months, 0), OUTSIDE);
    }
    due(22, "i -1", x.planned(3, -1), OUTSIDE);
    due(22, "i 3", x.planned(3, 3), OUTSIDE);
    due(21, "100 less 80 is 20", x.plan(8), 0);
    due(22, "nothing", x.planned(8, 7), 0);
    // LOT 2 lasts one month; then it is replated: 100 less 70 is 30, so it lasts seven.
    x.lot(2, 0, 30);
    due(21, "30 less 10 is 20", x.plan(1), 0);
    due(21, "one", x.plan(2), 1);
    due(22, "as late as can be", x.planned(2, 0), 0);
    due(22, "as late as can be", x.planned(2, 1), 4);
    due(22, "as late as can be", x.planned(8, 1), 4);
    due(22, "once is enough", x.planned(8, 7), 0);
    x.lot(2, 0, 29);
    due(21, "29 less 10 is 19", x.plan(1), 1);
    due(22, "at once", x.planned(1, 0), 4);
    // LOT 0 as well: two at once are more than the CREW, though each lasts no month.
    x.lot(0, 0, 0);
    due(21, "two at once", x.plan(1), NONE);
    due(22, "two at once", x.planned(1, 0), NONE);
    due(22, "two at once", x.planned(8, 7), NONE);
    x.crew(2);
    due(21, "a crew of two", x.plan(1), 2);
    due(22, "a crew of two", x.planned(1, 0), 5);
    x.crew(0);
    due(21, "no crew", x.plan(1), NONE);

    HotelSilver y = new HotelSilver();
    // LOTS 1 and 3 last one month each: with a CREW of 1 one goes early; the least set first.
    y.lot(1, 0, 30);
    y.lot(3, 0, 30);
    due(21, "two", y.plan(2), 2);
    due(22, "the lesser goes early", y.planned(2, 0), 2);
    due(22, "the other then", y.planned(2, 1), 8);
    due(22, "eight months", y.planned(8, 0), 2);
    due(21, "eight months", y.plan(8), 2);
    y.crew(2);
    due(22, "both late", y.planned(2, 0), 0);
    due(22, "both late", y.planned(2, 1), 10);
    // Each month anew: FULL less WEAR is LEAST.
    for (int lot = 0; lot < 4; lot++) y.lot(lot, 2, 80);
    y.crew(4);
    y.lot(1, 0, 100);
    y.lot(3, 0, 100);
    due(21, "all but the first month", y.plan(8), 28);
    due(22, "none first", y.planned(8, 0), 0);
    due(22, "all last", y.planned(8, 7), 15);
    y.lot(0, 2, 81);
    due(21, "not even full is enough", y.plan(1), NONE);
    y.lot(0, 3, 0);
    due(21, "0 is never below 0", y.plan(8), 21);
    y.crew(3);
    due(21, "three hands for three", y.plan(8), 21);
    y.crew(2);
    due(21, "two hands for three", y.plan(8), NONE);

    HotelSilver all = new HotelSilver();
    all.crew(4);
    for (int lot = 0; lot < 4; lot++) all.lot(lot, 0, 0);
    for (int months = 1; months <= 8; months++) {
      due(21, "all at once", all.plan(months), 4);
      due(22, "all at once", all.planned(months, 0), 15);
      due(22, "never more", all.planned(months, months - 1), months == 1 ? 15 : 0);
    }

    HotelSilver z = new HotelSilver();
    z.lot(0, 0, 0);
    z.lot(0, 2, 0);
    due(21, "below least without wear", z.plan(8), 1);
    due(22, "at once", z.planned(8, 0), 1);
    z.lot(0, 3, 0);
    due(21, "least 0", z.plan(8), 0);
    z.lot(1, 1, 10);
    z.lot(1, 0, 30);
    due(21, "full is below least", z.plan(2), NONE);
    due(21, "not asked yet", z.plan(1), 0);
    due(21, "a plan changes nothing", z.lot(1, 0, 30), 30);
  }

  private static void month() {
    HotelSilver x = new HotelSilver();
    due(23, "set 16", x.month(16), OUTSIDE);
    due(23, "set -1", x.month(-1), OUTSIDE);
    due(23, "set MIN", x.month(MIN), OUTSIDE);
    due(23, "two of one", x.month(3), STATE);
    due(23, "nothing changed", x.lot(0, 0, 30), 100);
    x.lot(1, 0, 29);
    x.lot(2, 0, 5);
    x.lot(3, 1, 180);
    due(23, "29 less 10, 5 less 10", x.month(8), 2);
    due(23, "30 less 10", x.lot(0, 0, 100), 20);
    due(23, "29 less 10", x.lot(1, 0, 100), 19);
    due(23, "never below 0", x.lot(2, 0, 100), 0);
    due(23, "replated, then worn", x.lot(3, 0, 200), 170);
    due(23, "replated from above", x.month(1), 0);
    due(23, "100 less 10", x.lot(0, 0, 0), 90);
    due(23, "200 less 10", x.lot(3, 0, 0), 190);
    x.lot(3, 1, 20);
    x.lot(3, 0, 200);
    due(23, "replated to less", x.month(8), 2);
    due(23, "20 less 10", x.lot(3, 0, 0), 10);
    x.crew(4);
    due(23, "all four", x.month(15), 1);
    x.crew(0);
    due(23, "none of none", x.month(0), 1);
    due(23, "one of none", x.month(1), STATE);
  }

  private static void match() {
    HotelSilver x = new HotelSilver();
    x.lot(1, 0, 120);
    due(24, "20 apart", x.match(0, 1, 20), 1);
    due(24, "20 apart", x.match(0, 1, 19), 0);
    due(24, "other way round", x.match(1, 0, 20), 1);
    due(24, "other way round", x.match(1, 0, 19), 0);
    due(24, "like ones", x.match(2, 3, 0), 1);
    due(24, "one and itself", x.match(1, 1, 0), 1);
    x.lot(2, 0, 0);
    x.lot(3, 0, 200);
    due(24, "200", x.match(2, 3, 200), 1);
    due(24, "199", x.match(2, 3, 199), 0);
    due(24, "a 4", x.match(4, 0, 0), UNKNOWN);
    due(24, "a -1", x.match(-1, 0, 0), UNKNOWN);
    due(24, "b 4", x.match(0, 4, 0), UNKNOWN);
    due(24, "b -1", x.match(0, -1, 0), UNKNOWN);
    due(24, "unknown first", x.match(0, 4, 201), UNKNOWN);
    due(24, "apart -1", x.match(0, 1, -1), OUTSIDE);
    due(24, "apart 201", x.match(0, 1, 201), OUTSIDE);
  }

  private static void mark() {
    HotelSilver x = new HotelSilver();
    int[] bad = {-1, 10, -8, -10, MIN, MAX};
    for (int sign : bad) {
      due(25, "first " + sign, x.mark(false, sign, 0, 0, 5), OUTSIDE);
      due(25, "second " + sign, x.mark(false, 0, sign, 0, 5), OUTSIDE);
      due(25, "third " + sign, x.mark(true, 0, 0, sign, 5), OUTSIDE);
    }
    due(25, "weight 0", x.mark(false, 0, 0, 0, 0), OUTSIDE);
    due(25, "weight 2001", x.mark(true, 0, 0, 0, 2001), OUTSIDE);
    due(25, "none yet", x.count(3) + x.count(4), 0);
    due(25, "edges", x.mark(false, 0, 9, NONE, 1), 0);
    due(25, "edges", x.mark(true, NONE, NONE, NONE, 2000), 0);
    for (int i = 1; i < 8; i++) due(25, "piece", x.mark(false, 1, 1, 1, 5), i);
    due(25, "a ninth piece", x.mark(false, 1, 1, 1, 5), FULL);
    due(25, "a ninth piece, outside", x.mark(false, 1, 1, 1, 0), OUTSIDE);
    for (int i = 1; i < 8; i++) due(25, "find", x.mark(true, 1, 1, 1, 5), i);
    due(25, "a ninth find", x.mark(true, 1, 1, 1, 5), FULL);
    due(25, "count", x.count(3), 8);
    due(25, "count", x.count(4), 8);
  }

  private static void clear() {
    HotelSilver x = new HotelSilver();
    due(26, "nothing", x.clear(), 0);
    x.mark(false, 1, 1, 1, 5);
    x.mark(false, 1, 1, 1, 5);
    x.mark(true, 1, 1, 1, 5);
    due(26, "three", x.clear(), 3);
    due(26, "no pieces", x.count(3), 0);
    due(26, "no finds", x.count(4), 0);
    due(26, "no piece", x.joined(0), UNKNOWN);
    due(26, "no find", x.cost(0, 0), UNKNOWN);
    due(26, "again", x.clear(), 0);
    due(26, "numbers begin anew", x.mark(true, 2, 2, 2, 9), 0);
    due(26, "numbers begin anew", x.mark(false, 2, 2, 2, 7), 0);
    due(26, "the new ones", x.cost(0, 0), 2);
  }

  private static void cost() {
    HotelSilver x = new HotelSilver();
    x.mark(false, 1, 2, 3, 100);
    x.mark(false, NONE, 2, NONE, 100);
    int[][] finds = {{1, 2, 3, 120}, {1, 2, 3, 121}, {1, 2, 3, 80}, {1, 2, 3, 79},
        {4, 2, 3, 100}, {1, 4, 3, 100}, {1, 2, 4, 100}, {NONE, NONE, NONE, 115}};
    for (int[] f : finds) x.mark(true, f[0], f[1], f[2], f[3]);
    int[] first = {20, NONE, 20, NONE, NONE, NONE, NONE, 45};
    int[] second = {40, NONE, 40, NONE, 20, NONE, 20, 45};
    for (int f = 0; f < 8; f++) {
      due(27, "whole piece, find " + f, x.cost(0, f), first[f]);
      due(27, "worn piece, find " + f, x.cost(1, f), second[f]);
    }
    due(27, "piece 2", x.cost(2, 0), UNKNOWN);
    due(27, "piece -1", x.cost(-1, 0), UNKNOWN);
    due(27, "find 8", x.cost(0, 8), UNKNOWN);
    due(27, "find -1", x.cost(0, -1), UNKNOWN);
  }

  private static void join() {
    HotelSilver x = new HotelSilver();
    due(28, "nothing", x.join(false), 0);
    due(28, "nothing", x.join(true), 0);
    x.mark(false, 1, 1, 1, 100);
    due(28, "no find", x.join(false), 0);
    due(29, "no find", x.joined(0), NONE);
    due(30, "no find", x.certain(0), 1);
    // As many as can be goes ahead of cost: PIECE 0 costs 0 with FIND 0, but then PIECE 1 has none.
    x.mark(false, 1, 1, 1, 80);
    x.mark(true, 1, 1, 1, 100);
    x.mark(true, 1, 1, 1, 120);
    due(28, "two pairs", x.join(false), 2);
    due(28, "at 40", x.join(true), 40);
    due(29, "piece 0", x.joined(0), 1);
    due(29, "piece 1", x.joined(1), 0);
    due(30, "piece 0", x.certain(0), 1);
    due(30, "piece 1", x.certain(1), 1);
    due(29, "piece 2", x.joined(2), UNKNOWN);
    due(29, "piece -1", x.joined(-1), UNKNOWN);
    due(30, "piece 2", x.certain(2), UNKNOWN);
    due(30, "piece -1", x.certain(-1), UNKNOWN);
    x.clear();
    // Like costs crosswise: 5 and 5, or 10 and 0: both 10. The lesser FIND for PIECE 0.
    x.mark(false, 1, 1, 1, 100);
    x.mark(false, 1, 1, 1, 105);
    x.mark(true, 1, 1, 1, 110);
    x.mark(true, 1, 1, 1, 105);
    due(28, "crosswise", x.join(true), 10);
    due(29, "the lesser find", x.joined(0), 0);
    due(29, "what is left", x.joined(1), 1);
    due(30, "not certain", x.certain(0), 0);
    due(30, "not certain", x.certain(1), 0);
    // A third PIECE, unlike all others, is certain to have none; its own FIND then is certain.
    x.mark(false, 2, 2, 2, 700);
    due(29, "unlike", x.joined(2), NONE);
    due(30, "certain of none", x.certain(2), 1);
    x.mark(true, 2, NONE, 2, 701);
    due(28, "three", x.join(false), 3);
    due(28, "at 21", x.join(true), 21);
    due(29, "its own", x.joined(2), 2);
    due(30, "its own", x.certain(2), 1);
    due(30, "still not", x.certain(0), 0);
    x.clear();
    // Three PIECES for two like FINDS: the first two have them; having none is behind all.
    for (int i = 0; i < 3; i++) x.mark(false, 1, 1, 1, 100);
    x.mark(true, 1, 1, 1, 100);
    x.mark(true, 1, 1, 1, 100);
    for (int i = 0; i < 3; i++) {
      due(29, "of three, " + i, x.joined(i), i == 2 ? NONE : i);
      due(30, "of three, " + i, x.certain(i), 0);
    }
    x.clear();
    for (int i = 0; i < 8; i++) {
      x.mark(false, NONE, NONE, NONE, 100);
      x.mark(true, NONE, NONE, NONE, 120);
    }
    due(28, "eight", x.join(false), 8);
    due(28, "the dearest", x.join(true), 400);
    for (int i = 0; i < 8; i++) due(29, "each its own", x.joined(i), i);
    due(30, "none is certain", x.certain(7), 0);
  }

  private static void bags() {
    HotelSilver x = new HotelSilver();
    // Of 20 bags 1 was drawn, and it held none: with T of 20 that has 20 - T ways of 20.
    due(31, "1 of 20 is one in twenty", x.doubted(20, 1, 0, 19), 0);
    due(31, "all are likely", x.doubted(20, 1, 0, 0), 0);
    due(31, "1 of 20, found", x.doubted(20, 1, 1, 1), 0);
    due(31, "1 of 21, found", x.doubted(21, 1, 1, 1), 1);
    due(31, "2 of 21, found", x.doubted(21, 1, 1, 2), 0);
    due(31, "1 of 21, none found", x.doubted(21, 1, 0, 20), 1);
    due(31, "2 of 21, none found", x.doubted(21, 1, 0, 19), 0);
    due(32, "21", x.bound(21, 1, 1, false), 2);
    due(32, "21", x.bound(21, 1, 1, true), 21);
    due(32, "21", x.bound(21, 1, 0, false), 0);
    due(32, "21", x.bound(21, 1, 0, true), 19);
    due(32, "20", x.bound(20, 1, 0, true), 19);
    due(32, "all searched", x.bound(60, 60, 60, false), 60);
    due(32, "all searched", x.bound(60, 60, 0, true), 0);
    due(32, "one bag", x.bound(1, 1, 1, true), 1);
    // 60 of which 30 were drawn, 0 found: T of 4 has choose 30 of 56 ways, 27405/487635 of all: above one in
    // twenty (0.0562); T of 5 has 142506/5461512 (0.0261).
    due(31, "4 of 60", x.doubted(60, 30, 0, 4), 0);
    due(31, "5 of 60", x.doubted(60, 30, 0, 5), 1);
    due(32, "60", x.bound(60, 30, 0, true), 4);
    due(32, "60, all found", x.bound(60, 30, 30, false), 56);
    int[][] wrongs = {{0, 1, 0, 0}, {61, 1, 0, 0}, {5, 0, 0, 0}, {5, 6, 0, 0}, {5, 2, -1, 0}, {5, 2, 3, 3},
        {MIN, MIN, MIN, MIN}, {MAX, MAX, MAX, MAX}, {-1, -1, -1, -1}};
    for (int[] w : wrongs) {
      due(31, "outside", x.doubted(w[0], w[1], w[2], w[3]), OUTSIDE);
      due(32, "outside", x.bound(w[0], w[1], w[2], true), OUTSIDE);
      due(32, "outside", x.bound(w[0], w[1], w[2], false), OUTSIDE);
    }
    due(31, "t below x", x.doubted(10, 4, 2, 1), OUTSIDE);
    due(31, "t least", x.doubted(10, 4, 2, 2), 0);
    due(31, "t most", x.doubted(10, 4, 2, 8), 0);
    due(31, "t above", x.doubted(10, 4, 2, 9), OUTSIDE);
    due(31, "t far off", x.doubted(10, 4, 2, MAX), OUTSIDE);
  }

  private static void broke() {
    HotelSilver x = new HotelSilver();
    due(33, "night -1", x.broke(-1, 0, 1), OUTSIDE);
    due(33, "night 1000", x.broke(1000, 0, 1), OUTSIDE);
    due(33, "shift -1", x.broke(0, -1, 1), OUTSIDE);
    due(33, "shift 3", x.broke(0, 3, 1), OUTSIDE);
    due(33, "n 0", x.broke(0, 0, 0), OUTSIDE);
    due(33, "n 100", x.broke(0, 0, 100), OUTSIDE);
    due(33, "none yet", x.count(5), 0);
    due(33, "edges", x.broke(0, 0, 1), 1);
    due(33, "edges", x.broke(999, 2, 99), 2);
    for (int i = 3; i <= 60; i++) due(33, "how many", x.broke(i, 1, 99), i);
    due(33, "a 61st", x.broke(1, 1, 1), FULL);
    due(33, "a 61st, outside", x.broke(1, 1, 0), OUTSIDE);
    due(33, "count", x.count(5), 60);
    due(34, "all of them", x.told(1, 0, 999), 58 * 99);
  }

  private static void told() {
    HotelSilver x = new HotelSilver();
    due(34, "nothing", x.told(0, 0, 999), NONE);
    x.broke(10, 1, 5);
    x.broke(10, 1, 6);
    x.broke(10, 1, 7);
    due(34, "one night", x.told(1, 0, 999), NONE);
    x.broke(20, 1, 8);
    due(34, "two nights", x.told(1, 0, 999), NONE);
    x.broke(30, 0, 9);
    x.broke(30, 2, 9);
    due(34, "other shifts", x.told(1, 0, 999), NONE);
    x.broke(30, 1, 10);
    due(34, "three nights", x.told(1, 0, 999), 36);
    due(34, "just these", x.told(1, 10, 30), 36);
    due(34, "without the first", x.told(1, 11, 30), NONE);
    due(34, "without the last", x.told(1, 10, 29), NONE);
    x.broke(0, 1, 1);
    x.broke(999, 1, 2);
    due(34, "edges", x.told(1, 0, 999), 39);
    due(34, "the first three", x.told(1, 0, 20), 27);
    due(34, "the other shift", x.told(0, 0, 999), NONE);
    due(34, "shift 3", x.told(3, 0, 1), OUTSIDE);
    due(34, "shift -1", x.told(-1, 0, 1), OUTSIDE);
    due(34, "from -1", x.told(1, -1, 1), OUTSIDE);
    due(34, "from 1000", x.told(1, 1000, 1000), OUTSIDE);
    due(34, "to 1000", x.told(1, 0, 1000), OUTSIDE);
    due(34, "to -1", x.told(1, 0, -1), OUTSIDE);
    due(34, "to below from", x.told(1, 20, 19), OUTSIDE);
    due(34, "one night alone", x.told(1, 10, 10), NONE);
  }

  private static void count() {
    HotelSilver x = withKinds();
    x.book(0, 0, 999);
    x.book(4, 1, 7);
    x.weigh(0, 0, 1, 1);
    x.weigh(0, 0, 1, 1);
    x.weigh(0, 0, 1, 1);
    x.drop(1);
    for (int i = 0; i < 5; i++) x.event(i, 0, 0, 1);
    x.off(0);
    for (int i = 0; i < 3; i++) x.mark(false, 1, 1, 1, 1);
    for (int i = 0; i < 5; i++) x.mark(true, 1, 1, 1, 1);
    for (int i = 0; i < 6; i++) x.broke(1, 1, 1);
    int[] want = {2, 2, 4, 3, 5, 6, 1006};
    for (int what = 0; what < 7; what++) due(35, "count(" + what + ")", x.count(what), want[what]);
    int[] bad = {-1, 7, MIN, MAX};
    for (int what : bad) due(35, "count(" + what + ")", x.count(what), OUTSIDE);
  }

  public static void main(String[] args) {
    newObject();
    kind();
    book();
    weigh();
    drop();
    sure();
    quarrel();
    trays();
    ledger();
    missing();
    worst();
    farness();
    event();
    off();
    carried();
    inNeed();
    costs();
    lot();
    crew();
    plans();
    month();
    match();
    mark();
    clear();
    cost();
    join();
    bags();
    broke();
    told();
    count();
    System.out.println(wrong == 0 ? "all " + asked + " answers are as due" : wrong + " answers are not as due");
    if (wrong != 0) System.exit(1);
  }
}
