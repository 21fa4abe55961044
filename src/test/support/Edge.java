import java.util.ArrayList;
import java.util.List;
import java.util.TreeSet;

/** What the boundary tests stand on: each has new objects of its own, its promise, and the words it is about. */
abstract class Edge {
  static final int UNKNOWN = -1, OUTSIDE = -2, STATE = -3, FULL = -4, NONE = -9;
  static final int MIN = Integer.MIN_VALUE, MAX = Integer.MAX_VALUE;

  interface Setup { void on(HotelSilver x); }
  interface Call { int on(HotelSilver x); }
  interface CallWith { int on(HotelSilver x, int v); }

  /** Promise by promise, which refusals its call names. */
  private static final int[][] NAMED = {{}, {}, {OUTSIDE, FULL}, {UNKNOWN, OUTSIDE}, {UNKNOWN, OUTSIDE, FULL},
      {UNKNOWN, STATE}, {UNKNOWN}, {UNKNOWN}, {UNKNOWN, OUTSIDE, STATE}, {UNKNOWN, OUTSIDE, STATE},
      {UNKNOWN, OUTSIDE}, {UNKNOWN, STATE}, {}, {UNKNOWN, OUTSIDE, STATE}, {UNKNOWN, OUTSIDE, FULL},
      {UNKNOWN, STATE}, {UNKNOWN}, {UNKNOWN}, {UNKNOWN, STATE}, {UNKNOWN, OUTSIDE}, {OUTSIDE}, {OUTSIDE}, {OUTSIDE},
      {OUTSIDE, STATE}, {UNKNOWN, OUTSIDE}, {OUTSIDE, FULL}, {}, {UNKNOWN}, {}, {UNKNOWN}, {UNKNOWN}, {OUTSIDE},
      {OUTSIDE}, {OUTSIDE, FULL}, {OUTSIDE}, {OUTSIDE}};
  private static final TreeSet<Integer> promisesTested = new TreeSet<>();
  private static final TreeSet<String> refusalsTested = new TreeSet<>();
  private static int ran = 0, wrong = 0;

  static final Setup NOTHING = x -> { };

  /** KIND 0 weighs 40 to 42, KIND 1 weighs 85 to 90. */
  static final Setup TWO_KINDS = x -> {
    x.kind(40, 42);
    x.kind(85, 90);
  };

  /** Something of everything, so that a refused call has something to spoil. */
  static final Setup SOMETHING = x -> {
    TWO_KINDS.on(x);
    for (int house = 0; house < 5; house++) {
      x.book(house, 0, 10 + house);
      x.book(house, 1, 20 + house);
    }
    x.weigh(0, 0, 320, 0);
    x.weigh(1, 1, 900, 5);
    x.weigh(2, 0, 100, 0);
    x.drop(2);
    x.ledger(0, 0, 0, 1);
    x.ledger(0, 0, 1, 2);
    x.ledger(3, 1, 2, 4);
    x.farness(0, 1, 7);
    x.farness(2, 4, 3);
    x.event(5, 1, 0, 14);
    x.event(7, 2, 0, 30);
    x.event(9, 0, 1, 50);
    x.event(3, 3, 1, 1);
    x.off(3);
    x.lot(0, 0, 30);
    x.lot(1, 0, 45);
    x.lot(2, 2, 30);
    x.crew(2);
    x.mark(false, 1, 2, 3, 100);
    x.mark(false, 1, NONE, 3, 110);
    x.mark(true, 1, 2, 3, 105);
    x.mark(true, NONE, NONE, NONE, 120);
    x.broke(3, 0, 5);
    x.broke(4, 0, 6);
    x.broke(9, 0, 7);
    x.broke(9, 1, 8);
  };

  /** One answer after a run of calls on a new object. */
  static void holds(int promise, String words, int want, Setup ahead, Call call) {
    promisesTested.add(promise);
    ran++;
    HotelSilver x = new HotelSilver();
    try {
      ahead.on(x);
      int got = call.on(x);
      if (got != want) fault(promise, words, "answered " + got + ", due is " + want);
    } catch (RuntimeException thrown) {
      fault(promise, words, "threw " + thrown);
    }
  }

  /** A refusal, and nothing changed by it: a twin that did not get the call looks the same. */
  static void refuses(int promise, String words, int refusal, Setup ahead, Call call) {
    holds(promise, words, refusal, ahead, call);
    refusalsTested.add(promise + " " + refusal);
    try {
      HotelSilver called = new HotelSilver(), twin = new HotelSilver();
      ahead.on(called);
      ahead.on(twin);
      call.on(called);
      if (!seen(called).equals(seen(twin))) fault(promise, words, "a refused call changed something");
    } catch (RuntimeException thrown) {
      fault(promise, words, "threw " + thrown);
    }
  }

  /** A number that goes from low to high: both ends are taken, what lies next to them or far off is refused. */
  static void range(int promise, String name, int low, int high, int refusal, CallWith call) {
    range(promise, name, low, high, refusal, SOMETHING, call);
  }

  static void range(int promise, String name, int low, int high, int refusal, Setup ahead, CallWith call) {
    takes(promise, name + " " + low + " is taken", ahead, x -> call.on(x, low));
    takes(promise, name + " " + high + " is taken", ahead, x -> call.on(x, high));
    for (int v : new int[] {low - 1, high + 1, MIN, MAX})
      refuses(promise, name + " " + v + " is refused", refusal, ahead, x -> call.on(x, v));
  }

  static void takes(int promise, String words, Setup ahead, Call call) {
    holds(promise, words, 0, ahead, x -> {
      int got = call.on(x);
      return got == UNKNOWN || got == OUTSIDE || got == STATE || got == FULL ? got : 0;
    });
  }

  private static void fault(int promise, String words, String what) {
    wrong++;
    System.out.println("promise " + promise + ", " + words + ": " + what);
  }

  /** What can be seen of an object; it is spoilt by that, and has had some 270 of its 512 calls. */
  private static List<Integer> seen(HotelSilver x) {
    List<Integer> all = new ArrayList<>();
    for (int what = -1; what <= 7; what++) all.add(x.count(what));
    seeAnswers(x, all);
    seeMarks(x, all);
    seeWhatIsSet(x, all);
    for (int weighing = 0; weighing <= 40; weighing++) all.add(x.drop(weighing));
    for (int event = 0; event <= 12; event++) all.add(x.off(event));
    all.add(x.weigh(0, 0, 1, 1));
    all.add(x.event(0, 0, 0, 1));
    all.add(x.kind(1, 1));
    all.add(x.mark(false, 1, 1, 1, 1));
    all.add(x.mark(true, 1, 1, 1, 1));
    all.add(x.broke(0, 0, 1));
    all.add(x.clear());
    return all;
  }

  private static void seeAnswers(HotelSilver x, List<Integer> all) {
    for (int house = 0; house < 5; house++) {
      for (int kind = 0; kind < 2; kind++) {
        all.add(x.sure(house, kind, false));
        all.add(x.sure(house, kind, true));
        all.add(x.quarrel(house, kind));
        all.add(x.missing(house, kind, false));
        all.add(x.missing(house, kind, true));
      }
    }
    all.add(x.worst());
    for (int kind = 0; kind < 2; kind++) {
      all.add(x.carried(kind));
      all.add(x.inNeed(kind));
    }
    for (int event = 0; event < 12; event++) all.add(x.costs(event));
    for (int months = 1; months <= 8; months++) {
      all.add(x.plan(months));
      all.add(x.planned(8, months - 1));
    }
    for (int shift = 0; shift < 3; shift++) {
      all.add(x.told(shift, 0, 999));
      all.add(x.told(shift, 0, 499));
      all.add(x.told(shift, 4, 999));
    }
  }

  private static void seeMarks(HotelSilver x, List<Integer> all) {
    all.add(x.join(false));
    all.add(x.join(true));
    for (int i = 0; i < 8; i++) {
      all.add(x.cost(i, i));
      all.add(x.cost(i, 0));
      all.add(x.joined(i));
      all.add(x.certain(i));
    }
  }

  private static void seeWhatIsSet(HotelSilver x, List<Integer> all) {
    for (int house = 0; house < 5; house++) {
      for (int kind = 0; kind < 2; kind++) {
        all.add(x.book(house, kind, 0));
        for (int what = 0; what < 3; what++) all.add(x.ledger(house, kind, what, 0));
      }
      for (int other = 0; other < house; other++) all.add(x.farness(house, other, 0));
    }
    for (int lot = 0; lot < 4; lot++) for (int what = 0; what < 4; what++) all.add(x.lot(lot, what, 1));
    all.add(x.crew(0));
  }

  /** Ends the program: no promise from first to last, and no refusal that one of them names, may be untested. */
  static void end(int first, int last) {
    for (int promise = first; promise <= last; promise++) {
      if (!promisesTested.contains(promise)) fault(promise, "all of it", "has no test");
      for (int refusal : NAMED[promise])
        if (!refusalsTested.contains(promise + " " + refusal)) fault(promise, "refusal " + refusal, "has no test");
    }
    System.out.println(wrong == 0 ? "all " + ran + " boundaries hold" : wrong + " boundaries do not hold");
    if (wrong != 0) System.exit(1);
  }
}
