import java.lang.reflect.InvocationTargetException;
import java.lang.reflect.Method;
import java.lang.reflect.Modifier;
import java.util.Comparator;
import java.util.List;
import java.util.stream.Stream;

/** Promise 1, and what 'Terms' says of all calls: the refusals' numbers, the 512 calls, arguments of any size. */
public final class EdgesOfAll extends Edge {

  private static void newObject() {
    for (int house = -1; house <= 5; house++) {
      int h = house;
      refuses(1, "no KIND: book", UNKNOWN, NOTHING, x -> x.book(h, 0, 1));
      refuses(1, "no KIND: weigh", UNKNOWN, NOTHING, x -> x.weigh(h, 0, 1, 1));
      refuses(1, "no KIND: sure", UNKNOWN, NOTHING, x -> x.sure(h, 0, true));
      refuses(1, "no KIND: quarrel", UNKNOWN, NOTHING, x -> x.quarrel(h, 0));
      refuses(1, "no KIND: ledger", UNKNOWN, NOTHING, x -> x.ledger(h, 0, 0, 1));
      refuses(1, "no KIND: missing", UNKNOWN, NOTHING, x -> x.missing(h, 0, true));
      refuses(1, "no KIND: event", UNKNOWN, NOTHING, x -> x.event(1, h, 0, 1));
    }
    refuses(1, "no KIND: tray", UNKNOWN, NOTHING, x -> x.tray(0, 1, 1, 1));
    refuses(1, "no KIND: trayPair", UNKNOWN, NOTHING, x -> x.trayPair(0, 0, 1, 1, 0));
    refuses(1, "no KIND: carried", UNKNOWN, NOTHING, x -> x.carried(0));
    refuses(1, "no KIND: inNeed", UNKNOWN, NOTHING, x -> x.inNeed(0));
    refuses(1, "no WEIGHING", UNKNOWN, NOTHING, x -> x.drop(0));
    refuses(1, "no EVENT: off", UNKNOWN, NOTHING, x -> x.off(0));
    refuses(1, "no EVENT: costs", UNKNOWN, NOTHING, x -> x.costs(0));
    refuses(1, "no PIECE: cost", UNKNOWN, NOTHING, x -> x.cost(0, 0));
    refuses(1, "no PIECE: joined", UNKNOWN, NOTHING, x -> x.joined(0));
    refuses(1, "no PIECE: certain", UNKNOWN, NOTHING, x -> x.certain(0));
    for (int what = 0; what <= 6; what++) {
      int w = what;
      holds(1, "nothing is counted, what " + w, 0, NOTHING, x -> x.count(w));
    }
    holds(1, "nothing is MISSING", NONE, NOTHING, x -> x.worst());
    holds(1, "no PIECE and no FIND to take away", 0, NOTHING, x -> x.clear());
    holds(1, "THE JOIN has no pair", 0, NOTHING, x -> x.join(false));
    holds(1, "THE JOIN costs nothing", 0, NOTHING, x -> x.join(true));
    for (int shift = 0; shift < 3; shift++) {
      int s = shift;
      holds(1, "nothing broke, SHIFT " + s, NONE, NOTHING, x -> x.told(s, 0, 999));
    }
    int[] first = {100, 100, 10, 20};
    for (int lot = 0; lot < 4; lot++) {
      for (int what = 0; what < 4; what++) {
        int l = lot, w = what;
        holds(1, "LOT " + l + " as at first, what " + w, first[w], NOTHING, x -> x.lot(l, w, 1));
      }
    }
    refuses(1, "four LOTS, no fifth", UNKNOWN, NOTHING, x -> x.lot(4, 0, 1));
    holds(1, "a CREW of 1", 1, NOTHING, x -> x.crew(0));
    holds(1, "FARNESS 1", 1, NOTHING, x -> x.farness(4, 3, 0));
    for (int cell = 0; cell < 30; cell++) {
      int house = cell / 6, kind = cell % 6;
      holds(1, "THE BOOK is 0, HOUSE " + house + ", KIND " + kind, 0,
          x -> { for (int i = 0; i < 6; i++) x.kind(1, 1); }, x -> x.book(house, kind, 1));
    }
    HotelSilver other = new HotelSilver();
    SOMETHING.on(other);
    holds(1, "another object's KINDS are not its own", 0, NOTHING, x -> x.count(0));
    holds(1, "another object's PLATES are not its own", 100, NOTHING, x -> x.lot(0, 0, 1));
    holds(1, "another object's FARNESS is not its own", 1, NOTHING, x -> x.farness(0, 1, 1));
  }

  private static void constants() {
    holds(1, "UNKNOWN is -1", UNKNOWN, NOTHING, x -> HotelSilver.UNKNOWN);
    holds(1, "OUTSIDE is -2", OUTSIDE, NOTHING, x -> HotelSilver.OUTSIDE);
    holds(1, "STATE is -3", STATE, NOTHING, x -> HotelSilver.STATE);
    holds(1, "FULL is -4", FULL, NOTHING, x -> HotelSilver.FULL);
    holds(1, "NONE is -9", NONE, NOTHING, x -> HotelSilver.NONE);
  }

  /** As full as an object gets: 6 + 30 + 90 + 40 + 12 + 16 + 60 calls. */
  private static final Setup FILLED = x -> {
    for (int i = 0; i < 6; i++) x.kind(1, 2000);
    for (int i = 0; i < 30; i++) x.book(i % 5, i / 5, 999);
    for (int i = 0; i < 90; i++) x.ledger(i % 5, i / 5 % 6, i / 30, 111);
    for (int i = 0; i < 40; i++) x.weigh(i % 5, i % 6, 2000000, 500);
    for (int i = 0; i < 12; i++) x.event(999 - i, i % 5, 0, 500);
    for (int i = 0; i < 16; i++) x.mark(i % 2 == 0, NONE, NONE, NONE, 1980 + 20 * (i % 2));
    for (int i = 0; i < 60; i++) x.broke(i, i % 3, 99);
  };

  /** 254 calls fill it, 257 ask; the one behind them is the 512th. */
  private static final Setup CALLS_511 = x -> {
    FILLED.on(x);
    Call[] asked = {y -> y.carried(0), y -> y.plan(8), y -> y.join(true), y -> y.worst(), y -> y.tray(0, 5, 400, 400)};
    for (int i = 0; i < 257; i++) asked[i % asked.length].on(x);
  };

  private static void lastCall() {
    holds(35, "the 512th call: count", 30 * 999, CALLS_511, x -> x.count(6));
    holds(28, "the 512th call: join", 400, CALLS_511, x -> x.join(true));
    holds(21, "the 512th call: plan", 0, CALLS_511, x -> x.plan(8));
    // Twelve DAYS, HOUSE by HOUSE backwards; each HOUSE has more than its NEED.
    holds(16, "the 512th call: carried", 0, CALLS_511, x -> x.carried(0));
    holds(8, "the 512th call: tray", 201 * 201, CALLS_511, x -> x.tray(0, 5, 400, 400));
    holds(34, "the 512th call: told", 20 * 99, CALLS_511, x -> x.told(1, 0, 999));
    holds(14, "the 512th call: a refusal", FULL, CALLS_511, x -> x.event(0, 0, 0, 1));
  }

  /** Every call with every argument at either end of all numbers, or near 0, on an empty and on a full object. */
  private static void anyArguments() {
    int[] values = {MIN, MIN + 1, -9, -1, 0, 1, 8, MAX - 1, MAX};
    List<Method> calls = Stream.of(HotelSilver.class.getDeclaredMethods()).filter(m -> Modifier.isPublic(m.getModifiers()))
        .sorted(Comparator.comparing(Method::getName)).toList();
    for (Setup ahead : List.of(NOTHING, SOMETHING, FILLED)) {
      for (Method call : calls) {
        holds(1, "no argument makes " + call.getName() + " throw", 0, NOTHING, x -> throwing(call, ahead, values));
      }
    }
  }

  private static int throwing(Method call, Setup ahead, int[] values) {
    Class<?>[] types = call.getParameterTypes();
    int ways = 1, thrown = 0;
    for (Class<?> type : types) ways *= type == boolean.class ? 2 : values.length;
    HotelSilver x = null;
    for (int way = 0; way < ways; way++) {
      if (way % 200 == 0) {
        x = new HotelSilver();
        ahead.on(x);
      }
      Object[] arguments = new Object[types.length];
      int left = way;
      for (int i = 0; i < types.length; i++) {
        boolean flag = types[i] == boolean.class;
        arguments[i] = flag ? (Object) (left % 2 == 1) : (Object) values[left % values.length];
        left /= flag ? 2 : values.length;
      }
      try {
        call.invoke(x, arguments);
      } catch (InvocationTargetException | IllegalAccessException e) {
        thrown++;
      }
    }
    return thrown;
  }

  public static void main(String[] args) {
    newObject();
    constants();
    lastCall();
    anyArguments();
    end(1, 1);
  }
}
