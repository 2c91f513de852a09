import java.util.ArrayList;
import java.util.HashMap;
import java.util.List;
import java.util.Map;
import java.util.NoSuchElementException;

/**
 * Many stores, made by a fixed rule, each searched in the class and in a plain model that is
 * written otherwise: by exceptions, with a new way for each PLACE and a pass for each window.
 */
public final class ModelTest {
  private static int wrong = 0;

  private static void due(String what, long got, long want) {
    if (got != want) {
      wrong++;
      if (wrong < 50) System.out.println(what + ": answered " + got + ", due is " + want);
    }
  }

  // ---- the model ----

  private static final class Failed extends RuntimeException {
    private static final long serialVersionUID = 1;
    Failed() { super(null, null, false, false); }
  }

  private static final class GivenUp extends RuntimeException {
    private static final long serialVersionUID = 1;
    GivenUp() { super(null, null, false, false); }
  }

  private static final class AtDecision extends RuntimeException {
    private static final long serialVersionUID = 1;
    AtDecision() { super(null, null, false, false); }
  }

  private static final class Need extends RuntimeException {
    private static final long serialVersionUID = 1;
    final int node;
    final transient Room room;
    Need(int node, Room room) { super(null, null, false, false); this.node = node; this.room = room; }
  }

  /** A number; or a pair of nodes; or the values of a list. */
  private static final class Value {
    long number;
    int[] pair;
    List<Full> list;
  }

  private static final class Full {
    final int kind;
    final long number;
    final List<Full> parts;
    Full(int kind, long number, List<Full> parts) { this.kind = kind; this.number = number; this.parts = parts; }
    int tokens() {
      int sum = 1;
      for (Full part : parts) sum += part.tokens();
      return sum;
    }
    void tell(List<long[]> to) {
      to.add(new long[] {kind, kind == 0 ? number : parts.size()});
      for (Full part : parts) part.tell(to);
    }
  }

  /** A way. The alternatives of a SET's way are made longer by itself, those of a SEARCH's are not. */
  private static final class Room {
    final Room around;
    final int m;
    final List<Integer> alternatives;
    final Map<Integer, Value> values = new HashMap<>();
    int decided = 0;
    int told = 0;
    Room(Room around, int m, List<Integer> alternatives) { this.around = around; this.m = m; this.alternatives = alternatives; }
    int nesting() { return around == null ? 0 : 1 + around.nesting(); }
  }

  private static final class Place {
    /** 1 a DECISION, 2 a VALUE, 3 FAILED, 4 GIVEN UP, 5 CUT. */
    int end;
    List<Integer> alternatives;
    int labour;
    List<long[]> tokens = new ArrayList<>();
  }

  private static final class Model {
    final List<int[]> nodes;
    final List<Long> numbers;
    int labour;
    int anew = 0;

    Model(List<int[]> nodes, List<Long> numbers) { this.nodes = nodes; this.numbers = numbers; }

    Value need(Room room, int n) {
      Room home = room;
      while (n < home.m) home = home.around;
      Value known = home.values.get(n);
      if (known != null) return known;
      if (home != room) throw new Need(n, home);
      labour++;
      if (labour > 2000) throw new GivenUp();
      Value made = make(room, n);
      room.values.put(n, made);
      return made;
    }

    long needNumber(Room room, int n) {
      Value value = need(room, n);
      if (value.pair != null || value.list != null) throw new Failed();
      return value.number;
    }

    static Value number(long v) {
      Value value = new Value();
      value.number = v;
      return value;
    }

    Value make(Room room, int n) {
      int[] node = nodes.get(n);
      Value value = new Value();
      switch (node[0]) {
        case 0: return number(numbers.get(n));
        case 1: return need(room, node[1 + decide(room)]);
        case 2: throw new Failed();
        case 3: value.pair = new int[] {node[1], node[2]}; return value;
        case 4: case 5: {
          int[] pair = need(room, node[1]).pair;
          if (pair == null) throw new Failed();
          return need(room, pair[node[0] - 4]);
        }
        case 6: {
          long a = needNumber(room, node[1]);
          long b = needNumber(room, node[2]);
          switch (node[3]) {
            case 0: return number(a + b);
            case 1: return number(a - b);
            case 2: return number(a * b);
            case 3: if (b == 0) throw new Failed(); return number(b == -1 ? -a : a / b);
            case 4: return number(a < b ? 1 : 0);
            default: return number(a == b ? 1 : 0);
          }
        }
        case 7: return need(room, needNumber(room, node[1]) != 0 ? node[2] : node[3]);
        case 8: value.list = setOf(room, node[1], node[2]); return value;
        default: return foldOf(need(room, node[1]).list, node[2]);
      }
    }

    int decide(Room room) {
      if (room.decided == room.alternatives.size()) {
        if (room.around == null) throw new AtDecision();
        room.alternatives.add(0);
      }
      return room.alternatives.get(room.decided++);
    }

    Value foldOf(List<Full> list, int kind) {
      if (list == null) throw new Failed();
      if (kind == 0) return number(list.size());
      for (Full one : list) if (one.kind != 0) throw new Failed();
      if (kind == 1) return number(list.stream().mapToLong(one -> one.number).sum());
      return number(list.stream().mapToLong(one -> one.number).min().orElseThrow(Failed::new));
    }

    List<Full> setOf(Room room, int a, int m) {
      if (room.nesting() == 5) throw new GivenUp();
      while (true) {
        try {
          return allWays(room, a, m);
        } catch (Need wanted) {
          if (wanted.room != room) throw wanted;
          anew++;
          need(room, wanted.node);
        }
      }
    }

    List<Full> allWays(Room room, int a, int m) {
      List<Full> list = new ArrayList<>();
      List<Integer> alternatives = new ArrayList<>();
      while (true) {
        try {
          list.add(full(new Room(room, m, alternatives), a));
          if (new Full(2, 0, list).tokens() > 100) throw new GivenUp();
        } catch (Failed left) {
          // it is left out
        }
        while (!alternatives.isEmpty() && alternatives.get(alternatives.size() - 1) == 1) alternatives.remove(alternatives.size() - 1);
        if (alternatives.isEmpty()) return list;
        alternatives.set(alternatives.size() - 1, 1);
      }
    }

    Full full(Room room, int n) {
      Value value = need(room, n);
      Full full = new Full(value.pair != null ? 1 : value.list != null ? 2 : 0, value.number,
          value.list != null ? value.list : new ArrayList<>());
      room.told += full.tokens();
      if (room.told > 100) throw new GivenUp();
      if (value.pair != null) for (int part : value.pair) full.parts.add(full(room, part));
      return full;
    }

    Place place(int n, List<Integer> alternatives) {
      Place place = new Place();
      place.alternatives = alternatives;
      labour = 0;
      try {
        full(new Room(null, 0, alternatives), n).tell(place.tokens);
        place.end = 2;
      } catch (AtDecision e) {
        place.end = 1;
      } catch (Failed e) {
        place.end = 3;
      } catch (GivenUp e) {
        place.end = 4;
      }
      place.labour = labour;
      return place;
    }
  }

  /** The PLACES in their order, up to 201 of them. */
  private static final class Order {
    final Model model;
    final int n;
    final int mode;
    final int bound;
    final Map<List<Integer>, Place> known = new HashMap<>();
    final List<Place> places = new ArrayList<>();

    Order(Model model, int n, int mode, int bound) {
      this.model = model;
      this.n = n;
      this.mode = mode;
      this.bound = bound;
      for (int window = 0; window < (mode == 1 ? 60 : 1); window++) {
        int before = places.size();
        visit(new ArrayList<>(), window);
        if (places.size() == before) break;
      }
    }

    void visit(List<Integer> alternatives, int window) {
      int depth = alternatives.size();
      int at = mode == 1 ? depth / bound : 0;
      if (at > window || places.size() > 200) return;
      Place place = known.get(alternatives);
      if (place == null) {
        place = model.place(n, alternatives);
        if (mode == 2 && place.end == 1 && depth == bound) place.end = 5;
        known.put(alternatives, place);
      }
      if (at == window) places.add(place);
      for (int k = 0; place.end == 1 && k < 2; k++) {
        List<Integer> longer = new ArrayList<>(alternatives);
        longer.add(k);
        visit(longer, window);
      }
    }
  }

  // ---- stores by a fixed rule ----

  private static long seed = 1;

  private static int below(int n) {
    seed = seed * 6364136223846793005L + 1442695040888963407L;
    return (int) ((seed >>> 33) % n);
  }

  /** What a node is most likely worth: 0 a number, 1 a pair, 2 a list. */
  private static final List<Integer> likely = new ArrayList<>();

  private static int near = 6;

  private static int pick(int kind) {
    int n = likely.size();
    int found = below(n);
    for (int k = 0; k < 12 && below(20) != 0; k++) {
      found = below(4) == 0 ? below(n) : n - 1 - below(Math.min(n, near));
      if (kind < 0 || likely.get(found) == kind) return found;
    }
    return found;
  }

  private static int[] sorts(int taste) {
    switch (taste) {
      case 0: return new int[] {0, 1, 1, 1, 3, 4, 5, 6, 6, 7, 8, 9, 2};
      case 1: return new int[] {1, 1, 1, 1, 1, 6, 6, 3, 0, 8};
      case 2: return new int[] {8, 8, 8, 1, 9, 6, 3, 0, 1, 7};
      case 3: return new int[] {3, 3, 3, 4, 5, 1, 6, 0, 8};
      case 4: return new int[] {8, 8, 3, 1, 9, 6, 4, 5};
      case 5: return new int[] {1, 6, 6, 7, 8, 9, 1, 0, 2};
      case 6: return new int[] {3, 3, 3, 3, 1, 0, 8};
      case 7: return new int[] {8, 8, 8, 8, 8, 3, 1, 6};
      default: return new int[] {1, 1, 1, 6, 6, 6, 6, 8, 9, 9};
    }
  }

  private static void grow(Model model, int size, int taste) {
    int[] sorts = sorts(taste);
    while (likely.size() < size) {
      int n = likely.size();
      int sort = n < 2 ? 0 : sorts[below(sorts.length)];
      int[] node = {sort, -1, -1, -1};
      long number = below(9) == 0 ? Long.MIN_VALUE : below(7) - 2;
      int kind = 0;
      switch (sort) {
        case 0: case 2: break;
        case 1: kind = below(8) == 0 ? below(3) : 0; node[1] = pick(kind); node[2] = pick(kind); kind = likely.get(node[1]); break;
        case 3: kind = 1; node[1] = pick(-1); node[2] = pick(-1); break;
        case 4: case 5: node[1] = pick(1); break;
        case 6: node[1] = pick(0); node[2] = pick(0); node[3] = below(6); break;
        case 7: node[1] = pick(0); node[2] = pick(-1); node[3] = pick(likely.get(node[2])); kind = likely.get(node[2]); break;
        case 8: kind = 2; node[1] = pick(-1); node[2] = mark(n); break;
        default: node[1] = pick(2); node[2] = below(3); break;
      }
      model.nodes.add(node);
      model.numbers.add(number);
      likely.add(kind);
    }
  }

  private static SharedChoices made(Model model) {
    SharedChoices x = new SharedChoices();
    for (int n = 0; n < model.nodes.size(); n++) due("made", make(x, model.nodes.get(n), model.numbers.get(n)), n);
    return x;
  }

  private static int make(SharedChoices x, int[] node, long number) {
    switch (node[0]) {
      case 0: return x.number(number);
      case 1: return x.choice(node[1], node[2]);
      case 2: return x.fail();
      case 3: return x.pair(node[1], node[2]);
      case 4: case 5: return x.part(node[1], node[0] == 5);
      case 6: return x.op(node[3], node[1], node[2]);
      case 7: return x.when(node[1], node[2], node[3]);
      case 8: return x.set(node[1], node[2]);
      default: return x.fold(node[2], node[1]);
    }
  }

  private static int mark(int n) {
    switch (below(4)) {
      case 0: return 0;
      case 1: return n;
      default: return below(n + 1);
    }
  }

  // ---- one against the other ----

  private static final int[] seen = new int[7];

  /** No more is promised of an object. */
  private static final int MOST_CALLS = 512;

  private static void dueNodes(String what, Model model) {
    SharedChoices x = made(model);
    for (int n = 0; n < model.nodes.size(); n++) {
      for (int k = 0; k < 4; k++) due(what + " node(" + n + ", " + k + ")", x.node(n, k), model.nodes.get(n)[k]);
    }
    due(what + " count(0)", x.count(0), model.nodes.size());
  }

  /** How many calls dueLatest makes. */
  private static int callsOf(Place latest) {
    return latest == null ? 5 : 5 + latest.alternatives.size() + 2 * latest.tokens.size();
  }

  private static void dueLatest(String what, SharedChoices x, Place latest) {
    int decisions = latest == null ? 0 : latest.alternatives.size();
    int tokens = latest == null ? 0 : latest.tokens.size();
    int told = x.count(8);
    due(what + " count(6)", x.count(6), latest == null ? 0 : latest.labour);
    due(what + " count(7)", x.count(7), decisions);
    due(what + " count(8)", told, tokens);
    for (int k = 0; k <= decisions; k++) {
      due(what + " decision " + k, x.decision(k), k < decisions ? latest.alternatives.get(k) : -1);
    }
    for (int k = 0; k < Math.min(tokens, told); k++) {
      for (int w = 0; w < 2; w++) due(what + " token " + k, x.token(k, w), latest.tokens.get(k)[w]);
    }
    try {
      x.token(tokens, 0);
      due(what + " token behind the last throws", 0, 1);
    } catch (NoSuchElementException e) {
      // as it must
    }
  }

  /** A new object that has been searched up to where the one before it was. */
  private static SharedChoices asked(Model model, int n, int mode, int bound, int calls) {
    SharedChoices x = made(model);
    x.ask(n, mode, bound);
    for (int k = 0; k < calls; k++) due("next of a new object", x.next(), 1);
    return x;
  }

  private static void dueSearch(String what, Model model, int n, int mode, int bound) {
    SharedChoices x = asked(model, n, mode, bound, 0);
    int left = MOST_CALLS - model.nodes.size() - 1;
    List<Place> places = new Order(model, n, mode, bound).places;
    int[] counts = new int[6];
    Place latest = null;
    int at = 0;
    int end = 1;
    for (int call = 0; call < 210 && end == 1; call++) {
      end = at < places.size() ? 2 : 0;
      while (at < places.size() && at < 200) {
        Place place = places.get(at++);
        counts[1]++;
        if (place.end > 1) { counts[place.end]++; seen[place.end]++; }
        if (place.end == 2) { latest = place; end = 1; break; }
        end = at < places.size() ? 2 : 0;
      }
      int calls = 1 + 5 + callsOf(latest) + 2;
      if (calls > left) {
        x = asked(model, n, mode, bound, call);
        left = MOST_CALLS - model.nodes.size() - 1 - call;
      }
      left -= calls;
      String told = what + " call " + call;
      due(told + " next", x.next(), end);
      for (int k = 1; k < 6; k++) due(told + " count(" + k + ")", x.count(k), counts[k]);
      dueLatest(told, x, latest);
    }
    if (end == 2) seen[1]++;
    due(what + " next again", x.next(), end);
    due(what + " PLACES again", x.count(1), counts[1]);
  }

  private static void dueStore(int run) {
    Model model = new Model(new ArrayList<>(), new ArrayList<>());
    likely.clear();
    int size = 3 + below(run % 3 == 0 ? 10 : 58);
    int taste = below(9);
    near = 2 + below(8);
    grow(model, Math.min(60, size), taste);
    for (int search = 0; search < 6; search++) {
      int n = model.nodes.size() - 1 - below(Math.min(model.nodes.size(), 8));
      int mode = below(3);
      int bound = 1 + below(mode == 2 || below(4) > 0 ? 6 : 60);
      dueSearch("store " + run + " node " + n + " mode " + mode + " bound " + bound, model, n, mode, bound);
    }
    dueNodes("store " + run, model);
    seen[6] += model.anew;
  }

  public static void main(String[] args) {
    int runs = args.length > 0 ? Integer.parseInt(args[0]) : 12000;
    if (args.length > 1) seed = Long.parseLong(args[1]);
    for (int run = 0; run < runs; run++) dueStore(run);
    String[] names = {"", "SPENT", "VALUES", "FAILED", "GIVEN UP", "CUT", "begun anew"};
    for (int k = 1; k < seen.length; k++) {
      System.out.print(names[k] + " " + seen[k] + (k + 1 < seen.length ? ", " : "\n"));
      if (seen[k] < 100) due(names[k] + " is seen too seldom", seen[k], 100);
    }
    System.out.println(wrong == 0 ? "all answers are as due" : wrong + " answers are not as due");
    if (wrong != 0) System.exit(1);
  }
}
