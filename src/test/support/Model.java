import java.util.ArrayList;
import java.util.HashMap;
import java.util.List;
import java.util.Map;

/**
 * A plain model of the document's terms that is written otherwise than the class: by exceptions,
 * with a new way for each PLACE and a pass for each window.
 */
final class Model {
  static final int AT_DECISION = 1;
  static final int VALUE = 2;
  static final int FAILED = 3;
  static final int GIVEN_UP = 4;
  static final int CUT = 5;

  /** Each as node tells it: the SORT, and what it names. */
  final List<int[]> nodes = new ArrayList<>();
  final List<Long> numbers = new ArrayList<>();
  /** How often a SET began anew. */
  int anew = 0;
  private int labour;

  int add(int[] node, long number) {
    nodes.add(node);
    numbers.add(number);
    return nodes.size() - 1;
  }

  private static final class Failed extends RuntimeException {
    private static final long serialVersionUID = 1;
    Failed() { super(null, null, false, false); }
  }

  private static final class GivenUp extends RuntimeException {
    private static final long serialVersionUID = 1;
    GivenUp() { super(null, null, false, false); }
  }

  private static final class AtDecision extends RuntimeException {
    private static final long serialVersionUID = 1;
    AtDecision() { super(null, null, false, false); }
  }

  private static final class Need extends RuntimeException {
    private static final long serialVersionUID = 1;
    final int node;
    final transient Room room;
    Need(int node, Room room) { super(null, null, false, false); this.node = node; this.room = room; }
  }

  /** A number; or a pair of nodes; or the values of a list. */
  private static final class Value {
    long number;
    int[] pair;
    List<Full> list;
  }

  private static final class Full {
    final int kind;
    final long number;
    final List<Full> parts;
    Full(int kind, long number, List<Full> parts) { this.kind = kind; this.number = number; this.parts = parts; }
    int tokens() {
      int sum = 1;
      for (Full part : parts) sum += part.tokens();
      return sum;
    }
    void tell(List<long[]> to) {
      to.add(new long[] {kind, kind == 0 ? number : parts.size()});
      for (Full part : parts) part.tell(to);
    }
  }

  /** A way. The alternatives of a SET's way are made longer by itself, those of a SEARCH's are not. */
  private static final class Room {
    final Room around;
    final int m;
    final List<Integer> alternatives;
    final Map<Integer, Value> values = new HashMap<>();
    int decided = 0;
    int told = 0;
    Room(Room around, int m, List<Integer> alternatives) { this.around = around; this.m = m; this.alternatives = alternatives; }
    int nesting() { return around == null ? 0 : 1 + around.nesting(); }
  }

  /** A DECISION, or the end of a way; the numbers of the ends are those by which they are counted. */
  static final class Place {
    int end;
    List<Integer> alternatives;
    int labour;
    List<long[]> tokens = new ArrayList<>();
  }

  private Value need(Room room, int n) {
    Room home = room;
    while (n < home.m) home = home.around;
    Value known = home.values.get(n);
    if (known != null) return known;
    if (home != room) throw new Need(n, home);
    labour++;
    if (labour > 2000) throw new GivenUp();
    Value made = make(room, n);
    room.values.put(n, made);
    return made;
  }

  private long needNumber(Room room, int n) {
    Value value = need(room, n);
    if (value.pair != null || value.list != null) throw new Failed();
    return value.number;
  }

  private static Value number(long v) {
    Value value = new Value();
    value.number = v;
    return value;
  }

  private Value make(Room room, int n) {
    int[] node = nodes.get(n);
    Value value = new Value();
    switch (node[0]) {
      case 0: return number(numbers.get(n));
      case 1: return need(room, node[1 + decide(room)]);
      case 2: throw new Failed();
      case 3: value.pair = new int[] {node[1], node[2]}; return value;
      case 4: case 5: {
        int[] pair = need(room, node[1]).pair;
        if (pair == null) throw new Failed();
        return need(room, pair[node[0] - 4]);
      }
      case 6: return opOf(node[3], needNumber(room, node[1]), needNumber(room, node[2]));
      case 7: return need(room, needNumber(room, node[1]) != 0 ? node[2] : node[3]);
      case 8: value.list = setOf(room, node[1], node[2]); return value;
      default: return foldOf(need(room, node[1]).list, node[2]);
    }
  }

  private int decide(Room room) {
    if (room.decided == room.alternatives.size()) {
      if (room.around == null) throw new AtDecision();
      room.alternatives.add(0);
    }
    return room.alternatives.get(room.decided++);
  }

  private static Value opOf(int kind, long a, long b) {
    switch (kind) {
      case 0: return number(a + b);
      case 1: return number(a - b);
      case 2: return number(a * b);
      case 3: if (b == 0) throw new Failed(); return number(b == -1 ? -a : a / b);
      case 4: return number(a < b ? 1 : 0);
      default: return number(a == b ? 1 : 0);
    }
  }

  private static Value foldOf(List<Full> list, int kind) {
    if (list == null) throw new Failed();
    if (kind == 0) return number(list.size());
    for (Full one : list) if (one.kind != 0) throw new Failed();
    if (kind == 1) return number(list.stream().mapToLong(one -> one.number).sum());
    return number(list.stream().mapToLong(one -> one.number).min().orElseThrow(Failed::new));
  }

  private List<Full> setOf(Room room, int a, int m) {
    if (room.nesting() == 5) throw new GivenUp();
    while (true) {
      try {
        return allWays(room, a, m);
      } catch (Need wanted) {
        if (wanted.room != room) throw wanted;
        anew++;
        need(room, wanted.node);
      }
    }
  }

  private List<Full> allWays(Room room, int a, int m) {
    List<Full> list = new ArrayList<>();
    List<Integer> alternatives = new ArrayList<>();
    while (true) {
      try {
        list.add(full(new Room(room, m, alternatives), a));
        if (new Full(2, 0, list).tokens() > 100) throw new GivenUp();
      } catch (Failed left) {
        // it is left out
      }
      while (!alternatives.isEmpty() && alternatives.get(alternatives.size() - 1) == 1) alternatives.remove(alternatives.size() - 1);
      if (alternatives.isEmpty()) return list;
      alternatives.set(alternatives.size() - 1, 1);
    }
  }

  private Full full(Room room, int n) {
    Value value = need(room, n);
    Full full = new Full(value.pair != null ? 1 : value.list != null ? 2 : 0, value.number,
        value.list != null ? value.list : new ArrayList<>());
    room.told += full.tokens();
    if (room.told > 100) throw new GivenUp();
    if (value.pair != null) for (int part : value.pair) full.parts.add(full(room, part));
    return full;
  }

  private Place place(int n, List<Integer> alternatives) {
    Place place = new Place();
    place.alternatives = alternatives;
    labour = 0;
    try {
      full(new Room(null, 0, alternatives), n).tell(place.tokens);
      place.end = VALUE;
    } catch (AtDecision e) {
      place.end = AT_DECISION;
    } catch (Failed e) {
      place.end = FAILED;
    } catch (GivenUp e) {
      place.end = GIVEN_UP;
    }
    place.labour = labour;
    return place;
  }

  /** The PLACES for a node in their order, up to 201 of them. */
  List<Place> places(int n, int mode, int bound) {
    return new Order(this, n, mode, bound).places;
  }

  private static final class Order {
    final Model model;
    final int n;
    final int mode;
    final int bound;
    final Map<List<Integer>, Place> known = new HashMap<>();
    final List<Place> places = new ArrayList<>();

    Order(Model model, int n, int mode, int bound) {
      this.model = model;
      this.n = n;
      this.mode = mode;
      this.bound = bound;
      for (int window = 0; window < (mode == 1 ? 60 : 1); window++) {
        int before = places.size();
        visit(new ArrayList<>(), window);
        if (places.size() == before) break;
      }
    }

    private void visit(List<Integer> alternatives, int window) {
      int depth = alternatives.size();
      int at = mode == 1 ? depth / bound : 0;
      if (at > window || places.size() > 200) return;
      Place place = known.get(alternatives);
      if (place == null) {
        place = model.place(n, alternatives);
        if (mode == 2 && place.end == AT_DECISION && depth == bound) place.end = CUT;
        known.put(alternatives, place);
      }
      if (at == window) places.add(place);
      for (int k = 0; place.end == AT_DECISION && k < 2; k++) {
        List<Integer> longer = new ArrayList<>(alternatives);
        longer.add(k);
        visit(longer, window);
      }
    }
  }
}
