import java.util.ArrayList;
import java.util.List;

/** Nodes by a fixed rule: each store has its taste for sorts, and most nodes name what suits them. */
final class Stores {
  private static final int[][] TASTES = {
    {0, 1, 1, 1, 3, 4, 5, 6, 6, 7, 8, 9, 2},
    {1, 1, 1, 1, 1, 6, 6, 3, 0, 8},
    {8, 8, 8, 1, 9, 6, 3, 0, 1, 7},
    {3, 3, 3, 4, 5, 1, 6, 0, 8},
    {8, 8, 3, 1, 9, 6, 4, 5},
    {1, 6, 6, 7, 8, 9, 1, 0, 2},
    {3, 3, 3, 3, 1, 0, 8},
    {8, 8, 8, 8, 8, 3, 1, 6},
    {1, 1, 1, 6, 6, 6, 6, 8, 9, 9},
  };

  private long seed;
  /** What a node is most likely worth: 0 a number, 1 a pair, 2 a list. */
  private final List<Integer> likely = new ArrayList<>();
  private int[] sorts = TASTES[0];
  private int near = 6;

  Stores(long seed) {
    this.seed = seed;
  }

  int below(int n) {
    seed = seed * 6364136223846793005L + 1442695040888963407L;
    return (int) ((seed >>> 33) % n);
  }

  void begin() {
    likely.clear();
    sorts = TASTES[below(TASTES.length)];
    near = 2 + below(8);
  }

  int size() {
    return likely.size();
  }

  private int pick(int kind) {
    int n = likely.size();
    int found = below(n);
    for (int k = 0; k < 12 && below(20) != 0; k++) {
      found = below(4) == 0 ? below(n) : n - 1 - below(Math.min(n, near));
      if (kind < 0 || likely.get(found) == kind) return found;
    }
    return found;
  }

  long number() {
    return below(9) == 0 ? Long.MIN_VALUE : below(7) - 2;
  }

  /** The next node of the store, as node would tell it. */
  int[] node() {
    int n = likely.size();
    int sort = n < 2 ? 0 : sorts[below(sorts.length)];
    int[] node = {sort, -1, -1, -1};
    int kind = 0;
    switch (sort) {
      case 0: case 2: break;
      case 1: kind = below(8) == 0 ? below(3) : 0; node[1] = pick(kind); node[2] = pick(kind); kind = likely.get(node[1]); break;
      case 3: kind = 1; node[1] = pick(-1); node[2] = pick(-1); break;
      case 4: case 5: node[1] = pick(1); break;
      case 6: node[1] = pick(0); node[2] = pick(0); node[3] = below(6); break;
      case 7: node[1] = pick(0); node[2] = pick(-1); node[3] = pick(likely.get(node[2])); kind = likely.get(node[2]); break;
      case 8: kind = 2; node[1] = pick(-1); node[2] = mark(n); break;
      default: node[1] = pick(2); node[2] = below(3); break;
    }
    likely.add(kind);
    return node;
  }

  private int mark(int n) {
    switch (below(4)) {
      case 0: return 0;
      case 1: return n;
      default: return below(n + 1);
    }
  }

  /** The call that makes such a node. */
  static int make(SharedChoices x, int[] node, long number) {
    switch (node[0]) {
      case 0: return x.number(number);
      case 1: return x.choice(node[1], node[2]);
      case 2: return x.fail();
      case 3: return x.pair(node[1], node[2]);
      case 4: case 5: return x.part(node[1], node[0] == 5);
      case 6: return x.op(node[3], node[1], node[2]);
      case 7: return x.when(node[1], node[2], node[3]);
      case 8: return x.set(node[1], node[2]);
      default: return x.fold(node[2], node[1]);
    }
  }
}
