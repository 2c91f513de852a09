import java.util.HashMap;
import java.util.Map;

/** Nodes of a known size: so many ways, so many TOKENS, so much LABOUR. */
final class Make {
  private Make() { }

  /** A store that is full of numbers. */
  static SharedChoices full() {
    return numbers(60);
  }

  static SharedChoices numbers(int many) {
    SharedChoices x = new SharedChoices();
    for (int k = 0; k < many; k++) x.number(k);
    return x;
  }

  /** A node with so many ways, of choices alone, each of which ends as the leaf does. */
  static int ends(SharedChoices x, int leaf, int many) {
    int power = leaf;
    int got = (many & 1) == 1 ? leaf : -1;
    for (int bit = 2; bit <= many; bit *= 2) {
      power = x.choice(power, power);
      if ((many & bit) != 0) got = got < 0 ? power : x.choice(power, got);
    }
    return got;
  }

  /** A node whose one value in full has so many TOKENS; the first node made for it is a number. */
  static int tokens(SharedChoices x, int many) {
    return tokens(x, many, new HashMap<>());
  }

  private static int tokens(SharedChoices x, int many, Map<Integer, Integer> made) {
    Integer known = made.get(many);
    if (known != null) return known;
    int n;
    if (many == 1) {
      n = x.number(1);
    } else if (many == 2) {
      n = x.set(tokens(x, 1, made), 0);
    } else {
      int half = (many - 1) / 2;
      n = x.pair(tokens(x, half, made), tokens(x, many - 1 - half, made));
    }
    made.put(many, n);
    return n;
  }

  /**
   * In a new store: a node whose one value is 0, at a LABOUR of just this, which is 1984 or more.
   * Node 0 is a number that has its value then.
   */
  static int labour(SharedChoices x, int much) {
    int number = x.number(1);
    int[] choices = new int[8];
    for (int k = 1; k <= 7; k++) choices[k] = x.choice(number, number);
    int[] ops = new int[8];
    ops[0] = x.fail();
    for (int k = 1; k <= 7; k++) ops[k] = x.op(0, choices[k], ops[k - 1]);
    // 128 ways of 15 each; the way that needed the number 2; then FOLD, SET, number.
    int big = x.fold(0, x.set(ops[7], 1));
    // OP, FOLD, SET, and 8 ways of 7 each.
    int last = x.op(0, big, x.fold(0, x.set(ops[3], 1)));
    for (int had = 1925 + 59; had < much; had++) last = x.op(0, last, last);
    return last;
  }

  /** So many SETS in one another around a node. */
  static int sets(SharedChoices x, int a, int many, int m) {
    int n = a;
    for (int k = 0; k < many; k++) n = x.set(n, m);
    return n;
  }

  /** A SET of these numbers, in their order. */
  static int list(SharedChoices x, long... numbers) {
    if (numbers.length == 0) return x.set(x.fail(), 0);
    int rest = x.number(numbers[numbers.length - 1]);
    for (int k = numbers.length - 2; k >= 0; k--) rest = x.choice(x.number(numbers[k]), rest);
    return x.set(rest, 0);
  }

  /** A chain of choices, each of which fails by its first ALTERNATIVE, the last one's second a number. */
  static int secondsOnly(SharedChoices x, int many) {
    int fail = x.fail();
    int n = x.number(7);
    for (int k = 0; k < many; k++) n = x.choice(fail, n);
    return n;
  }
}
