// Full words over machines with many choices, where the stacks are too many to keep one by
// one (as StackSearchTest does). The model here knows no stack: it works out from which
// state to which a part of the word leads, and takes an opening letter together with the
// closing letter that closes it.
public final class RelationsTest {
  private static final int OBJECTS = 3000;
  private static final int ROOM = 16;
  private static int wrong = 0;
  private static long seed = 8L;

  public static void main(String[] args) {
    int[] liveAtFull = new int[6];
    int[] closes = new int[6];
    for (int i = 0; i < OBJECTS && wrong < 20; i++) {
      Pair pair = new Pair(i);
      pair.play(liveAtFull, closes);
    }
    cameOften("full words with this many live states", liveAtFull);
    cameOften("close() one less than this", closes);
    System.out.println(wrong == 0 ? "all answers are as due" : wrong + " answers are not as due");
    if (wrong != 0) {
      System.exit(1);
    }
  }

  // A driver that meets only dead words, or only words with every state live, tests little.
  private static void cameOften(String what, int[] counts) {
    for (int i = 0; i < counts.length; i++) {
      if (wrong == 0 && counts[i] < 20) {
        wrong++;
        System.out.println(what + ", " + i + ": came only " + counts[i] + " times");
      }
    }
  }

  private static int pick(int below) {
    seed = seed * 6364136223846793005L + 1442695040888963407L;
    return (int) ((seed >>> 33) % below);
  }

  private static final class Model {
    final boolean[][][][] moves = new boolean[5][6][5][4];
    final boolean[] start = new boolean[5];
    final boolean[] end = new boolean[5];
    final int[] word = new int[ROOM + 5];
    int length = 0;

    // Where the letter stands that closes the one at i, or -1 if none below count does.
    int closing(int i, int count) {
      int height = 0;
      for (int j = i; j < count; j++) {
        height += word[j] < 2 ? 1 : word[j] < 4 ? -1 : 0;
        if (height == 0) {
          return j;
        }
      }
      return -1;
    }

    boolean[] over(boolean[] from, int begin, int count) {
      boolean[] set = from;
      int i = begin;
      while (i < count) {
        int last = word[i] < 2 ? closing(i, count) : i;
        if (last < 0) {
          set = byAnyMark(set, word[i]);
          i++;
        } else if (last > i) {
          set = byPair(set, i, last);
          i = last + 1;
        } else {
          set = byMark(set, word[i], word[i] < 4 ? 3 : 0);
          i++;
        }
      }
      return set;
    }

    boolean[] byMark(boolean[] from, int letter, int m) {
      boolean[] to = new boolean[5];
      for (int q = 0; q < 5; q++) {
        for (int r = 0; r < 5; r++) {
          to[r] |= from[q] && moves[q][letter][r][m];
        }
      }
      return to;
    }

    boolean[] byAnyMark(boolean[] from, int letter) {
      boolean[] to = new boolean[5];
      for (int m = 0; m < 3; m++) {
        add(to, byMark(from, letter, m));
      }
      return to;
    }

    boolean[] byPair(boolean[] from, int first, int last) {
      boolean[] to = new boolean[5];
      for (int m = 0; m < 3; m++) {
        boolean[] within = over(byMark(from, word[first], m), first + 1, last);
        add(to, byMark(within, word[last], m));
      }
      return to;
    }

    static void add(boolean[] to, boolean[] more) {
      for (int q = 0; q < 5; q++) {
        to[q] |= more[q];
      }
    }

    int live(int count) {
      boolean[] set = over(start, 0, count);
      int sum = 0;
      for (int q = 0; q < 5; q++) {
        sum += set[q] ? 1 << q : 0;
      }
      return sum;
    }

    int accepted(int count) {
      boolean[] set = over(start, 0, count);
      for (int q = 0; q < 5; q++) {
        if (set[q] && end[q]) {
          return 1;
        }
      }
      return 0;
    }

    int open() {
      int none = 0;
      for (int i = 0; i < length; i++) {
        none += word[i] < 2 && closing(i, length) < 0 ? 1 : 0;
      }
      return none;
    }

    int next() {
      int sum = 0;
      for (int letter = 0; letter < 6; letter++) {
        word[length] = letter;
        sum += live(length + 1) != 0 ? 1 << letter : 0;
      }
      return sum;
    }

    int close() {
      for (int added = 0; added <= 4; added++) {
        if (accepted(length + added) == 1) {
          return added;
        }
        word[length + added] = 2;
      }
      return -1;
    }
  }

  private static final class Pair {
    final int object;
    final NestedWords x = new NestedWords();
    final Model model = new Model();
    int calls = 0;

    Pair(int object) {
      this.object = object;
    }

    void due(String call, int got, int want) {
      calls++;
      if (got != want || calls > 512) {
        wrong++;
        System.out.println("object " + object + ", call " + calls + ": " + call + " answered "
            + got + ", due is " + want);
      }
    }

    void play(int[] liveAtFull, int[] closes) {
      int density = 20 + pick(120);
      for (int i = 0; i < density; i++) {
        move(true);
      }
      for (int q = 0; q < 5; q++) {
        state(q);
      }
      while (model.length < ROOM) {
        read(letter());
        ask(closes);
      }
      // The word is full: what changes now must be seen through all its letters.
      for (int i = 0; i < 12; i++) {
        move(pick(3) == 0);
        state(pick(5));
        liveAtFull[Integer.bitCount(model.live(ROOM))]++;
        ask(closes);
      }
      for (int i = ROOM; i > 0; i--) {
        model.length--;
        due("back()", x.back(), model.word[model.length]);
        due("live()", x.live(), model.live(model.length));
      }
    }

    void move(boolean on) {
      int q = pick(5);
      int l = pick(6);
      int r = pick(5);
      int m = pick(l < 2 ? 3 : 4);
      int mark = l < 4 ? m : 0;
      due("move(" + q + ", " + l + ", " + r + ", " + m + ", " + on + ")",
          x.move(q, l, r, m, on), model.moves[q][l][r][mark] ? 1 : 0);
      model.moves[q][l][r][mark] = on;
    }

    void state(int q) {
      model.start[q] = pick(2) == 0;
      model.end[q] = pick(4) == 0;
      due("state(" + q + ", " + model.start[q] + ", " + model.end[q] + ")",
          x.state(q, model.start[q], model.end[q]), 0);
    }

    // Mostly a letter that keeps some run alive, and as many opening as closing ones.
    int letter() {
      int could = model.next();
      int letter = pick(6);
      for (int tries = 0; tries < 8 && (could >> letter & 1) == 0; tries++) {
        letter = pick(6);
      }
      return letter;
    }

    void read(int letter) {
      model.word[model.length] = letter;
      model.length++;
      due("read(" + letter + ")", x.read(letter), Integer.bitCount(model.live(model.length)));
    }

    void ask(int[] closes) {
      due("live()", x.live(), model.live(model.length));
      due("accepted()", x.accepted(), model.accepted(model.length));
      due("open()", x.open(), model.open());
      due("next()", x.next(), model.next());
      int close = model.close();
      due("close()", x.close(), close);
      closes[close + 1]++;
    }
  }
}
