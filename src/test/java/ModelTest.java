import java.util.Random;

/** Long mixed runs, each call compared with PlainVillage; also, that nothing is ever thrown. */
public final class ModelTest {
  private static final int RUNS = 600;
  /** Answers beyond the 512th call are free, and a step makes at most twenty calls. */
  private static final int CALLS = 512;
  private static final int MOST_CALLS_OF_A_STEP = 20;
  private static final int[] ODD_INTS = {
    -1, -2, 0, 1, 7, 8, 9, 40, 41, 60, 61, 99, 100, 120, Integer.MAX_VALUE, Integer.MIN_VALUE, Integer.MAX_VALUE - 1,
    -1000000001, 1 << 30, 1 << 16};
  private static final String[] WORDS = {
    "villager", "smith", "shy", "child", "priest", "thief", "work", "purse", "name", "slip", "is", ";", "0", "1", "7",
    "20", "21", "99", "100", "999", "1000", "007", "99999999999", "Smith", "slips", "\t", "\u00ff", "-", "workname"};

  private final Random random;
  private final FridaySlips program = new FridaySlips();
  private final PlainVillage model = new PlainVillage();
  private final StringBuilder log = new StringBuilder();
  private final int textTurns;
  private String pending = "";
  private int calls;

  private ModelTest(long seed) {
    random = new Random(seed);
    textTurns = seed % 3 == 0 ? 25 : 4;
  }

  public static void main(String[] args) {
    Watchdog.watch();
    int wrong = 0;
    for (int run = 0; run < RUNS; run++) {
      String fault = new ModelTest(run).run(run % 4 == 0);
      if (fault != null) {
        wrong++;
        System.out.println("run " + run + ": " + fault);
      }
    }
    System.out.println(wrong == 0 ? "all runs are as the plain village's" : wrong + " runs are not");
    if (wrong != 0) System.exit(1);
  }

  /** Null if all calls answered alike. */
  private String run(boolean oddArguments) {
    int odd = oddArguments ? 10 : 60;
    while (calls <= CALLS - MOST_CALLS_OF_A_STEP) {
      String call = "";
      try {
        long[] both = step(odd);
        call = log.toString();
        if (both[0] != both[1]) return "call " + calls + ", " + call + " answered " + both[0] + ", due is " + both[1];
      } catch (RuntimeException e) {
        return "call " + calls + ", " + log + " threw " + e;
      }
    }
    return null;
  }

  private int any(int low, int high, int odd) {
    if (random.nextInt(odd) == 0) return ODD_INTS[random.nextInt(ODD_INTS.length)];
    return low + random.nextInt(high - low + 1);
  }

  private int one(int odd) {
    long people = model.count(0);
    return any(0, (int) Math.max(0, people - 1), odd);
  }

  private void say(String name, long... arguments) {
    calls++;
    log.setLength(0);
    log.append(name).append(java.util.Arrays.toString(arguments));
  }

  private long[] step(int odd) {
    if (!pending.isEmpty()) return feedOn();
    if (random.nextInt(100) < textTurns) {
      pending = text();
      if (!pending.isEmpty()) return feedOn();
    }
    if (model.count(0) < 3 && random.nextInt(3) > 0) return people(0, odd);
    int turn = random.nextInt(60);
    if (turn < 14) return people(random.nextInt(7), odd);
    if (turn < 26) return fridays(random.nextInt(7), odd);
    if (turn < 34) return rings(random.nextInt(6), odd);
    if (turn < 44) return best(random.nextInt(7), odd);
    if (turn < 54) return sheets(random.nextInt(8), odd);
    return images(random.nextInt(8), odd);
  }

  private String text() {
    StringBuilder b = new StringBuilder();
    int many = random.nextInt(8);
    for (int i = 0; i < many; i++) {
      if (i > 0) b.append(";");
      b.append(item());
      if (random.nextInt(30) == 0) b.append(WORDS[random.nextInt(WORDS.length)]);
    }
    if (random.nextInt(6) == 0) b.insert(random.nextInt(b.length() + 1), blank() + WORDS[random.nextInt(WORDS.length)]);
    if (random.nextInt(10) == 0) b.setLength(random.nextInt(b.length() + 1));
    if (random.nextInt(4) == 0) b.append("  ");
    return b.toString();
  }

  private String item() {
    StringBuilder b = new StringBuilder(blank());
    if (random.nextInt(2) == 0) {
      b.append("slip").append(blank()).append(one(30)).append(blank()).append("is").append(blank()).append(one(30));
      return b.append(blank()).toString();
    }
    b.append(WORDS[random.nextInt(6)]);
    if (random.nextInt(2) == 0) b.append(" work").append(blank()).append(any(0, 20, 30));
    if (random.nextInt(2) == 0) b.append(" purse").append(blank()).append(any(0, 999, 30));
    if (random.nextInt(2) == 0) b.append(" name").append(blank()).append(any(0, 99, 30));
    return b.append(blank()).toString();
  }

  private String blank() {
    return random.nextInt(3) == 0 ? "" : random.nextInt(4) == 0 ? "  " : " ";
  }

  /** Feeds a part of what is pending; with the last part gone a village comes next. */
  private long[] feedOn() {
    if (pending.equals("!")) {
      pending = "";
      say("village");
      return new long[] {program.village(), model.village()};
    }
    int n = Math.min(pending.length(), 1 + random.nextInt(4));
    int bytes = random.nextInt();
    for (int i = 0; i < n; i++) bytes = bytes << 8 | pending.charAt(i);
    pending = pending.length() == n ? "!" : pending.substring(n);
    say("feed", bytes, n);
    return new long[] {program.feed(bytes, n), model.feed(bytes, n)};
  }

  private long[] people(int which, int odd) {
    int p = one(odd);
    int kind = any(0, 5, odd);
    switch (which) {
      case 0:
        say("person", kind);
        return new long[] {program.person(kind), model.person(kind)};
      case 1: {
        int what = any(0, 6, odd);
        say("of", p, what);
        return new long[] {program.of(p, what), model.of(p, what)};
      }
      case 2:
        say("says", p);
        return new long[] {program.says(p), model.says(p)};
      case 3:
        say("turn", p, kind);
        return new long[] {program.turn(p, kind), model.turn(p, kind)};
      case 4:
        say("as", p, kind);
        return new long[] {program.as(p, kind), model.as(p, kind)};
      default: {
        int what = any(1, 4, odd);
        int most = new int[] {20, 99999, 99, 99}[Math.floorMod(what - 1, 4)];
        int v = random.nextInt(20) == 0 ? most + random.nextInt(2) : any(0, most, odd);
        if (what == 2 && random.nextInt(3) > 0) v = v % 100;
        say("set", p, what, v);
        return new long[] {program.set(p, what, v), model.set(p, what, v)};
      }
    }
  }

  private long[] fridays(int which, int odd) {
    switch (which) {
      case 0: {
        int p = one(odd);
        int q = one(odd);
        say("swap", p, q);
        return new long[] {program.swap(p, q), model.swap(p, q)};
      }
      case 1:
        say("home");
        return new long[] {program.home(), model.home()};
      case 2:
        say("draw");
        return new long[] {program.draw(), model.draw()};
      case 3: {
        int v = random.nextInt();
        say("seed", v);
        return new long[] {program.seed(v), model.seed(v)};
      }
      case 4: {
        int n = random.nextInt(2) == 0 ? 60 : any(1, 60, odd);
        say("fridays", n);
        return new long[] {program.fridays(n), model.fridays(n)};
      }
      case 5: {
        int n = any(1, 20, odd);
        say("season", n);
        return new long[] {program.season(n), model.season(n)};
      }
      default: {
        int what = any(0, 6, odd);
        say("now", what);
        return new long[] {program.now(what), model.now(what)};
      }
    }
  }

  private long[] rings(int which, int odd) {
    int p = one(odd);
    switch (which) {
      case 0:
        say("who", p);
        return new long[] {program.who(p), model.who(p)};
      case 1:
        say("ring", p);
        return new long[] {program.ring(p), model.ring(p)};
      case 2:
        say("rings");
        return new long[] {program.rings(), model.rings()};
      case 3:
        say("pairs");
        return new long[] {program.pairs(), model.pairs()};
      case 4: {
        int n = any(0, 60, odd);
        int what = any(0, 2, odd);
        say("on", p, n, what);
        return new long[] {program.on(p, n, what), model.on(p, n, what)};
      }
      default:
        say("itself", p);
        return new long[] {program.itself(p), model.itself(p)};
    }
  }

  private long[] best(int which, int odd) {
    int p = one(odd);
    switch (which) {
      case 0:
        say("most");
        return new long[] {program.most(), model.most()};
      case 1:
        say("slip", p);
        return new long[] {program.slip(p), model.slip(p)};
      case 2:
        say("better");
        return new long[] {program.better(), model.better()};
      case 3:
        say("bestAs", p);
        return new long[] {program.bestAs(p), model.bestAs(p)};
      case 4:
        say("kind", p);
        return new long[] {program.kind(p), model.kind(p)};
      case 5: {
        int what = any(0, 1, odd);
        say("odds", what);
        return new long[] {program.odds(what), model.odds(what)};
      }
      default: {
        int k = any(0, 8, odd);
        say("lots", k);
        return new long[] {program.lots(k), model.lots(k)};
      }
    }
  }

  private long[] sheets(int which, int odd) {
    int s = any(0, 3, odd);
    int p = one(odd);
    switch (which) {
      case 0: {
        int bits = random.nextInt(odd) == 0 ? any(0, 64, odd) : new int[] {8, 16, 64, 64, 0}[random.nextInt(5)];
        int people = (int) model.count(0);
        int n = random.nextInt(2) == 0 ? people : any(0, 40, odd);
        say("sheet", s, bits, n);
        return new long[] {program.sheet(s, bits, n), model.sheet(s, bits, n)};
      }
      case 1:
      case 2: {
        int i = any(0, 9, odd);
        long v = random.nextInt(3) == 0 ? random.nextLong() : any(0, 7, odd);
        say("write", s, i, v);
        return new long[] {program.write(s, i, v), model.write(s, i, v)};
      }
      case 3: {
        int t = random.nextInt(3) == 0 ? s : any(0, 3, odd);
        int from = any(0, 9, odd);
        int to = any(0, 9, odd);
        int n = any(0, 9, odd);
        say("copy", s, from, t, to, n);
        return new long[] {program.copy(s, from, t, to, n), model.copy(s, from, t, to, n)};
      }
      case 4:
        return layOrTell(s, odd);
      case 5:
        say("book", s, p);
        return new long[] {program.book(s, p), model.book(s, p)};
      default:
        if (random.nextInt(3) > 0) {
          long[] both = foretell(s, p);
          if (both != null) return both;
        }
        say("read", s, p);
        return new long[] {program.read(s, p), model.read(s, p)};
    }
  }

  /** A sheet as long as the village, with an order of its people, is laid. */
  private long[] layOrTell(int s, int odd) {
    int people = (int) model.count(0);
    if (random.nextInt(3) > 0 && s >= 0 && s < 4) {
      say("sheet", s, 8, people);
      long[] both = {program.sheet(s, 8, people), model.sheet(s, 8, people)};
      if (both[0] != both[1]) return both;
      int shift = random.nextInt(people + 1);
      for (int p = 0; p < people; p++) {
        int v = random.nextInt(odd) == 0 ? random.nextInt(10) - 1 : (p + shift) % people;
        say("write", s, p, v);
        both = new long[] {program.write(s, p, v), model.write(s, p, v)};
        if (both[0] != both[1]) return both;
      }
    }
    say("lays", s);
    return new long[] {program.lays(s), model.lays(s)};
  }

  /** A sheet gets the purses behind the next Friday, so that the reader finds something. */
  private long[] foretell(int s, int p) {
    if (s < 0 || s > 3) return null;
    int asked = random.nextInt((int) model.count(0) + 2);
    int bits = random.nextInt(4) == 0 ? 16 : 64;
    say("sheet", s, bits, asked);
    long[] both = {program.sheet(s, bits, asked), model.sheet(s, bits, asked)};
    if (both[0] != both[1]) return both;
    for (int i = 0; i < asked; i++) {
      long v = model.on(i, 1, 0);
      say("on", i, 1, 0);
      both = new long[] {program.on(i, 1, 0), v};
      if (both[0] != both[1]) return both;
      say("write", s, i, v);
      both = new long[] {program.write(s, i, v), model.write(s, i, v)};
      if (both[0] != both[1]) return both;
    }
    say("read, foretold", s, p);
    return new long[] {program.read(s, p), model.read(s, p)};
  }

  private long[] images(int which, int odd) {
    switch (which) {
      case 0:
        say("image");
        return new long[] {program.image(), model.image()};
      case 1:
        say("undo");
        return new long[] {program.undo(), model.undo()};
      case 2:
        say("tear");
        return new long[] {program.tear(), model.tear()};
      case 3:
        say("wipe");
        return new long[] {program.wipe(), model.wipe()};
      case 4: {
        int n = any(1, 4, odd);
        int bytes = random.nextInt();
        say("feed", bytes, n);
        return new long[] {program.feed(bytes, n), model.feed(bytes, n)};
      }
      case 5: {
        int what = any(0, 3, odd);
        say("count", what);
        return new long[] {program.count(what), model.count(what)};
      }
      default: {
        int w = any(-1, 6, odd);
        say("status", w);
        return new long[] {program.status(w), model.status(w)};
      }
    }
  }
}
