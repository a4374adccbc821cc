import java.util.ArrayList;
import java.util.Arrays;
import java.util.HashMap;
import java.util.List;
import java.util.Map;
import java.util.regex.Matcher;
import java.util.regex.Pattern;

/**
 * The document once more, told as slowly and plainly as can be (all right lots
 * are written out and looked through), to compare the program with.
 */
final class PlainVillage {
  static final long BEYOND = -1000000001L, FULL = -1000000002L, KIND = -1000000003L, NONE = -1000000004L,
      STATE = -1000000005L, MISSING = -1000000006L, SIZE = -1000000007L;
  private static final String[] NAMES = {"villager", "smith", "shy", "child", "priest", "thief"};
  private static final Map<String, List<int[]>> LOTS = new HashMap<>();

  private static final class One {
    int kind, work = 5, purse = 10, name = 50, kept, slip;

    One twin() {
      One o = new One();
      o.kind = kind;
      o.work = work;
      o.purse = purse;
      o.name = name;
      o.kept = kept;
      o.slip = slip;
      return o;
    }
  }

  private static final class State {
    int friday, z = 1;
    final List<One> people = new ArrayList<>();

    State twin() {
      State s = new State();
      s.friday = friday;
      s.z = z;
      for (One o : people) s.people.add(o.twin());
      return s;
    }
  }

  private static final class Row {
    int bits;
    long[] numbers;
  }

  private State state = new State();
  private State kept;
  private final StringBuilder tape = new StringBuilder();
  private final Row[] rows = new Row[4];
  private final long[] found = new long[7];

  private long finding(long which) {
    found[(int) (BEYOND - which)]++;
    return which;
  }

  // ---- by what the answers are told

  private static boolean child(State s, int p) {
    return s.people.get(p).kind == 3;
  }

  private static int earnsAs(State s, int kind, int p, int as) {
    if (p == as) return 0;
    One o = s.people.get(p);
    switch (kind) {
      case 0: return (o.work + s.people.get(as).work) / 2;
      case 1: return earnsAs(s, 0, p, as) + 2;
      case 2: return earnsAs(s, 0, p, as) + (o.name < 50 ? 4 : 0);
      case 3: return 1;
      case 4: return Math.max(0, earnsAs(s, 1, p, as) - o.kept / 4);
      default: return 2 * earnsAs(s, 2, p, as);
    }
  }

  private static int earns(State s, int p, int as) {
    return earnsAs(s, s.people.get(p).kind, p, as);
  }

  private static int saysAs(State s, int kind, int p, int as) {
    if (p == as) return 0;
    switch (kind) {
      case 0: return s.people.get(p).work >= s.people.get(as).work ? 1 : -1;
      case 1: return saysAs(s, 0, p, as);
      case 2: return 3;
      case 3: return 0;
      case 4: return saysAs(s, 1, p, as) + 1;
      default: return saysAs(s, 2, p, as) - 5;
    }
  }

  private static int hearsAs(State s, int kind, int p, int as) {
    if (p == as) return 0;
    switch (kind) {
      case 0: return s.people.get(as).name < 20 ? 2 : 0;
      case 1: return hearsAs(s, 0, p, as);
      case 2: return 2 * hearsAs(s, 0, p, as);
      case 3: return 0;
      case 4: return hearsAs(s, 1, p, as) + 1;
      default: return hearsAs(s, 2, p, as);
    }
  }

  private static State after(State s, int n) {
    State now = s;
    for (int i = 0; i < n; i++) {
      State next = now.twin();
      for (int p = 0; p < now.people.size(); p++) {
        One was = now.people.get(p);
        int as = was.slip;
        One host = next.people.get(as);
        host.purse = Math.min(99999, host.purse + earns(now, p, as));
        host.name = Math.min(99, Math.max(0, host.name + saysAs(now, was.kind, p, as)));
        One self = next.people.get(p);
        self.kept = Math.min(99, self.kept + hearsAs(now, was.kind, p, as));
      }
      next.friday++;
      now = next;
    }
    return now;
  }

  private static void drawLot(State s) {
    for (int p = 0; p < s.people.size(); p++) s.people.get(p).slip = p;
    for (boolean children : new boolean[] {false, true}) {
      List<One> hat = new ArrayList<>();
      for (One o : s.people) if ((o.kind == 3) == children) hat.add(o);
      for (int i = hat.size() - 1; i > 0; i--) {
        s.z = s.z * 1103515245 + 12345;
        One other = hat.get((s.z >>> 16) % (i + 1));
        int slip = other.slip;
        other.slip = hat.get(i).slip;
        hat.get(i).slip = slip;
      }
    }
  }

  private static int own(State s) {
    int n = 0;
    for (int p = 0; p < s.people.size(); p++) if (s.people.get(p).slip == p) n++;
    return n;
  }

  private static int holder(State s, int slip) {
    for (int p = 0; p < s.people.size(); p++) if (s.people.get(p).slip == slip) return p;
    throw new IllegalStateException("nobody has slip " + slip);
  }

  private static void exchange(State s, int p, int q) {
    int slip = s.people.get(p).slip;
    s.people.get(p).slip = s.people.get(q).slip;
    s.people.get(q).slip = slip;
  }

  private static int purses(State s) {
    return s.people.stream().mapToInt(o -> o.purse).sum();
  }

  private static int allEarn(State s) {
    int sum = 0;
    for (int p = 0; p < s.people.size(); p++) sum += earns(s, p, s.people.get(p).slip);
    return sum;
  }

  private static List<int[]> rightLots(State s) {
    StringBuilder key = new StringBuilder();
    for (One o : s.people) key.append(o.kind == 3 ? 'c' : 'g');
    return LOTS.computeIfAbsent(key.toString(), k -> {
      List<int[]> all = new ArrayList<>();
      lotsFrom(k, new int[k.length()], 0, all);
      return all;
    });
  }

  private static void lotsFrom(String ages, int[] lot, int p, List<int[]> all) {
    if (p == lot.length) {
      all.add(lot.clone());
      return;
    }
    for (int slip = 0; slip < lot.length; slip++) {
      boolean free = ages.charAt(slip) == ages.charAt(p);
      for (int q = 0; q < p; q++) free &= lot[q] != slip;
      if (!free) continue;
      lot[p] = slip;
      lotsFrom(ages, lot, p + 1, all);
    }
  }

  private static int ownIn(int[] lot) {
    int n = 0;
    for (int p = 0; p < lot.length; p++) if (lot[p] == p) n++;
    return n;
  }

  private static int earnedBy(State s, int[] lot) {
    int sum = 0;
    for (int p = 0; p < lot.length; p++) sum += earns(s, p, lot[p]);
    return sum;
  }

  /** The lots are written out in order, so the first best one is the least. */
  private static int[] bestLot(State s) {
    int[] best = null;
    int most = -1;
    for (int[] lot : rightLots(s)) {
      int sum = earnedBy(s, lot);
      if (sum > most) {
        most = sum;
        best = lot;
      }
    }
    return best;
  }

  private boolean there(int p) {
    return 0 <= p && p < state.people.size();
  }

  private static boolean between(int v, int low, int high) {
    return low <= v && v <= high;
  }

  // ---- the face

  long person(int kind) {
    if (!between(kind, 0, 5)) return finding(BEYOND);
    if (state.people.size() == 8) return finding(FULL);
    return add(state, kind);
  }

  private static int add(State s, int kind) {
    One o = new One();
    o.kind = kind;
    o.slip = s.people.size();
    s.people.add(o);
    return o.slip;
  }

  long of(int person, int what) {
    if (!there(person) || !between(what, 0, 6)) return finding(BEYOND);
    One o = state.people.get(person);
    return new int[] {o.kind, o.work, o.purse, o.name, o.kept, o.slip, earns(state, person, o.slip)}[what];
  }

  long says(int person) {
    if (!there(person)) return finding(BEYOND);
    One o = state.people.get(person);
    return 100 + saysAs(state, o.kind, person, o.slip);
  }

  long set(int person, int what, int v) {
    if (!there(person) || !between(what, 1, 4)) return finding(BEYOND);
    if (!between(v, 0, new int[] {0, 20, 99999, 99, 99}[what])) return finding(BEYOND);
    One o = state.people.get(person);
    int was = new int[] {0, o.work, o.purse, o.name, o.kept}[what];
    if (what == 1) o.work = v;
    if (what == 2) o.purse = v;
    if (what == 3) o.name = v;
    if (what == 4) o.kept = v;
    return was;
  }

  long turn(int person, int kind) {
    if (!there(person) || !between(kind, 0, 5)) return finding(BEYOND);
    int was = state.people.get(person).kind;
    state.people.get(person).kind = kind;
    return was;
  }

  long as(int person, int kind) {
    if (!there(person) || !between(kind, 0, 5)) return finding(BEYOND);
    String[] under = {"012345", "14", "25", "3", "4", "5"};
    if (under[kind].indexOf('0' + state.people.get(person).kind) < 0) return finding(KIND);
    return state.people.get(person).name;
  }

  long swap(int person, int other) {
    if (!there(person) || !there(other) || person == other) return finding(BEYOND);
    if (child(state, person) != child(state, other)) return finding(STATE);
    exchange(state, person, other);
    return own(state);
  }

  long home() {
    int n = state.people.size() - own(state);
    for (int p = 0; p < state.people.size(); p++) state.people.get(p).slip = p;
    return n;
  }

  long draw() {
    drawLot(state);
    return own(state);
  }

  long seed(int v) {
    int was = state.z;
    state.z = v;
    return was;
  }

  long fridays(int n) {
    if (!between(n, 1, 60)) return finding(BEYOND);
    if (state.friday + n > 9999) return finding(STATE);
    state = after(state, n);
    return purses(state);
  }

  long season(int n) {
    if (!between(n, 1, 20)) return finding(BEYOND);
    if (state.friday + n > 9999) return finding(STATE);
    for (int i = 0; i < n; i++) {
      drawLot(state);
      state = after(state, 1);
    }
    return purses(state);
  }

  long now(int what) {
    int children = 0, own = 0, insults = 0;
    boolean right = true;
    for (int p = 0; p < state.people.size(); p++) {
      One o = state.people.get(p);
      if (o.kind == 3) children += 1 << p;
      if (o.slip == p) own += 1 << p;
      insults += o.kept;
      right &= child(state, p) == child(state, o.slip);
    }
    if (!between(what, 0, 6)) return finding(BEYOND);
    return new int[] {state.friday, purses(state), children, own, allEarn(state), right ? 1 : 0, insults}[what];
  }

  long who(int person) {
    return there(person) ? holder(state, person) : finding(BEYOND);
  }

  private int ringOf(int person) {
    int set = 0;
    for (int p = person; (set >> p & 1) == 0; p = state.people.get(p).slip) set |= 1 << p;
    return set;
  }

  long ring(int person) {
    return there(person) ? ringOf(person) : finding(BEYOND);
  }

  long rings() {
    return java.util.stream.IntStream.range(0, state.people.size()).map(this::ringOf).distinct().count();
  }

  long pairs() {
    return java.util.stream.IntStream.range(0, state.people.size()).map(this::ringOf).distinct()
        .filter(r -> Integer.bitCount(r) == 2).count();
  }

  long on(int person, int n, int what) {
    if (!there(person) || !between(n, 0, 60) || !between(what, 0, 2)) return finding(BEYOND);
    One o = after(state, n).people.get(person);
    return new int[] {o.purse, o.name, o.kept}[what];
  }

  long itself(int person) {
    if (!there(person)) return finding(BEYOND);
    State s = state.twin();
    for (int i = 1; i <= 60; i++) {
      drawLot(s);
      if (s.people.get(person).slip == person) return i;
    }
    return finding(NONE);
  }

  long most() {
    return earnedBy(state, bestLot(state));
  }

  long slip(int person) {
    return there(person) ? bestLot(state)[person] : finding(BEYOND);
  }

  long better() {
    int most = allEarn(state);
    int answer = -1;
    for (int code = 1; code < 78; code++) {
      int p = code / 10, q = code % 10;
      if (p >= q || !there(q) || child(state, p) != child(state, q)) continue;
      State s = state.twin();
      exchange(s, p, q);
      if (allEarn(s) > most) {
        most = allEarn(s);
        answer = code;
      }
    }
    return answer < 0 ? finding(NONE) : answer;
  }

  long bestAs(int person) {
    if (!there(person)) return finding(BEYOND);
    int answer = -1;
    for (int p = state.people.size() - 1; p >= 0; p--) {
      if (p == person || child(state, p) != child(state, person)) continue;
      if (answer < 0 || earns(state, p, person) >= earns(state, answer, person)) answer = p;
    }
    return answer < 0 ? finding(NONE) : answer;
  }

  long kind(int person) {
    if (!there(person)) return finding(BEYOND);
    int slip = state.people.get(person).slip;
    int answer = 5;
    for (int k = 4; k >= 0; k--) {
      if (earnsAs(state, k, person, slip) >= earnsAs(state, answer, person, slip)) answer = k;
    }
    return answer;
  }

  long odds(int what) {
    if (!between(what, 0, 1)) return finding(BEYOND);
    long all = rightLots(state).size();
    long none = rightLots(state).stream().filter(lot -> ownIn(lot) == 0).count();
    if (none == 0) return what;
    for (long d = none; d > 1; d--) {
      if (none % d == 0 && all % d == 0) {
        none /= d;
        all /= d;
      }
    }
    return what == 0 ? none : all;
  }

  long lots(int k) {
    if (!between(k, 0, 8)) return finding(BEYOND);
    return rightLots(state).stream().filter(lot -> ownIn(lot) == k).count();
  }

  long feed(int bytes, int n) {
    if (!between(n, 1, 4)) return finding(BEYOND);
    if (tape.length() + n > 120) return finding(FULL);
    byte[] four = java.nio.ByteBuffer.allocate(4).putInt(bytes).array();
    for (int i = 4 - n; i < 4; i++) tape.append((char) (four[i] & 255));
    return tape.length();
  }

  long wipe() {
    int n = tape.length();
    tape.setLength(0);
    return n;
  }

  private static final class Fault extends Exception {
    private static final long serialVersionUID = 1L;
    final int place;

    Fault(int place) {
      this.place = place;
    }
  }

  /** Tokens and where they stand; the last one is empty and stands at the end. */
  private static final class Tokens {
    final List<String> texts = new ArrayList<>();
    final List<Integer> places = new ArrayList<>();
    int at;

    Tokens(String text) {
      Matcher m = Pattern.compile(" +|([a-z]+|[0-9]+|[^ ])", Pattern.DOTALL).matcher(text);
      while (m.find()) {
        if (m.group(1) == null) continue;
        texts.add(m.group(1));
        places.add(m.start());
      }
      texts.add("");
      places.add(text.length());
    }

    boolean next(String text) {
      if (!texts.get(at).equals(text)) return false;
      at++;
      return true;
    }

    int number(int most) throws Fault {
      String t = texts.get(at);
      if (!t.matches("0*[0-9]{1,3}") || Integer.parseInt(t.replaceFirst("^0+(?=.)", "")) > most) throw fault();
      at++;
      return Integer.parseInt(t.replaceFirst("^0+(?=.)", ""));
    }

    Fault fault() {
      return new Fault(places.get(at));
    }
  }

  long village() {
    Tokens tokens = new Tokens(tape.toString());
    tape.setLength(0);
    State s = state.twin();
    try {
      int items = 0;
      do {
        item(tokens, s);
        items++;
      } while (tokens.next(";"));
      if (tokens.at != tokens.texts.size() - 1) throw tokens.fault();
      state = s;
      return items;
    } catch (Fault f) {
      return -1 - f.place;
    }
  }

  private static void item(Tokens tokens, State s) throws Fault {
    if (tokens.next("slip")) {
      int p = tokens.number(s.people.size() - 1);
      if (!tokens.next("is")) throw tokens.fault();
      exchange(s, p, holder(s, tokens.number(s.people.size() - 1)));
      return;
    }
    int kind = Arrays.asList(NAMES).indexOf(tokens.texts.get(tokens.at));
    if (kind < 0 || s.people.size() == 8) throw tokens.fault();
    tokens.at++;
    One o = s.people.get(add(s, kind));
    if (tokens.next("work")) o.work = tokens.number(20);
    if (tokens.next("purse")) o.purse = tokens.number(999);
    if (tokens.next("name")) o.name = tokens.number(99);
  }

  long sheet(int s, int bits, int n) {
    if (!between(s, 0, 3) || !Arrays.asList(0, 8, 16, 64).contains(bits)) return finding(BEYOND);
    if (n < 0) return finding(SIZE);
    if (n > 40) return finding(BEYOND);
    rows[s] = null;
    if (bits == 0) return 0;
    rows[s] = new Row();
    rows[s].bits = bits;
    rows[s].numbers = new long[n];
    return n;
  }

  private static long cut(long v, int bits) {
    return v << 64 - bits >> 64 - bits;
  }

  long write(int s, int i, long v) {
    if (!between(s, 0, 3)) return finding(BEYOND);
    if (rows[s] == null) return finding(MISSING);
    if (!between(i, 0, rows[s].numbers.length - 1)) return finding(BEYOND);
    long was = rows[s].numbers[i];
    rows[s].numbers[i] = cut(v, rows[s].bits);
    return was;
  }

  long copy(int s, int from, int t, int to, int n) {
    if (!between(s, 0, 3) || !between(t, 0, 3)) return finding(BEYOND);
    if (rows[s] == null || rows[t] == null) return finding(MISSING);
    if (rows[s].bits != rows[t].bits) return finding(KIND);
    if (from < 0 || to < 0 || n < 0) return finding(BEYOND);
    if ((long) from + n > rows[s].numbers.length || (long) to + n > rows[t].numbers.length) return finding(BEYOND);
    long[] were = rows[s].numbers.clone();
    for (int i = 0; i < n; i++) rows[t].numbers[to + i] = were[from + i];
    return n;
  }

  long lays(int s) {
    if (!between(s, 0, 3)) return finding(BEYOND);
    if (rows[s] == null) return finding(MISSING);
    if (rows[s].numbers.length != state.people.size()) return finding(SIZE);
    for (int[] lot : rightLots(state)) {
      boolean same = true;
      for (int p = 0; p < lot.length; p++) same &= lot[p] == rows[s].numbers[p];
      if (!same) continue;
      for (int p = 0; p < lot.length; p++) state.people.get(p).slip = lot[p];
      return own(state);
    }
    return finding(STATE);
  }

  long book(int s, int person) {
    if (!between(s, 0, 3)) return finding(BEYOND);
    if (rows[s] == null) return finding(MISSING);
    if (!there(person)) return finding(BEYOND);
    long[] numbers = rows[s].numbers;
    for (int i = 0; i < numbers.length; i++) {
      numbers[i] = cut(after(state, i).people.get(person).purse, rows[s].bits);
    }
    return numbers.length;
  }

  long read(int s, int person) {
    if (!between(s, 0, 3)) return finding(BEYOND);
    if (rows[s] == null) return finding(MISSING);
    if (!there(person)) return finding(BEYOND);
    int n = 0;
    for (int slip = 0; slip < state.people.size(); slip++) {
      if (child(state, slip) != child(state, person)) continue;
      State then = state.twin();
      exchange(then, person, holder(then, slip));
      then = after(then, 1);
      boolean same = true;
      for (int p = 0; p < then.people.size() && p < rows[s].numbers.length; p++) {
        same &= then.people.get(p).purse == rows[s].numbers[p];
      }
      if (same) n++;
    }
    return n;
  }

  long image() {
    kept = state.twin();
    return 1;
  }

  long undo() {
    if (kept == null) return finding(NONE);
    state = kept.twin();
    return state.people.size();
  }

  long tear() {
    int was = kept == null ? 0 : 1;
    kept = null;
    return was;
  }

  long count(int what) {
    if (!between(what, 0, 3)) return finding(BEYOND);
    int names = state.people.stream().mapToInt(o -> o.name).sum();
    return new int[] {state.people.size(), tape.length(), state.z, names}[what];
  }

  long status(int which) {
    if (!between(which, -1, 6)) return finding(BEYOND);
    return which < 0 ? Arrays.stream(found).sum() : found[which];
  }
}
